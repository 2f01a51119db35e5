/-! the beginning: the sample project's text, the class -/
def MAz (c : Nat → Nat) (F : Nat → Nat → Nat → Bool) : xM := fun k o f => if k = 101 then .ref (c o) else if F (k - 200) o f = true then .ref 1 else .retAddr 0
theorem MAz_f {c : Nat → Nat} {F : Nat → Nat → Nat → Bool} {k o f : Nat} (h : gn (MAz c F) (200 + k) o f = 1) : F k o f = true := by
  have e : MAz c F (200 + k) o f = if F k o f = true then .ref 1 else .retAddr 0 := by
    unfold MAz
    rw [if_neg (by omega), Nat.add_sub_cancel_left]
  unfold gn at h
  rw [e] at h
  cases hF : F k o f with
  | true => rfl
  | false =>
    rw [hF, if_neg (by decide)] at h
    exact nomatch h
theorem xgdF_up {M M' : xM} {k : Nat} (h : ∀ o f, gn M (200 + k) o f = 1 → gn M' (200 + k) o f = 1) (o : Nat) : ∀ (L : List (Nat × Nat × Nat)) (f : Nat), xgdF M k o L f = true → xgdF M' k o L f = true := by
  intro L
  induction L with
  | nil => intro f _; rfl
  | cons q r ih =>
    intro f g
    obtain ⟨t, q2⟩ := q
    unfold xgdF at g ⊢
    rw [Bool.and_eq_true] at g ⊢
    refine ⟨?_, ih (f + 1) g.2⟩
    rcases t with _ | _ | t
    · rfl
    · rfl
    · have g1 : Nat.beq (gn M (200 + k) o f) 1 = true := g.1
      show Nat.beq (gn M' (200 + k) o f) 1 = true
      rw [h o f (Nat.eq_of_beq_eq_true g1)]
      rfl
theorem xgdA_up {M M' : xM} {k : Nat} (h : ∀ o f, gn M (200 + k) o f = 1 → gn M' (200 + k) o f = 1) (o : Nat) : ∀ n, xgdA M k o n = true → xgdA M' k o n = true := by
  intro n
  induction n with
  | zero => intro _; rfl
  | succ n ih =>
    intro g
    unfold xgdA at g ⊢
    rw [Bool.and_eq_true] at g ⊢
    refine ⟨?_, ih g.2⟩
    rw [h o n (Nat.eq_of_beq_eq_true g.1)]
    rfl
theorem xgood_AZ {M0 M : xM} {c : Nat → Nat} {F Z Y : Nat → Nat → Nat → Bool} {r1 r2 : Nat} {L : List (Nat × Nat)} (h : AZ M0 M c F Z Y r1 r2) (hL : L.all (fun q => Nat.blt q.1 41) = true) (g : xgood L (MAz c F) = true) : xgood L M = true := by
  unfold xgood at g ⊢
  refine List.all_eq_true.mpr (fun q hq => ?_)
  have g1 := List.all_eq_true.mp g q hq
  have l : q.1 < 41 := Nat.le_of_ble_eq_true (List.all_eq_true.mp hL q hq)
  rw [Bool.and_eq_true] at g1 ⊢
  have up : ∀ o f, gn (MAz c F) (200 + q.1) o f = 1 → gn M (200 + q.1) o f = 1 := fun o f e => AZ_f h (MAz_f e)
  refine ⟨?_, ?_⟩
  · rw [AZ_c h l]
    exact g1.1
  · have g2 := g1.2
    cases e : xra q.1 with
    | true =>
      rw [e] at g2
      exact xgdA_up up _ _ g2
    | false =>
      rw [e] at g2
      exact xgdF_up up _ _ _ g2
theorem KC_0 (L : Nat) (xs : Nat → Int32) : KC (xM0 L xs) := ⟨fun o ho => ⟨rfl, rfl, rfl, fun f => rfl⟩, fun o ho => ⟨rfl, rfl, rfl, rfl, rfl, rfl, rfl⟩, fun f => ⟨rfl, rfl⟩⟩
theorem Bz_tab : (List.range 600).all (fun k => decide (0 ≤ Bz k) && decide (Bz k < 128)) = true := by decide +kernel
theorem Bz_bd {k : Nat} (h : k < 600) : 0 ≤ Bz k ∧ Bz k < 128 := by
  have h1 := List.all_eq_true.mp Bz_tab k (List.mem_range.mpr h)
  rw [Bool.and_eq_true] at h1
  exact ⟨of_decide_eq_true h1.1, of_decide_eq_true h1.2⟩
def D0z : xM := fun k o s => if k = 27 then .int (zi 170) else if k = 30 then .int (zi (Bz s)) else xM0 0 (fun _ => 0) k o s
theorem D_ex : ∃ D, RT D Bz 170 0 := by
  have hK : KC D0z := KC_fz (K := fun k _ _ => Nat.beq k 27 || Nat.beq k 30) (KC_0 0 (fun _ => 0)) (fun k o s q => by
    rw [Bool.or_eq_false_iff] at q
    have a : k ≠ 27 := fun e => by subst e; exact nomatch (show true = false from q.1)
    have c : k ≠ 30 := fun e => by subst e; exact nomatch (show true = false from q.2)
    show (if k = 27 then _ else if k = 30 then _ else _) = _
    rw [if_neg a, if_neg c]) (fun k o s q => by
    rcases q with rfl | rfl | rfl | rfl | rfl | rfl | ⟨rfl | rfl | rfl | rfl, _⟩ <;> rfl)
  obtain ⟨D, _, _, h, _⟩ := r_begin (M := D0z) (B := Bz) (n := 170) ⟨by decide, rfl, fun k hk => ⟨rfl, by have := Bz_bd (k := k) (by omega); omega, by have := Bz_bd (k := k) (by omega); omega⟩⟩ hK (fun k hk => ⟨rfl, by have := Bz_bd hk; omega, by have := Bz_bd hk; omega⟩)
  exact ⟨D, h⟩
/-- the sample project is read -/
theorem z_all {M : xM} (hI : IN M 1 Bz 170) (hK : KC M) : ∃ M1, m_U_read 1 9 M = rI (bz true) M1 ∧ fz (onC 1 9) M M1 ∧ ∀ N, RT N Bz 170 0 → ∃ N1, m_M_parseSetup 0 N = rI (bz true) N1 ∧ fz onV8 N N1 ∧ Gst 9 M1 N1 := by
  obtain ⟨D, hD⟩ := D_ex
  obtain ⟨ok, M1, e1, f1, _, hN⟩ := setup_both (p := 9) hI hK hD
  have g0 : fz (onPz 9) M (xst (xst M 2 9 1 (.int 0)) 2 9 2 (.int 0)) := fz_step (fz_st (onPz_t (by decide) (by decide))) (onPz_t (by decide) (by decide))
  obtain ⟨M2, e2, f2, c2, _⟩ := s_open (IN_P hI g0) (KC_fz hK g0 (fun k o s q => onPz_k (by omega)))
  obtain ⟨M3, e3⟩ := z_read c2 (p := 9) ⟨(fz_gi f2 (on21_k (by decide))).trans ((gi_s (by decide)).trans (gi_h _ _ _ _ _)), (fz_gi f2 (on21_k (by decide))).trans (gi_h _ _ _ _ _), fun r hr => absurd hr (Nat.not_lt_zero r), fun j hj => absurd hj (Nat.not_lt_zero j)⟩
  have e4 : m_U_read 1 9 M = rI (bz true) M3 := by
    rw [e_m_U_read, e2, xbV_r]
    exact e3
  obtain ⟨a, _⟩ := rI_inj (e1.symm.trans e4)
  have a := bz_inj a
  subst a
  refine ⟨M1, e1, f1, fun N hR => ?_⟩
  obtain ⟨N1, n1, _, n3, _⟩ := hN N hR
  exact ⟨N1, n1, (n3 rfl).1, (n3 rfl).2⟩
/-- letters into the class's text -/
def onIx (o k o' s : Nat) : Bool := Nat.beq o' o && ((Nat.beq k 19 && Nat.beq s 1) || Nat.beq k 20)
theorem onIx_i {o k o' s : Nat} (h : onIx o k o' s = true) : o' = o ∧ ((k = 19 ∧ s = 1) ∨ k = 20) := by
  unfold onIx at h
  simp only [Bool.and_eq_true, Bool.or_eq_true, Nat.beq_eq] at h
  exact h
theorem onIx_f {o k o' s : Nat} (h : ¬ (k = 19 ∨ k = 20)) : onIx o k o' s = false := by
  cases e : onIx o k o' s with
  | false => rfl
  | true => have := onIx_i e; omega
theorem onIx_t {o s : Nat} : onIx o 19 o 1 = true ∧ onIx o 20 o s = true := by
  unfold onIx
  rw [Nat.beq_refl]
  exact ⟨rfl, rfl⟩
theorem KC_Ix {o : Nat} {M M' : xM} (h : KC M) (f : fz (onIx o) M M') : KC M' := KC_fz h f (fun k o s q => onIx_f (by omega))
theorem s_putText {M : xM} {o t n : Nat} (hK : KC M) (ht : t < 18) (h1 : gi M 19 o 1 = zi (n : Nat)) (hn : n + cN t ≤ 600) : ∃ M', m_I_putText o t M = rV M' ∧ fz (onIx o) M M' ∧ gi M' 19 o 1 = zi ((n + cN t : Nat) : Int) ∧ (∀ k, k < n → gi M' 20 o k = gi M 20 o k) ∧ ∀ k, k < cN t → gi M' 20 o (n + k) = zi (cB t k) := by
  have hc := cN_bd ht
  rw [e_m_I_putText]
  refine lpM (B := fun i N => b_I_putText_3 o t (zi (i : Nat)) N) (n := cN t) (fun i N => fz (onIx o) M N ∧ gi N 19 o 1 = zi ((n + i : Nat) : Int) ∧ (∀ k, k < n → gi N 20 o k = gi M 20 o k) ∧ ∀ k, k < i → gi N 20 o (n + k) = zi (cB t k)) (fun q => ∃ M', q = rV M' ∧ fz (onIx o) M M' ∧ gi M' 19 o 1 = zi ((n + cN t : Nat) : Int) ∧ (∀ k, k < n → gi M' 20 o k = gi M 20 o k) ∧ ∀ k, k < cN t → gi M' 20 o (n + k) = zi (cB t k)) (fun i N hi g => ?_) (fun N g => ?_) 0 M (Nat.zero_le _) ⟨fz_refl M, h1, fun _ _ => rfl, fun k hk => absurd hk (Nat.not_lt_zero k)⟩
  · obtain ⟨g1, g2, g3, g4⟩ := g
    have hKN := KC_Ix hK g1
    have hb := cB_bd ht hi
    have e0 : cB t i = (((cB t i).toNat : Nat) : Int) := by omega
    have by1 := by_eq (c := (cB t i).toNat) (by omega)
    rw [← e0] at by1
    refine ⟨xst (xst N 20 o (n + i) (.int (zi (cB t i)))) 19 o 1 (.int (zi ((n + (i + 1) : Nat) : Int))), ⟨fz_step (fz_step g1 onIx_t.2) (onIx_t (s := 0)).1, gi_h _ _ _ _ _, fun k hk => ?_, fun k hk => ?_⟩, ?_⟩
    · rw [gi_k (by decide), gi_s (by omega)]; exact g3 k hk
    · rw [gi_k (by decide)]
      by_cases c : k = i
      · subst c; rw [gi_h]
      · rw [gi_s (by omega)]; exact g4 k (by omega)
    · show b_I_putText_3 o t (zi (i : Nat)) N = b_I_putText_3 o t (zi ((i + 1 : Nat) : Int)) _
      rw [e_b_I_putText_3, s_strlen hKN ht, xret_I, xbI_r, if_pos (zi_ltn hi (by omega)), s_charAt hKN ht hi, xret_I, xbI_r, e_m_I_putByte, g2, zi_600, zif (by omega) (by omega) (by decide) (by decide), if_pos (by omega), xck_n (by omega) (by decide), zix (by omega), by1, zi_suc, xbV_r, zi_suc]
      rfl
  · obtain ⟨g1, g2, g3, g4⟩ := g
    show ∃ M', b_I_putText_3 o t (zi (cN t : Nat)) N = rV M' ∧ _
    rw [e_b_I_putText_3, s_strlen (KC_Ix hK g1) ht, xret_I, xbI_r, if_neg (zi_irr _)]
    exact ⟨N, rfl, g1, g2, g3, g4⟩
theorem Bz_cut : (List.range 43).all (fun k => decide (Bz k = cB 13 k)) && (List.range 68).all (fun k => decide (Bz (43 + k) = cB 14 k)) && (List.range 59).all (fun k => decide (Bz (111 + k) = cB 15 k)) = true := by decide +kernel
