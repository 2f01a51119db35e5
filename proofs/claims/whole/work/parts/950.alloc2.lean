/-! the beginning: the class's own things -/
def cP2 (c : Nat → Nat) (p : Nat) : Nat → Nat := fun j => if 2 ≤ j ∧ j ≤ 9 then p + 1 else c j
theorem s_newP {M0 M : xM} {c : Nat → Nat} {F Z Y : Nat → Nat → Nat → Bool} {r1 r2 p : Nat} (h : AZ M0 M c F Z Y r1 r2) (hc : ∀ j, 2 ≤ j → j ≤ 9 → c j = p) : ∃ M', m_P_init (gn M 101 2 0) (xnew M 2 10) = rV M' ∧ gn M 101 2 0 = p ∧ AZ M0 M' (cP2 c p) (fun k o f => F k o f || fP p k o f) Z Y (r1 + 8) (r2 + 100) := by
  have g2 : gn M 101 2 0 = p := (AZ_c h (by decide)).trans (hc 2 (by decide) (by decide))
  have a := AZ_new h 2 10 (by decide)
  obtain ⟨M', e, A⟩ := s_Pinit (p := p) a (fun j h1 h2 => by
    unfold upc
    rw [if_neg (by omega)]; exact hc j (by omega) h2) (by unfold upc; rw [if_pos rfl, hc 2 (by decide) (by decide)]; omega)
  refine ⟨M', by rw [g2]; exact e, g2, AZ_weak A (fun j hj => ?_) (fun _ _ _ q => q) (fun _ _ _ q => q) (fun _ _ _ q => q) (by omega) (by omega)⟩
  unfold cP2 cP1 upc
  by_cases e2 : 3 ≤ j ∧ j ≤ 9
  · rw [if_pos (by omega), if_pos e2]
  · rw [if_neg e2]
    by_cases e3 : j = 2
    · subst e3; rw [if_pos (by omega), if_pos rfl, hc 2 (by decide) (by decide)]
    · rw [if_neg (by omega), if_neg e3]
/-- what was remembered -/
def cH (c : Nat → Nat) (i : Nat) : Nat → Nat := fun j => if 2 ≤ j ∧ j ≤ 9 then i + 1 else if j = 18 then 1 else c j
def fH (i k o f : Nat) : Bool := (Nat.beq k 17 && (Nat.beq o 0 && Nat.beq f 0)) || ((Nat.beq k 2 && (Nat.ble 1 o && (Nat.ble o i && (Nat.ble 3 f && Nat.ble f 9)))) || (Nat.beq k 18 && (Nat.beq o 0 && Nat.blt f i)))
theorem s_Hinit {M0 M : xM} {c : Nat → Nat} {F Z Y : Nat → Nat → Nat → Bool} {r1 r2 : Nat} (h : AZ M0 M c F Z Y r1 r2) (hc : ∀ j, 2 ≤ j → j ≤ 9 → c j = 1) (h17 : c 17 = 1) (h18 : c 18 = 0) : ∃ M', m_H_init 0 M = rV M' ∧ AZ M0 M' (cH c 6) (fun k o f => F k o f || fH 6 k o f) Z Y (r1 + 49) (r2 + 606) := by
  have a1 := AZ_new h 18 6 (by decide)
  have a2 := AZ_flag a1 17 217 0 0 (by decide) rfl (by unfold upc; rw [if_neg (by decide), h17]; decide)
  have i0 : AZ M0 (xst (xnew M 18 6) 217 0 0 (.ref 1)) (cH c 0) (fun k o f => F k o f || fH 0 k o f) Z Y (r1 + 1 + 8 * 0) (r2 + 6 + 100 * 0) := AZ_weak a2 (fun j hj => by
    unfold cH upc
    by_cases e : 2 ≤ j ∧ j ≤ 9
    · rw [if_pos e, if_neg (by omega), hc j e.1 e.2]
    · rw [if_neg e]
      by_cases e2 : j = 18
      · rw [if_pos e2, if_pos e2, h18]
      · rw [if_neg e2, if_neg e2]) (fun k o f q => by
    cases hF : F k o f with
    | true => simp [hF]
    | false =>
      unfold fH at q
      unfold is3
      simp only [hF, Bool.false_or, Bool.or_eq_true, Bool.and_eq_true, Nat.beq_eq, Nat.ble_eq, Nat.blt_eq] at q ⊢
      omega) (fun _ _ _ q => q) (fun _ _ _ q => q) (by omega) (by omega)
  rw [e_m_H_init, if_pos (by decide), if_pos ((AZ_c h (k := 18) (by decide)).trans h18)]
  refine lpM (B := fun i N => b_H_init_9 0 (zi (i : Nat)) N) (n := 6) (fun i N => AZ M0 N (cH c i) (fun k o f => F k o f || fH i k o f) Z Y (r1 + 1 + 8 * i) (r2 + 6 + 100 * i)) (fun q => ∃ M', q = rV M' ∧ AZ M0 M' (cH c 6) (fun k o f => F k o f || fH 6 k o f) Z Y (r1 + 49) (r2 + 606)) (fun i N hi g => ?_) (fun N g => ?_) 0 _ (Nat.zero_le _) i0
  · obtain ⟨N1, e1, g1, b1⟩ := s_newP g (p := i + 1) (fun j x y => by unfold cH; rw [if_pos ⟨x, y⟩])
    have b2 := AZ_flag b1 18 218 0 i (by decide) rfl (by unfold cP2 cH; rw [if_neg (by decide), if_neg (by decide), if_pos rfl]; decide)
    have f17 : gn N 217 0 0 = 1 := AZ_f g (k := 17) (o := 0) (f := 0) (by
      show (F 17 0 0 || fH i 17 0 0) = true
      rw [show fH i 17 0 0 = true from rfl, Bool.or_true])
    refine ⟨xst N1 218 0 i (.ref 1), AZ_weak b2 (fun j hj => ?_) (fun k o f q => ?_) (fun _ _ _ q => q) (fun _ _ _ q => q) (by omega) (by omega), ?_⟩
    · unfold cP2 cH
      by_cases e : 2 ≤ j ∧ j ≤ 9
      · rw [if_pos e, if_pos e]
      · rw [if_neg e, if_neg e, if_neg e]
    · cases hF : F k o f with
      | true => simp [hF]
      | false =>
        unfold fH at q
        unfold is3 fP fH
        simp only [hF, Bool.false_or, Bool.or_eq_true, Bool.and_eq_true, Nat.beq_eq, Nat.ble_eq, Nat.blt_eq] at q ⊢
        omega
    · show b_H_init_9 0 (zi (i : Nat)) N = b_H_init_9 0 (zi ((i + 1 : Nat) : Int)) _
      rw [e_b_H_init_9, zi_06, zif (by omega) (by omega) (by decide) (by decide), if_pos (by omega), if_pos f17, e1, xret_v, xbV_r, xck_n hi (by decide), g1, zix (by omega), if_pos rfl, zi_suc]
  · show ∃ M', b_H_init_9 0 (zi ((6 : Nat) : Int)) N = rV M' ∧ _
    rw [e_b_H_init_9, if_neg (by decide)]
    exact ⟨N, rfl, AZ_weak g (fun _ _ => rfl) (fun _ _ _ q => q) (fun _ _ _ q => q) (fun _ _ _ q => q) (by omega) (by omega)⟩
/-- the table of commands -/
def cR (c : Nat → Nat) (i : Nat) : Nat → Nat := fun j => if j = 24 then i else if j = 23 then 1 else c j
def fR (i k o f : Nat) : Bool := (Nat.beq k 22 && (Nat.beq o 0 && Nat.beq f 0)) || ((Nat.beq k 24 && (Nat.blt o i && Nat.beq f 0)) || (Nat.beq k 23 && (Nat.beq o 0 && Nat.blt f i)))
theorem s_Rinit {M0 M : xM} {c : Nat → Nat} {F Z Y : Nat → Nat → Nat → Bool} {r1 r2 : Nat} (h : AZ M0 M c F Z Y r1 r2) (h22 : c 22 = 1) (h23 : c 23 = 0) (h24 : c 24 = 0) (hY : ∀ o s, Y 24 o s = false) : ∃ M', m_R_init 0 M = rV M' ∧ AZ M0 M' (cR c 30) (fun k o f => F k o f || fR 30 k o f) Z Y (r1 + 31) (r2 + 180) := by
  have a1 := AZ_new h 23 30 (by decide)
  have a2 := AZ_flag a1 22 222 0 0 (by decide) rfl (by unfold upc; rw [if_neg (by decide), h22]; decide)
  have i0 : AZ M0 (xst (xnew M 23 30) 222 0 0 (.ref 1)) (cR c 0) (fun k o f => F k o f || fR 0 k o f) Z Y (r1 + 1 + 0) (r2 + 30 + 5 * 0) := AZ_weak a2 (fun j hj => by
    unfold cR upc
    by_cases e : j = 24
    · subst e; rw [if_pos rfl, if_neg (by decide), h24]
    · rw [if_neg e]
      by_cases e2 : j = 23
      · rw [if_pos e2, if_pos e2, h23]
      · rw [if_neg e2, if_neg e2]) (fun k o f q => by
    cases hF : F k o f with
    | true => simp [hF]
    | false =>
      unfold fR at q
      unfold is3
      simp only [hF, Bool.false_or, Bool.or_eq_true, Bool.and_eq_true, Nat.beq_eq, Nat.ble_eq, Nat.blt_eq] at q ⊢
      omega) (fun _ _ _ q => q) (fun _ _ _ q => q) (by omega) (by omega)
  rw [e_m_R_init, if_pos (by decide), if_pos ((AZ_c h (k := 23) (by decide)).trans h23)]
  refine lpM (B := fun i N => b_R_init_9 0 (zi (i : Nat)) N) (n := 30) (fun i N => AZ M0 N (cR c i) (fun k o f => F k o f || fR i k o f) Z Y (r1 + 1 + i) (r2 + 30 + 5 * i)) (fun q => ∃ M', q = rV M' ∧ AZ M0 M' (cR c 30) (fun k o f => F k o f || fR 30 k o f) Z Y (r1 + 31) (r2 + 180)) (fun i N hi g => ?_) (fun N g => ?_) 0 _ (Nat.zero_le _) i0
  · have c24 : gn N 101 24 0 = i := AZ_c g (k := 24) (by decide)
    have b1 := AZ_new g 24 5 (by decide)
    have b2 := AZ_ref b1 24 i 0 6 (by decide) (hY _ _)
    have b3 := AZ_flag b2 24 224 i 0 (by decide) rfl (by unfold upc cR; rw [if_pos rfl, if_pos rfl]; omega)
    have b4 := AZ_flag b3 23 223 0 i (by decide) rfl (by unfold upc cR; rw [if_neg (by decide), if_neg (by decide), if_pos rfl]; decide)
    have f22 : gn N 222 0 0 = 1 := AZ_f g (k := 22) (o := 0) (f := 0) (by
      show (F 22 0 0 || fR i 22 0 0) = true
      rw [show fR i 22 0 0 = true from rfl, Bool.or_true])
    refine ⟨_, AZ_weak b4 (fun j hj => ?_) (fun k o f q => ?_) (fun _ _ _ q => q) (fun _ _ _ q => q) (by omega) (by omega), ?_⟩
    · unfold upc cR
      by_cases e : j = 24
      · rw [if_pos e, if_pos e, if_pos rfl]
      · rw [if_neg e, if_neg e, if_neg e]
    · cases hF : F k o f with
      | true => simp [hF]
      | false =>
        unfold fR at q
        unfold is3 fR
        simp only [hF, Bool.false_or, Bool.or_eq_true, Bool.and_eq_true, Nat.beq_eq, Nat.ble_eq, Nat.blt_eq] at q ⊢
        omega
    · show b_R_init_9 0 (zi (i : Nat)) N = b_R_init_9 0 (zi ((i + 1 : Nat) : Int)) _
      rw [e_b_R_init_9, zi_30, zif (by omega) (by omega) (by decide) (by decide), if_pos (by omega), if_pos f22, c24, e_m_K_init, xret_v, xbV_r, xck_n hi (by decide), zix (by omega), if_pos (by omega), zi_suc]
  · show ∃ M', b_R_init_9 0 (zi ((30 : Nat) : Int)) N = rV M' ∧ _
    rw [e_b_R_init_9, if_neg (by decide)]
    exact ⟨N, rfl, AZ_weak g (fun _ _ => rfl) (fun _ _ _ q => q) (fun _ _ _ q => q) (fun _ _ _ q => q) (by omega) (by omega)⟩
/-- a reader of tokens with its text -/
theorem is3_41 {k o f k' o' s : Nat} (hk : k < 41) (h : 41 ≤ k') : is3 k o f k' o' s = false := by
  cases e : is3 k o f k' o' s with
  | false => rfl
  | true =>
    have := is3_i e
    omega
theorem AZ_neg {M0 M : xM} {c : Nat → Nat} {F Z Y : Nat → Nat → Nat → Bool} {r1 r2 k o s : Nat} (h : AZ M0 M c F Z Y r1 r2) (hk : k < 41) (ho : o < c k) (hv : gi M k o s = zi (-1)) : AZ M0 M c F Z (fun k' o' s' => Y k' o' s' || is3 k o s k' o' s') r1 r2 := ⟨h.1, h.2.1, h.2.2.1, h.2.2.2.1, fun k' o' s' q => by
  rw [Bool.or_eq_true] at q
  rcases q with q | q
  · exact h.2.2.2.2.1 k' o' s' q
  · obtain ⟨rfl, rfl, rfl⟩ := is3_i q
    exact ⟨hv, hk, ho⟩, h.2.2.2.2.2⟩
def cT (c : Nat → Nat) (o : Nat) : Nat → Nat := fun j => if j = 19 ∨ j = 20 then o + 1 else c j
def fT (t k o f : Nat) : Bool := Nat.beq o t && ((Nat.beq k 19 && Nat.beq f 0) || (Nat.beq k 21 && (Nat.beq f 0 || Nat.beq f 3)))
theorem s_Tinit {M0 M : xM} {c : Nat → Nat} {F Z Y : Nat → Nat → Nat → Bool} {r1 r2 o : Nat} (h : AZ M0 M c F Z Y r1 r2) (h19 : c 19 = o) (h20 : c 20 = o) (h21 : o < c 21) (hY : ∀ s, Y 21 o s = false) : ∃ M', m_T_init o M = rV M' ∧ AZ M0 M' (cT c o) (fun k o' f => F k o' f || fT o k o' f) (fun k' o' s' => Z k' o' s' && !is3 21 o 9 k' o' s') (fun k' o' s' => Y k' o' s' || is3 21 o 9 k' o' s') (r1 + 2) (r2 + 602) := by
  have a1 := AZ_new h 19 2 (by decide)
  have a2 := AZ_new a1 20 600 (by decide)
  have a3 := AZ_flag a2 19 219 o 0 (by decide) rfl (by unfold upc; rw [if_neg (by decide), if_pos rfl]; omega)
  have q21 : o < upc (upc c 19) 20 21 := by unfold upc; rw [if_neg (by decide), if_neg (by decide)]; exact h21
  have a4 := AZ_flag a3 21 221 o 0 (by decide) rfl q21
  have a5 := AZ_ref a4 21 o 3 4 (by decide) (hY _)
  have a6 := AZ_flag a5 21 221 o 3 (by decide) rfl q21
  have a7 := AZ_fz a6 (fz_st (K := is3 21 o 9) (v := .int (-1)) (is3_t 21 o 9)) (fun k o' s hk => is3_41 (by decide) hk)
  have a8 := AZ_neg a7 (k := 21) (o := o) (s := 9) (by decide) q21 (gi_h _ _ _ _ _)
  refine ⟨_, ?_, AZ_weak a8 (fun j hj => ?_) (fun k o' f q => ?_) (fun _ _ _ q => q) (fun k o' f q => ?_) (by omega) (by omega)⟩
  · rw [e_m_T_init, AZ_c h (k := 19) (by decide), h19, e_m_I_init, if_pos (by decide), if_pos ((AZ_c a1 (k := 20) (by decide)).trans (show upc c 19 20 = o from h20)), xret_v, xbV_r, if_pos rfl]
  · unfold cT upc
    by_cases e : j = 19
    · subst e; rw [if_pos (Or.inl rfl), if_neg (by decide), if_pos rfl, h19]
    · by_cases e2 : j = 20
      · subst e2; rw [if_pos (Or.inr rfl), if_pos rfl, if_neg (by decide), h20]
      · rw [if_neg (by omega), if_neg e2, if_neg e]
  · cases hF : F k o' f with
    | true => simp [hF]
    | false =>
      unfold fT at q
      unfold is3
      simp only [hF, Bool.false_or, Bool.or_eq_true, Bool.and_eq_true, Nat.beq_eq, Nat.ble_eq, Nat.blt_eq] at q ⊢
      omega
  · rw [Bool.or_eq_true] at q ⊢
    rcases q with q | q
    · left
      rw [Bool.and_eq_true]
      refine ⟨q, ?_⟩
      cases e : is3 21 o 9 k o' f with
      | false => rfl
      | true =>
        obtain ⟨rfl, rfl, rfl⟩ := is3_i e
        rw [hY] at q; exact nomatch q
    · exact Or.inr q
/-- the dates and the schedule -/
def cS (c : Nat → Nat) : Nat → Nat := fun j => if j = 10 ∨ j = 11 ∨ j = 12 ∨ j = 13 ∨ j = 14 ∨ j = 16 then 1 else c j
def fS (k o f : Nat) : Bool := Nat.beq o 0 && ((Nat.beq k 10 && Nat.blt f 4) || (Nat.beq k 15 && Nat.blt f 2))
theorem s_Sinit {M0 M : xM} {c : Nat → Nat} {F Z Y : Nat → Nat → Nat → Bool} {r1 r2 : Nat} (h : AZ M0 M c F Z Y r1 r2) (h10 : c 10 = 0) (h11 : c 11 = 0) (h12 : c 12 = 0) (h13 : c 13 = 0) (h14 : c 14 = 0) (h15 : c 15 = 1) (h16 : c 16 = 0) : ∃ M', m_S_init 0 M = rV M' ∧ AZ M0 M' (cS c) (fun k o f => F k o f || fS k o f) Z Y (r1 + 6) (r2 + 65) := by
  have a0 := AZ_new h 10 5 (by decide)
  have q10 : ∀ {c1 : Nat → Nat}, c1 10 = 1 → 0 < c1 10 := fun e => by rw [e]; decide
  have b1 := AZ_new a0 11 12 (by decide)
  have a1 := AZ_flag b1 10 210 0 0 (by decide) rfl (by unfold upc; rw [if_neg (by decide), if_pos rfl]; omega)
  have b2 := AZ_new a1 12 12 (by decide)
  have a2 := AZ_flag b2 10 210 0 1 (by decide) rfl (by unfold upc; rw [if_neg (by decide), if_neg (by decide), if_pos rfl]; omega)
  have b3 := AZ_new a2 13 12 (by decide)
  have a3 := AZ_flag b3 10 210 0 2 (by decide) rfl (by unfold upc; rw [if_neg (by decide), if_neg (by decide), if_neg (by decide), if_pos rfl]; omega)
  have b4 := AZ_new a3 14 12 (by decide)
  have a4 := AZ_flag b4 10 210 0 3 (by decide) rfl (by unfold upc; rw [if_neg (by decide), if_neg (by decide), if_neg (by decide), if_neg (by decide), if_pos rfl]; omega)
  have q15 : 0 < upc (upc (upc (upc (upc c 10) 11) 12) 13) 14 15 := by
    show 0 < c 15
    omega
  have a5 := AZ_flag a4 15 215 0 0 (by decide) rfl q15
  have b6 := AZ_new a5 16 12 (by decide)
  have a6 := AZ_flag b6 15 215 0 1 (by decide) rfl (by show 0 < c 15; omega)
  refine ⟨_, ?_, AZ_weak a6 (fun j hj => ?_) (fun k o f q => ?_) (fun _ _ _ q => q) (fun _ _ _ q => q) (by omega) (by omega)⟩
  · rw [e_m_S_init, AZ_c h (k := 10) (by decide), h10, e_m_D_init, if_pos (by decide), if_pos ((AZ_c a0 (k := 11) (by decide)).trans (show c 11 = 0 from h11)), if_pos (by decide), if_pos ((AZ_c b1 (k := 12) (by decide)).trans (show c 12 = 0 from h12)), if_pos (by decide), if_pos ((AZ_c b2 (k := 13) (by decide)).trans (show c 13 = 0 from h13)), if_pos (by decide), if_pos ((AZ_c b3 (k := 14) (by decide)).trans (show c 14 = 0 from h14)), xret_v, xbV_r, if_pos rfl, if_pos (by decide), if_pos ((AZ_c a4 (k := 16) (by decide)).trans (show c 16 = 0 from h16))]
  · unfold cS
    by_cases e : j = 10 ∨ j = 11 ∨ j = 12 ∨ j = 13 ∨ j = 14 ∨ j = 16
    · rw [if_pos e]
      rcases e with rfl | rfl | rfl | rfl | rfl | rfl
      · show 1 = c 10 + 1; omega
      · show 1 = c 11 + 1; omega
      · show 1 = c 12 + 1; omega
      · show 1 = c 13 + 1; omega
      · show 1 = c 14 + 1; omega
      · show 1 = c 16 + 1; omega
    · rw [if_neg e]
      unfold upc
      rw [if_neg (by omega), if_neg (by omega), if_neg (by omega), if_neg (by omega), if_neg (by omega), if_neg (by omega)]
  · cases hF : F k o f with
    | true => simp [hF]
    | false =>
      unfold fS at q
      unfold is3
      simp only [hF, Bool.false_or, Bool.or_eq_true, Bool.and_eq_true, Nat.beq_eq, Nat.ble_eq, Nat.blt_eq] at q ⊢
      omega
