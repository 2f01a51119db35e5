/-! the law's whole run -/
theorem good_K {K : Nat → Nat → Nat → Bool} {M M' : xM} (f : fz K M M') (hK : ∀ k o s, (k = 101 ∧ o < 27) ∨ (200 ≤ k ∧ k < 227) → K k o s = false) (h : xgood (xsl 0) M = true) : xgood (xsl 0) M' = true := by
  have hL : (xsl 0).all (fun q => Nat.blt q.1 27) = true := by decide +kernel
  unfold xgood at h ⊢
  refine List.all_eq_true.mpr (fun q hq => ?_)
  have g1 := List.all_eq_true.mp h q hq
  have l : q.1 < 27 := Nat.le_of_ble_eq_true (List.all_eq_true.mp hL q hq)
  have e1 : gn M' 101 q.1 0 = gn M 101 q.1 0 := fz_gn f (hK _ _ _ (Or.inl ⟨rfl, l⟩))
  have e2 : ∀ o f', gn M' (200 + q.1) o f' = gn M (200 + q.1) o f' := fun o f' => fz_gn f (hK _ _ _ (Or.inr ⟨by omega, by omega⟩))
  rw [e1, xgdF_lt e2, xgdA_lt e2]
  exact g1
/-- all letters are letters -/
def BY (l : List Int) : Prop := ∀ i, 0 ≤ l.getD i 0 ∧ l.getD i 0 < 128
theorem BY_app {l m : List Int} (h : BY l) (h2 : BY m) : BY (l ++ m) := fun i => by
  by_cases q : i < l.length
  · rw [gD_l q]; exact h i
  · rw [gD_r (by omega)]; exact h2 _
theorem BY_c {c : Nat} (h : c < 128) : BY [((c : Nat) : Int)] := fun i => by
  cases i with
  | zero => exact ⟨by show (0 : Int) ≤ (c : Int); omega, by show (c : Int) < 128; omega⟩
  | succ i => exact ⟨by show (0 : Int) ≤ 0; decide, by show (0 : Int) < 128; decide⟩
theorem BY_s {o : Nat} (h : o < 13) : BY (sL o) := fun i => by
  by_cases q : i < cN o
  · rw [sL_at q]; exact cB_bd h q
  · rw [gD_o (by rw [sL_len]; omega)]; decide
theorem BY_dm {dem : Nat → Nat} {l : List Int} (h : BY l) : ∀ n, (∀ r, r < n → dem r < 10) → BY (dmX dem l n) := by
  intro n
  induction n with
  | zero => intro _; exact h
  | succ n ih =>
    intro hd
    have d := hd n (by omega)
    exact BY_app (BY_app (ih (fun r hr => hd r (by omega))) (BY_c (by decide))) (BY_c (by omega))
theorem BY_lk {k z : Nat} {l : List Int} (h : BY l) (hk : k ≤ 8) : BY (lkX k z l) := by
  unfold lkX
  by_cases c : hasN k z = true
  · have k0 : 0 < k := by
      unfold hasN at c
      rw [Bool.and_eq_true] at c
      exact of_decide_eq_true c.1
    have x1 : lk1 k z < k := Nat.mod_lt _ k0
    have x2 : lk2 k z < k := Nat.mod_lt _ k0
    have a := BY_app (BY_app h (BY_s (o := 11) (by decide))) (BY_c (c := 97 + lk1 k z) (by omega))
    rw [if_pos c]
    by_cases e : twoN k z = true
    · rw [if_pos e]
      exact BY_app (BY_app a (BY_s (by decide))) (BY_c (by omega))
    · rw [if_neg e]; exact a
  · rw [if_neg c]; exact h
theorem BY_rs {d : Nat} {C : Nat → Nat} (hd : d < 10) : ∀ n, n ≤ 3 → (∀ r, r < n → C r < 10) → BY (rsA d C n) := by
  intro n
  induction n with
  | zero => intro _ _; exact BY_app (BY_app (BY_s (by decide)) (BY_c (by omega))) (BY_c (by decide))
  | succ n ih =>
    intro hn hC
    have c := hC n (by omega)
    exact BY_app (BY_app (BY_app (BY_app (BY_app (ih (by omega) (fun r hr => hC r (by omega))) (BY_s (by decide))) (BY_c (by omega))) (BY_c (by decide))) (BY_c (by omega))) (BY_c (by decide))
theorem BY_tk {d R : Nat} {C Z : Nat → Nat} (hd : d < 10) (hR : R ≤ 3) (hC : ∀ r, r < R → C r < 10) : ∀ n, n ≤ 8 → BY (tkA d R C Z n) := by
  intro n
  induction n with
  | zero => intro _; exact BY_rs hd R hR hC
  | succ n ih =>
    intro hn
    have du : durN (Z n) < 10 := by unfold durN; omega
    refine BY_app (BY_lk (BY_dm ?_ R (fun r hr => ?_)) (by omega)) (BY_c (by decide))
    · exact BY_app (BY_app (BY_app (BY_app (ih (by omega)) (BY_s (by decide))) (BY_c (by omega))) (BY_c (by decide))) (BY_c (by omega))
    · have c := hC r hr
      have m : demN (Z n) r (C r) < C r + 1 := Nat.mod_lt _ (by omega)
      omega
theorem law_runs (L : Nat) (xs : Nat → Int32) (hL : L ≤ 260) : ∃ M', m_L_law 0 (xM0 L xs) = rI 1 M' ∧ gn M' 100 0 0 ≤ 600086 ∧ gn M' 100 0 1 ≤ 7301442 := by
  obtain ⟨X, e1, K1, N1, G1, z17, z19, cc, l151, r1, r1'⟩ := s_made L xs
  have p0 := pkV_rg (M := X) (a := 0) (k := 0) (n := 3) (by decide)
  have p1 := pkV_rg (M := X) (a := 0) (k := 1) (n := 8) (by decide)
  have p2 := pkV_rg (M := X) (a := 0) (k := 2) (n := 4) (by decide)
  have q0 : m_L_pick 0 0 3 X = rI (zi (pkV X 0 0 3)) X := q_pick (a := 0) (k := 0) (n := 3) (by decide) (by omega) (by decide) (by decide)
  have q1 : m_L_pick 0 1 8 X = rI (zi (pkV X 0 1 8)) X := q_pick (a := 0) (k := 1) (n := 8) (by decide) (by omega) (by decide) (by decide)
  obtain ⟨R, hR⟩ : ∃ R, R = 1 + (pkV X 0 0 3).toNat := ⟨_, rfl⟩
  obtain ⟨T, hT⟩ : ∃ T, T = 1 + (pkV X 0 1 8).toNat := ⟨_, rfl⟩
  have eR : (1 : Int32) + zi (pkV X 0 0 3) = zi (R : Nat) := by
    rw [show (1 : Int32) = zi 1 from rfl, zi_add]; exact congrArg zi (by omega)
  have eT : (1 : Int32) + zi (pkV X 0 1 8) = zi (T : Nat) := by
    rw [show (1 : Int32) = zi 1 from rfl, zi_add]; exact congrArg zi (by omega)
  have hC : ∀ r, r < R → 1 ≤ pC X 0 r ∧ pC X 0 r ≤ 4 := fun r _ => by
    have p := pkV_rg (M := X) (a := 0) (k := 3 + r) (n := 4) (by decide)
    unfold pC
    omega
  have hd : pD X 0 ≤ 3 := by unfold pD; omega
  obtain ⟨Y, f, e2, t2, v2, f2, r2, r2'⟩ := q_setup (a := 0) (R := R) (T := T) K1 N1 (by omega) (by omega) (by omega)
  have tl := tkA_len (pD X 0) (R := R) (by omega) (pC X 0) (pZ X 0) T
  have by0 := BY_tk (d := pD X 0) (R := R) (C := pC X 0) (Z := pZ X 0) (by omega) (by omega) (fun r hr => by have := hC r hr; omega) T (by omega)
  generalize hl : tkA (pD X 0) R (pC X 0) (pZ X 0) T = l at t2 v2 tl by0
  generalize ht : gn X 101 46 0 = t at e2 t2
  have tb : TB Y t l := ⟨⟨t2.1, t2.2.1, t2.2.2.1, fun i => rfl⟩, fun i hi => (t2.2.2.2 i).trans (v2 i hi), fun i _ => by0 i⟩
  have G2 : xgood (xsl 0) Y = true := good_K f2 (fun k o s q => onWs_ff (by omega)) G1
  have K2 : KC Y := KC_fz K1 f2 (fun k o s q => onWs_ff (by omega))
  obtain ⟨Y1, e3, f3, i3⟩ := q_say (n := 0) G2 tb (by omega) (by decide) ((fz_gi f2 (onWs_ff (by decide))).trans z19)
  have G3 : xgood (xsl 0) Y1 = true := good_fz _ f3 (fun k o s q => I0_no (by omega)) G2
  have K3 : KC Y1 := KC_fz K2 f3 (fun k o s q => I0_no (by omega))
  have w3 : gi Y1 17 0 1 = zi ((0 : Nat) : Int) := (fz_gi f3 (I0_no (by decide))).trans ((fz_gi f2 (onWs_ff (by decide))).trans z17)
  have hb : ∀ i, i < (tkA (pD X 0) R (pC X 0) (pZ X 0) T).length → 0 ≤ (tkA (pD X 0) R (pC X 0) (pZ X 0) T).getD i 0 ∧ (tkA (pD X 0) R (pC X 0) (pZ X 0) T).getD i 0 < 128 := fun i _ => by rw [hl]; exact by0 i
  obtain ⟨Y2, b, e4, f4, c4, n4⟩ := q_load (M := Y1) (d := pD X 0) (R := R) (T := T) (w := 0) (C := pC X 0) (Z := pZ X 0) G3 (by decide) w3 hd (by omega) (by omega) hC hb (by rw [hl]; exact i3) K3
  have kk : ∀ k o s, (k = 101 ∧ (o = 27 ∨ o = 28)) ∨ k = 151 ∨ k = 41 → Y2 k o s = X k o s := fun k o s q => (f4 k o s (Cm_no (by omega))).trans ((f3 k o s (I0_no (by omega))).trans (f2 k o s (onWs_ff (by omega))))
  have c27 : gn Y2 101 27 0 = gn X 101 27 0 := by unfold gn; rw [kk 101 27 0 (by decide)]
  have c28 : gn Y2 101 28 0 = gn X 101 28 0 := by unfold gn; rw [kk 101 28 0 (by decide)]
  have l2 : gn Y2 151 0 0 = L := by
    have : gn Y2 151 0 0 = gn X 151 0 0 := by unfold gn; rw [kk 151 0 0 (by decide)]
    rw [this]; exact l151
  obtain ⟨M', e5, ro⟩ := LI_all (M0 := Y2) (a := 0) (by omega) ⟨⟨b, c4, by omega⟩, by rw [c27, c28]; exact cc, fun k o s _ => rfl, RO_refl Y2⟩
  have ra : ∀ s, gn Y2 100 0 s = gn Y 100 0 s := fun s => (fz_gn f4 (Cm_no (by decide))).trans (fz_gn f3 (I0_no (by decide)))
  refine ⟨M', ?_, ?_, ?_⟩
  · have c1 : gn (xM0 L xs) 101 1 0 = 0 := rfl
    rw [e_m_L_law, c1, e1, xret_v, xbV_r, q0, xret_I, xbI_r, q1, xret_I, xbI_r, eR, eT, e2, xret_v, xbR_r, e3, xret_I, xbI_r, if_neg (show ¬ bz true = 0 by decide), xgd_t (by rw [G3]; rfl), e4, xret_I, xbI_r, if_pos rfl, e5]
  · have := ro.1
    rw [ra 0] at this
    omega
  · have := ro.2
    rw [ra 1] at this
    omega
