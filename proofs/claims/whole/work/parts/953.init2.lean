/-! the beginning: the class is made -/
def ZC2 (k o s : Nat) : Bool := Nat.beq k 17 || (Nat.beq k 19 && Nat.beq o 0) || (Nat.beq k 21 && (Nat.beq o 0 && Nat.beq s 8)) || Nat.beq k 26 || (Nat.ble 27 k && Nat.blt k 41)
theorem ZC2_i {k o s : Nat} (h : ZC2 k o s = true) : k = 17 ∨ (k = 19 ∧ o = 0) ∨ (k = 21 ∧ o = 0 ∧ s = 8) ∨ k = 26 ∨ (27 ≤ k ∧ k < 41) := by
  unfold ZC2 at h
  simp only [Bool.or_eq_true, Bool.and_eq_true, Nat.beq_eq, Nat.ble_eq, Nat.blt_eq] at h
  omega
theorem ZC_t {k o s : Nat} (h : k = 17 ∨ k = 19 ∨ (k = 21 ∧ o = 0 ∧ s = 8) ∨ k = 26 ∨ (27 ≤ k ∧ k < 41)) : ZC k o s = true := by
  unfold ZC
  simp only [Bool.or_eq_true, Bool.and_eq_true, Nat.beq_eq, Nat.ble_eq, Nat.blt_eq]
  omega
theorem is3_f {k o f k' o' f' : Nat} (h : ¬ (k' = k ∧ o' = o ∧ f' = f)) : is3 k o f k' o' f' = false := by
  cases e : is3 k o f k' o' f' with
  | false => rfl
  | true => exact absurd (is3_i e) h
theorem kC_f {o p k o' s : Nat} (h : ¬ ((k = 21 ∧ o' = o) ∨ (2 ≤ k ∧ k ≤ 9 ∧ o' = p))) : onC o p k o' s = false := by
  cases e : onC o p k o' s with
  | false => rfl
  | true => exact absurd (kC e) h
theorem onCs_f {k o s : Nat} (h : ¬ (k < 41 ∨ k = 100 ∨ (k = 101 ∧ o < 41) ∨ (200 ≤ k ∧ k < 241))) : onCs k o s = false := by
  cases e : onCs k o s with
  | false => rfl
  | true =>
    unfold onCs at e
    simp only [Bool.or_eq_true, Bool.and_eq_true, Nat.beq_eq, Nat.ble_eq, Nat.blt_eq] at e
    omega
theorem KC_Cs {M M' : xM} (h : KC M) (f : fz onCs M M') : KC M' := KC_fz h f (fun k o s q => onCs_f (by omega))
def cC2 (j : Nat) : Nat := xnth [0, 1, 10, 10, 10, 10, 10, 10, 10, 10, 1, 1, 1, 1, 1, 1, 1, 1, 1, 2, 2, 2, 1, 1, 30, 1, 1] j
def fC2 (k o f : Nat) : Bool := fB2 k o f || fT 1 k o f || fP 9 k o f || is3 1 0 0 k o f
theorem s_C2 {M0 A : xM} {r1 r2 : Nat} (hK0 : KC M0) (bA : AZ M0 A cB2 fB2 ZC YC r1 r2) (h8 : gn A 1 0 8 = 12) : ∃ X, b_C_init_41 0 2 A = rV X ∧ AZ M0 X cC2 fC2 ZC2 YC (r1 + 20) (r2 + 1000) ∧ gn X 1 0 8 = 12 ∧ ∀ N, RT N Bz 170 0 → ∃ N1, m_M_parseSetup 0 N = rI (bz true) N1 ∧ fz onV8 N N1 ∧ ∃ b, wF b ∧ CP X 9 b ∧ RB N1 b := by
  have cut := Bz_cut
  rw [Bool.and_eq_true, Bool.and_eq_true] at cut
  obtain ⟨⟨cu1, cu2⟩, cu3⟩ := cut
  have cu3 := of_decide_eq_true cu3
  have k21 : gn A 101 21 0 = 1 := AZ_c bA (k := 21) (by decide)
  have bT0 := AZ_new bA 21 10 (by decide)
  obtain ⟨T1, eT, bT⟩ := s_Tinit bT0 (o := 1) (by decide +kernel) (by decide +kernel) (by decide +kernel) (fun _ => rfl)
  have t8 : gn T1 1 0 8 = 12 := (Tinit_1 eT).trans h8
  have g1 : gn T1 221 1 0 = 1 := AZ_f bT (k := 21) (o := 1) (f := 0) (by decide +kernel)
  have x1 : xgood (xsl 1) T1 = true := xgood_AZ bT (by decide) (by decide +kernel)
  have K1 : KC T1 := KC_Cs hK0 bT.1
  have z1 : gi T1 19 1 1 = zi ((0 : Nat) : Int) := bT.2.2.2.1 19 1 1 (by decide +kernel)
  obtain ⟨P1, e1, f1, n1, o1, l1⟩ := s_putText K1 (t := 13) (by decide) z1 (by decide)
  have bP1 := AZ_fz bT f1 (fun k o s hk => onIx_f (by omega))
  have g2 : gn P1 221 1 0 = 1 := AZ_f bP1 (k := 21) (o := 1) (f := 0) (by decide +kernel)
  have x2 : xgood (xsl 1) P1 = true := xgood_AZ bP1 (by decide) (by decide +kernel)
  have K2 := KC_Ix K1 f1
  obtain ⟨P2, e2, f2, n2, o2, l2⟩ := s_putText K2 (t := 14) (by decide) n1 (by decide)
  have bP2 := AZ_fz bP1 f2 (fun k o s hk => onIx_f (by omega))
  have g3 : gn P2 221 1 0 = 1 := AZ_f bP2 (k := 21) (o := 1) (f := 0) (by decide +kernel)
  have x3 : xgood (xsl 1) P2 = true := xgood_AZ bP2 (by decide) (by decide +kernel)
  have K3 := KC_Ix K2 f2
  obtain ⟨P3, e3, f3, n3, o3, l3⟩ := s_putText K3 (t := 15) (by decide) n2 (by decide)
  have bP3 := AZ_fz bP2 f3 (fun k o s hk => onIx_f (by omega))
  have K4 := KC_Ix K3 f3
  obtain ⟨Q, eQ, gQ, bQ⟩ := s_newP bP3 (p := 9) (rng10 (by decide +kernel))
  have x4 : xgood (xsl 2) Q = true := xgood_AZ bQ (by decide) (by decide +kernel)
  have K5 : KC Q := KC_Cs hK0 bQ.1
  have q9 : ∀ k o s, (k = 1 ∨ (10 ≤ k ∧ k < 60)) → Q k o s = P3 k o s := fun k o s hk => (Pinit_1 eQ hk o s).trans (xnew_v (by omega) (by omega) (by omega))
  have gq : ∀ k o s, (k = 1 ∨ (10 ≤ k ∧ k < 60)) → gi Q k o s = gi P3 k o s := fun k o s hk => by unfold gi; rw [q9 k o s hk]
  have tx : ∀ k, k < 170 → gi P3 20 1 k = zi (Bz k) := fun k hk => by
    by_cases c1 : k < 43
    · have a := l1 k c1
      rw [Nat.zero_add] at a
      have b := List.all_eq_true.mp cu1 k (List.mem_range.mpr c1)
      rw [of_decide_eq_true b, o3 k (by show k < 0 + 43 + 68; omega), o2 k (by show k < 0 + 43; omega)]
      exact a
    · by_cases c2 : k < 111
      · have a := l2 (k - 43) (by show k - 43 < 68; omega)
        have e : 0 + cN 13 + (k - 43) = k := by show 0 + 43 + (k - 43) = k; omega
        rw [e] at a
        have b := of_decide_eq_true (List.all_eq_true.mp cu2 (k - 43) (List.mem_range.mpr (by omega)))
        rw [show 43 + (k - 43) = k by omega] at b
        rw [b, o3 k (by show k < 0 + 43 + 68; omega)]
        exact a
      · have a := l3 (k - 111) (by show k - 111 < 59; omega)
        have e : 0 + cN 13 + cN 14 + (k - 111) = k := by show 0 + 43 + 68 + (k - 111) = k; omega
        rw [e] at a
        have b := of_decide_eq_true (List.all_eq_true.mp cu3 (k - 111) (List.mem_range.mpr (by omega)))
        rw [show 111 + (k - 111) = k by omega] at b
        rw [b]
        exact a
  have hIN : IN Q 1 Bz 170 := ⟨by decide, (gq 19 1 1 (by decide)).trans n3, fun k hk => by
    have hb := Bz_bd (k := k) (by omega)
    refine ⟨?_, by omega, by omega⟩
    rw [gq 20 1 k (by decide), tx k hk]
    unfold sb
    rw [if_pos hb.2]⟩
  obtain ⟨M6, e6, f6, hN⟩ := z_all hIN K5
  have b6 := AZ_fz bQ f6 (fun k o s hk => kC_f (by omega))
  have b7 := AZ_flag b6 1 201 0 0 (by decide) rfl (by decide +kernel)
  refine ⟨xst M6 201 0 0 (.ref 1), ?_, AZ_weak b7 (rng41 (by decide +kernel)) (fun k o f q => q) (fun k o s q => ?_) (fun k o s q => ?_) (by omega) (by omega), ?_, fun N hR => ?_⟩
  · rw [e_b_C_init_41, if_neg (by decide), k21, eT, xret_v, xbV_r, if_pos g1, xgd_t (by rw [x1]; rfl), e1, xret_v, xbV_r, if_pos g2, xgd_t (by rw [x2]; rfl), e2, xret_v, xbV_r, if_pos g3, xgd_t (by rw [x3]; rfl), e3, xret_v, xbV_r, eQ, xret_v, xbV_r, gQ, xgd_t (by rw [x4]; rfl), e6, xret_v, xbI_r, if_pos rfl]
  · have w := ZC2_i q
    have y1 : ZC k o s = true := ZC_t (by omega)
    have y2 : is3 21 1 9 k o s = false := is3_f (by omega)
    have y3 : onIx 1 k o s = false := by
      cases e : onIx 1 k o s with
      | false => rfl
      | true => have := onIx_i e; omega
    have y4 : onC 1 9 k o s = false := kC_f (by omega)
    show (((((ZC k o s && !is3 21 1 9 k o s) && !onIx 1 k o s) && !onIx 1 k o s) && !onIx 1 k o s) && !onC 1 9 k o s) = true
    rw [y1, y2, y3, y4]; rfl
  · have w := is3_i q
    have y3 : onIx 1 k o s = false := onIx_f (by omega)
    have y4 : onC 1 9 k o s = false := kC_f (by omega)
    show (((((YC k o s || is3 21 1 9 k o s) && !onIx 1 k o s) && !onIx 1 k o s) && !onIx 1 k o s) && !onC 1 9 k o s) = true
    rw [q, y3, y4]; rfl
  · have m8 : gn M6 1 0 8 = gn Q 1 0 8 := fz_gn f6 (kC_f (by decide))
    have q8 : gn Q 1 0 8 = gn P3 1 0 8 := by unfold gn; rw [q9 1 0 8 (Or.inl rfl)]
    rw [gn_k (by decide), m8, q8, fz_gn f3 (onIx_f (by decide)), fz_gn f2 (onIx_f (by decide)), fz_gn f1 (onIx_f (by decide))]
    exact t8
  · obtain ⟨N1, a, b, bb, w1, w2, w3⟩ := hN N hR
    exact ⟨N1, a, b, bb, w1, CP_fz w2 (fz_st (K := fun k _ _ => Nat.beq k 201) rfl) (fun k s h1 h2 => beq_ff (by omega)), w3⟩
