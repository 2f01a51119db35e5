/-! the class is made -/
theorem s_C2 {M0 A : xM} {r1 r2 : Nat} (hK0 : KC M0) (bA : AZ M0 A cB2 fB2 ZC YC r1 r2) : ∃ X, b_C_init_41 0 2 A = rV X ∧ AZ M0 X cC2 fC2 ZC2 YC (r1 + 20) (r2 + 1000) := by
  have k21 : gn A 101 21 0 = 1 := AZ_c bA (k := 21) (by decide)
  have bT0 := AZ_new bA 21 10 (by decide)
  obtain ⟨T1, eT, bT⟩ := s_Tinit bT0 (o := 1) (by decide +kernel) (by decide +kernel) (by decide +kernel) (fun _ => rfl)
  have g1 : gn T1 221 1 0 = 1 := AZ_f bT (k := 21) (o := 1) (f := 0) (by decide +kernel)
  have x1 : xgood (xsl 1) T1 = true := xgood_AZ bT (by decide) (by decide +kernel)
  have K1 : KC T1 := KC_Cs hK0 bT.1
  have z1 : gi T1 19 1 1 = zi ((0 : Nat) : Int) := bT.2.2.2.1 19 1 1 (by decide +kernel)
  obtain ⟨P1, e1, f1, n1, o1, l1⟩ := s_putText K1 (t := 5) (by decide) z1 (by decide)
  have bP1 := AZ_fz bT f1 (fun k o s hk => onIx_f (by omega))
  have g2 : gn P1 221 1 0 = 1 := AZ_f bP1 (k := 21) (o := 1) (f := 0) (by decide +kernel)
  have x2 : xgood (xsl 1) P1 = true := xgood_AZ bP1 (by decide) (by decide +kernel)
  have K2 := KC_Ix K1 f1
  obtain ⟨P2, e2, f2, n2, o2, l2⟩ := s_putText K2 (t := 6) (by decide) n1 (by decide)
  have bP2 := AZ_fz bP1 f2 (fun k o s hk => onIx_f (by omega))
  have g3 : gn P2 221 1 0 = 1 := AZ_f bP2 (k := 21) (o := 1) (f := 0) (by decide +kernel)
  have x3 : xgood (xsl 1) P2 = true := xgood_AZ bP2 (by decide) (by decide +kernel)
  have K3 := KC_Ix K2 f2
  obtain ⟨P3, e3, f3, n3, o3, l3⟩ := s_putText K3 (t := 7) (by decide) n2 (by decide)
  have bP3 := AZ_fz bP2 f3 (fun k o s hk => onIx_f (by omega))
  have K4 := KC_Ix K3 f3
  obtain ⟨Q, eQ, gQ, bQ⟩ := s_newP bP3 (p := 9) (rng10 (by decide +kernel))
  have x4 : xgood (xsl 2) Q = true := xgood_AZ bQ (by decide) (by decide +kernel)
  have K5 : KC Q := KC_Cs hK0 bQ.1
  have q9 : ∀ k o s, (k = 1 ∨ (10 ≤ k ∧ k < 60)) → Q k o s = P3 k o s := fun k o s hk => (Pinit_1 eQ hk o s).trans (xnew_v (by omega) (by omega) (by omega))
  have gq : ∀ k o s, (k = 1 ∨ (10 ≤ k ∧ k < 60)) → gi Q k o s = gi P3 k o s := fun k o s hk => by unfold gi; rw [q9 k o s hk]
  have c5 : cN 5 = 43 := by decide +kernel
  have c6 : cN 6 = 68 := by decide +kernel
  have c7 : cN 7 = 59 := by decide +kernel
  rw [c5] at l1 o2 l2 n1 n2 n3 o3 l3
  rw [c6] at l2 n2 n3 o3 l3
  rw [c7] at n3 l3
  have tx : ∀ k, k < 170 → gi P3 20 1 k = zi (Bz k) ∧ 0 ≤ Bz k ∧ Bz k < 128 := fun k hk => by
    unfold Bz
    by_cases c1 : k < 43
    · have a := l1 k c1
      rw [Nat.zero_add] at a
      rw [if_pos c1, o3 k (by omega), o2 k (by omega)]
      exact ⟨a, cB_bd (by decide) (by rw [c5]; exact c1)⟩
    · by_cases c2 : k < 111
      · have a := l2 (k - 43) (by omega)
        rw [show 0 + 43 + (k - 43) = k by omega] at a
        rw [if_neg c1, if_pos c2, o3 k (by omega)]
        exact ⟨a, cB_bd (by decide) (by rw [c6]; omega)⟩
      · have a := l3 (k - 111) (by omega)
        rw [show 0 + 43 + 68 + (k - 111) = k by omega] at a
        rw [if_neg c1, if_neg c2]
        exact ⟨a, cB_bd (by decide) (by rw [c7]; omega)⟩
  have hIN : IN Q 1 Bz 170 := ⟨by decide, (gq 19 1 1 (by decide)).trans n3, fun k hk => by
    obtain ⟨t1, t2, t3⟩ := tx k hk
    refine ⟨?_, t2, by omega⟩
    rw [gq 20 1 k (by decide), t1]
    unfold sb
    rw [if_pos t3]⟩
  obtain ⟨M6, e6, f6⟩ := z_read hIN K5
  have b6 := AZ_fz bQ f6 (fun k o s hk => kC_f (by omega))
  have b7 := AZ_flag b6 1 201 0 0 (by decide) rfl (by decide +kernel)
  refine ⟨xst M6 201 0 0 (.ref 1), ?_, AZ_weak b7 (rng41 (by decide +kernel)) (fun k o f q => q) (fun k o s q => ?_) (fun k o s q => ?_) (by omega) (by omega)⟩
  · rw [e_b_C_init_41, if_neg (by decide), k21, eT, xret_v, xbV_r, if_pos g1, xgd_t (by rw [x1]; rfl), e1, xret_v, xbV_r, if_pos g2, xgd_t (by rw [x2]; rfl), e2, xret_v, xbV_r, if_pos g3, xgd_t (by rw [x3]; rfl), e3, xret_v, xbV_r, eQ, xret_v, xbV_r, gQ, xgd_t (by rw [x4]; rfl), e6, xret_v, xbI_r, if_pos rfl]
  · have w := ZC2_i q
    have y1 : ZC k o s = true := ZC_t (by omega)
    have y2 : is3 21 1 9 k o s = false := is3_f (by omega)
    have y3 : onIx 1 k o s = false := by
      cases e : onIx 1 k o s with
      | false => rfl
      | true => have := onIx_i e; omega
    have y4 : onC 1 9 k o s = false := kC_f (by omega)
    show (((((ZC k o s && !is3 21 1 9 k o s) && !onIx 1 k o s) && !onIx 1 k o s) && !onIx 1 k o s) && !onC 1 9 k o s) = true
    rw [y1, y2, y3, y4]; rfl
  · have w := is3_i q
    have y3 : onIx 1 k o s = false := onIx_f (by omega)
    have y4 : onC 1 9 k o s = false := kC_f (by omega)
    show (((((YC k o s || is3 21 1 9 k o s) && !onIx 1 k o s) && !onIx 1 k o s) && !onIx 1 k o s) && !onC 1 9 k o s) = true
    rw [q, y3, y4]; rfl
theorem KC_0 (L : Nat) (xs : Nat → Int32) : KC (xM0 L xs) := ⟨fun o ho => ⟨rfl, rfl, rfl, fun f => rfl⟩, fun f => ⟨rfl, rfl⟩⟩
/-- the class as it is made -/
theorem s_made (L : Nat) (xs : Nat → Int32) : ∃ X, m_C_init 0 (xnew (xM0 L xs) 1 9) = rV X ∧ KC X ∧ CNs X ∧ xgood (xsl 0) X = true ∧ gi X 17 0 1 = zi ((0 : Nat) : Int) ∧ gi X 19 0 1 = zi ((0 : Nat) : Int) ∧ gn X 101 28 0 = gn X 101 27 0 ∧ gn X 151 0 0 = L ∧ gn X 100 0 0 ≤ 300 ∧ gn X 100 0 1 ≤ 4000 := by
  have K0 := KC_0 L xs
  have lt : ∀ k, k < 41 → xc0 k = 0 := by decide
  have gz : ∀ k o s, ZC k o s = true → gi (xM0 L xs) k o s = 0 := fun k o s h => by
    have := ZC_i h
    have : k = 17 ∨ k = 19 ∨ k = 21 ∨ k = 26 ∨ k = 27 ∨ k = 28 ∨ k = 29 ∨ k = 30 ∨ k = 31 ∨ k = 32 ∨ k = 33 ∨ k = 34 ∨ k = 35 ∨ k = 36 ∨ k = 37 ∨ k = 38 ∨ k = 39 ∨ k = 40 := by omega
    rcases this with rfl | rfl | rfl | rfl | rfl | rfl | rfl | rfl | rfl | rfl | rfl | rfl | rfl | rfl | rfl | rfl | rfl | rfl <;> rfl
  have a0 : AZ (xM0 L xs) (xM0 L xs) (fun _ => 0) (fun _ _ _ => false) ZC (fun _ _ _ => false) 0 0 := ⟨fz_refl _, fun k hk => lt k hk, fun k o f h => absurd (show false = true from h) (by decide), gz, fun k o s h => absurd (show false = true from h) (by decide), Nat.le_refl _, Nat.le_refl _⟩
  obtain ⟨B, e1, b1, _⟩ := s_C1 a0
  obtain ⟨A, e2, b2, _⟩ := s_C41 b1
  obtain ⟨X, e3, b3⟩ := s_C2 K0 b2
  have n46 : gn X 101 46 0 = 13 := fz_gn b3.1 (onCs_f (by decide))
  have n47 : gn X 101 47 0 = 13 := fz_gn b3.1 (onCs_f (by decide))
  have c27 : gn X 101 27 0 = 0 := (AZ_c b3 (k := 27) (by decide)).trans (by decide +kernel)
  have c28 : gn X 101 28 0 = 0 := (AZ_c b3 (k := 28) (by decide)).trans (by decide +kernel)
  refine ⟨X, by rw [e1, e2, e3], KC_Cs K0 b3.1, ⟨by rw [n46, n47], by rw [n47]; exact Nat.le_refl _⟩, xgood_AZ b3 (by decide) (by decide +kernel), b3.2.2.2.1 17 0 1 rfl, b3.2.2.2.1 19 0 1 rfl, by rw [c27, c28], fz_gn b3.1 (onCs_f (by decide)), ?_, ?_⟩
  · have := b3.2.2.2.2.2.1
    have z0 : gn (xM0 L xs) 100 0 0 = 0 := rfl
    omega
  · have := b3.2.2.2.2.2.2
    have z0 : gn (xM0 L xs) 100 0 1 = 0 := rfl
    omega
