/-! scripts: carried out one after another -/
theorem zi_inj {x y : Int} (h1 : -2147483648 ≤ x) (h2 : x < 2147483648) (h3 : -2147483648 ≤ y) (h4 : y < 2147483648) (h : zi x = zi y) : x = y := by rwa [zi_eq h1 h2 h3 h4] at h
theorem nr_T {b B : Nat → Int} {n f l : Nat} {w : Int64} {x y : Int32} (h : NR B n w x y) (hn : n ≤ 600) (hx : x = zi (f : Nat)) (hy : y = zi (l : Nat)) (hl : f + l ≤ 600) (hw : wN b) : fnd (fun t => decide (pk b (28 + 12 * t) = w)) (nT b) = fnd (fun t => nmE b (28 + 12 * t) B f l) (nT b) := by
  obtain ⟨f', l', h1, h2, h3, h4, h5, h6, h7⟩ := h
  have e1 : f' = f := by have := zi_inj (by omega) (by omega) (by omega) (by omega) (h2.symm.trans hx); omega
  have e2 : l' = l := by have := zi_inj (by omega) (by omega) (by omega) (by omega) (h3.symm.trans hy); omega
  subst e1; subst e2
  refine fnd_congr (fun t ht => ?_)
  rw [h1]
  exact nm_pk (hw.2.2.1 t ht) (by omega) h7
theorem nr_R {b B : Nat → Int} {n f l : Nat} {w : Int64} {x y : Int32} (h : NR B n w x y) (hn : n ≤ 600) (hx : x = zi (f : Nat)) (hy : y = zi (l : Nat)) (hl : f + l ≤ 600) (hw : wN b) : fnd (fun t => decide (pk b (4 + 8 * t) = w)) (nR b) = fnd (fun t => nmE b (4 + 8 * t) B f l) (nR b) := by
  obtain ⟨f', l', h1, h2, h3, h4, h5, h6, h7⟩ := h
  have e1 : f' = f := by have := zi_inj (by omega) (by omega) (by omega) (by omega) (h2.symm.trans hx); omega
  have e2 : l' = l := by have := zi_inj (by omega) (by omega) (by omega) (by omega) (h3.symm.trans hy); omega
  subst e1; subst e2
  refine fnd_congr (fun t ht => ?_)
  rw [h1]
  exact nm_pk (hw.2.2.2 t ht) (by omega) h7
theorem both_exec {M M' : xM} {B : Nat → Int} {n : Nat} {b0 b : Nat → Int} {i κ : Nat} (hn : n ≤ 600) (hw0 : wN b0) (hP : CP M 9 b) (hB : RB M' b) (hw : wF b) (hR : RN b0 b) (hK : KC M) (hI : IB M' B) (hG : GB M') (hi : i < 30) (hκ : κ < 8) (hC : CM M M' B n b0 i κ (pt1 κ) (pt2 κ) (pt3 κ) (pt4 κ)) : EX M M' (m_R_execute 9 i M) (m_M_carryOut 0 (zi (6 * i : Nat)) M') b := by
  obtain ⟨⟨k0, k0'⟩, c1, c2, c3, c4⟩ := hC
  have hwN := wF_N hw
  obtain ⟨f1, l1, f2, l2, ⟨le1, le2⟩, ⟨a1, a2, b1, b2⟩, e⟩ := r_exec hB hwN hI hG hi k0' hκ
  rw [s_exec hP hK k0 hκ, e]
  have T1 : pt1 κ → fnd (fun t => decide (pk b (28 + 12 * t) = gl M 24 i 1)) (nT b) = fnd (fun t => nmE b (28 + 12 * t) B f1 l1) (nT b) := fun q => nr_T (c1 q) hn a1 a2 le1 hwN
  have T2 : pt2 κ → fnd (fun t => decide (pk b (28 + 12 * t) = gl M 24 i 2)) (nT b) = fnd (fun t => nmE b (28 + 12 * t) B f2 l2) (nT b) := fun q => nr_T (c2 q) hn b1 b2 le2 hwN
  have T3 : pt3 κ → fnd (fun t => decide (pk b (4 + 8 * t) = gl M 24 i 3)) (nR b) = fnd (fun t => nmE b (4 + 8 * t) B f2 l2) (nR b) ∧ ∃ r : Nat, r < nR b ∧ fnd (fun t => nmE b (4 + 8 * t) B f2 l2) (nR b) = (r : Nat) := fun q => by
    obtain ⟨q1, q2⟩ := c3 q
    have ee := nr_R q1 hn b1 b2 le2 hwN
    rw [← RN_fnd hR hw0, ee] at q2
    obtain ⟨r, h1, h2, _⟩ := fnd_ok q2
    exact ⟨ee, r, h1, h2⟩
  have x1 := fnd_bd (fun t => nmE b (28 + 12 * t) B f1 l1) (nT b)
  have x2 := fnd_bd (fun t => nmE b (28 + 12 * t) B f2 l2) (nT b)
  have : κ = 0 ∨ κ = 1 ∨ κ = 2 ∨ κ = 3 ∨ κ = 4 ∨ κ = 5 ∨ κ = 6 ∨ κ = 7 := by omega
  rcases this with rfl | rfl | rfl | rfl | rfl | rfl | rfl | rfl
  · obtain ⟨v, v1, v2, v3, v4⟩ := c4 (Or.inl rfl)
    rw [if_pos (by decide), T1 (Or.inl rfl), v4]
    exact ex_D hP hB hw x1 ⟨v1, v2⟩ v3 _ _ _
  · obtain ⟨v, v1, v2, v3, v4⟩ := c4 (Or.inr (Or.inl rfl))
    obtain ⟨t1, r, t2, t3⟩ := T3 (Or.inl rfl)
    rw [if_pos (by decide), T1 (Or.inr (Or.inl rfl)), v4, t1, t3]
    exact ex_U hP hB hw x1 t2 ⟨v1, v2⟩ v3 _
  · obtain ⟨v, v1, v2, v3, v4⟩ := c4 (Or.inr (Or.inr (Or.inl rfl)))
    rw [if_pos (by decide), T1 (Or.inr (Or.inr (Or.inl rfl))), v4]
    exact ex_E hP hB hw x1 ⟨v1, v2⟩ v3 _ _ _
  · rw [if_neg (by decide), if_pos (by decide), T1 (Or.inr (Or.inr (Or.inr (Or.inl rfl)))), T2 (Or.inl rfl)]
    exact ex_L hP hB hw x1 x2 _
  · rw [if_neg (by decide), if_pos (by decide), T1 (Or.inr (Or.inr (Or.inr (Or.inr (Or.inl rfl))))), T2 (Or.inr rfl)]
    exact ex_K hP hB hw x1 x2 _
  · obtain ⟨v, v1, v2, v3, v4⟩ := c4 (Or.inr (Or.inr (Or.inr (Or.inl rfl))))
    obtain ⟨t1, r, t2, t3⟩ := T3 (Or.inr rfl)
    rw [if_neg (by decide), if_neg (by decide), v4, t1, t3]
    exact ex_C hP hB hw t2 ⟨v1, v2⟩ v3 _ _ _
  · obtain ⟨v, v1, v2, v3, v4⟩ := c4 (Or.inr (Or.inr (Or.inr (Or.inr rfl))))
    rw [if_neg (by decide), if_neg (by decide), v4]
    exact ex_R hP hB hw ⟨v1, v2⟩ v3 _ _ _ _ _
  · rw [if_neg (by decide), if_neg (by decide), T1 (Or.inr (Or.inr (Or.inr (Or.inr (Or.inr rfl)))))]
    exact ex_T hP hB hw x1 _ _ _ _
theorem fr_fz {K : Nat → Nat → Bool} {M M' : xM} (h : fr K M M') : fz (fun k o _ => K k o) M M' := fun k o s q => h k o s q
theorem both_run {B : Nat → Int} {n : Nat} {b0 : Nat → Int} {many : Nat} (hn : n ≤ 600) (hw0 : wN b0) (hm : many ≤ 30) : ∀ j c M M' b, c + j = many → CP M 9 b → RB M' b → wF b → RN b0 b → KC M → IB M' B → GB M' → gi M 22 0 1 = zi (many : Nat) → CMS M M' B n b0 many → ∃ (k : Nat) (M1 M1' : xM) (b' : Nat → Int), b_R_runOn_3 0 9 (zi (c : Nat)) M = rI (zi (k : Nat)) M1 ∧ b_M_runScript_27 0 (zi (many : Nat)) (zi (c : Nat)) M' = rI (zi (k : Nat)) M1' ∧ k ≤ many ∧ fr (onP 9) M M1 ∧ fz onEx M' M1' ∧ CP M1 9 b' ∧ RB M1' b' ∧ wF b' ∧ RN b0 b' := by
  intro j
  induction j with
  | zero =>
    intro c M M' b hc hP hB hw hR hK hI hG h22 hC
    have : c = many := by omega
    subst this
    refine ⟨c, M, M', b, ?_, ?_, Nat.le_refl _, fr_refl M, fz_refl M', hP, hB, hw, hR⟩
    · rw [e_b_R_runOn_3, h22, if_neg (zi_irr _)]
    · rw [e_b_M_runScript_27, if_neg (zi_irr _)]
  | succ j ih =>
    intro c M M' b hc hP hB hw hR hK hI hG h22 hC
    obtain ⟨κ, hκ, hCM⟩ := hC c (by omega)
    obtain ⟨ok, M1, M1', b', e1, e2, f1, f2, hP1, hB1, hw1, hR1⟩ := both_exec hn hw0 hP hB hw hR hK hI hG (by omega) hκ hCM
    have p24 : ∀ i s, M1 24 i s = M 24 i s := fun i s => f1 24 i s (onP_k (by omega))
    have p38 : ∀ s, gi M1' 38 0 s = gi M' 38 0 s := fun s => fz_gi f2 (onEx_k (by decide) (by decide))
    have i22 : gi M1 22 0 1 = zi (many : Nat) := (fr_gi f1 (onP_k (by omega)) 1).trans h22
    have E1 : b_R_runOn_3 0 9 (zi (c : Nat)) M = if bz ok = 0 then rI (zi (c : Nat)) M1 else b_R_runOn_3 0 9 (zi ((c + 1 : Nat) : Int)) M1 := by
      rw [e_b_R_runOn_3, h22, if_pos (zi_ltn (by omega) (by omega)), xck_n (by omega) (by decide), zix (by omega), Nat.add_zero, e1, xbI_r, zi_suc]
    have E2 : b_M_runScript_27 0 (zi (many : Nat)) (zi (c : Nat)) M' = if bz ok = 0 then rI (zi (c : Nat)) M1' else b_M_runScript_27 0 (zi (many : Nat)) (zi ((c + 1 : Nat) : Int)) M1' := by
      rw [e_b_M_runScript_27, if_pos (zi_ltn (by omega) (by omega)), zi_06, zi_mul, show ((c : Nat) : Int) * 6 = ((6 * c : Nat) : Int) by omega, e2, xbI_r, zi_suc]
    rw [E1, E2, ite_b, ite_b]
    cases ok with
    | false =>
      rw [if_neg (by decide), if_neg (by decide)]
      exact ⟨c, M1, M1', b', rfl, rfl, by omega, f1, f2, hP1, hB1, hw1, RN_trans hR hR1⟩
    | true =>
      rw [if_pos rfl, if_pos rfl]
      obtain ⟨k, A, A', b2, g1, g2, g3, g4, g5, g6⟩ := ih (c + 1) M1 M1' b' (by omega) hP1 hB1 hw1 (RN_trans hR hR1) (KC_fz hK (fr_fz f1) (fun k o s q => onP_k (by omega))) (fun k hk => ⟨(fz_gi f2 (onEx_k (by decide) (by decide))).trans (hI k hk).1, (hI k hk).2⟩) (GB_eq hG p38) i22 (fun i hi => by
        obtain ⟨κ2, w1, w2⟩ := hC i hi
        exact ⟨κ2, w1, CM_eq w2 (fun s => p24 i s) (fun s _ => p38 _)⟩)
      exact ⟨k, A, A', b2, g1, g2, g3, fr_trans f1 g4, fz_trans f2 g5, g6⟩
