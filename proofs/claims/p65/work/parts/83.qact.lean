/-! one change, if it is possible -/
theorem zi_rem {x y : Int} (h1 : 0 ≤ x) (h2 : x < 2147483648) (h3 : 0 < y) (h4 : y < 2147483648) : zi x - zi x / zi y * zi y = zi (x % y) := by
  rw [zi_div h1 h2 h3 h4, zi_mul, zi_sub]
  refine congrArg zi ?_
  have := Int.mul_ediv_add_emod x y
  rw [Int.mul_comm] at this
  omega
theorem dF_rg {n : Nat} {L : Nat → Nat → Bool} {a : Nat} (k b : Nat) : -1 ≤ dF n L a k b ∧ dF n L a k b ≤ k := by
  rcases dF_rch (n := n) (L := L) (a := a) k b with ⟨h, _⟩ | ⟨j, h1, h2, _⟩ <;> omega
def actC (M : xM) (r : xR) : Prop := ∃ M1 b1, r = rV M1 ∧ CI M1 b1 ∧ nT b1 ≤ 8 ∧ fr onG M M1
theorem act_no {M : xM} {b : Nat → Int} (h : CI M b) (h8 : nT b ≤ 8) : actC M (rV M) := ⟨M, b, rfl, h, h8, fr_refl M⟩
theorem act_up {M M1 : xM} {b : Nat → Int} {k : Nat} {v : Int} (h8 : nT b ≤ 8) (hk : k ≠ 2) (h : CI M1 (upI b k v)) (f : fr onG M M1) : actC M (rV M1) :=
  ⟨M1, _, rfl, h, by unfold nT; rw [upI_n (Ne.symm hk)]; exact h8, f⟩
theorem q_act {M : xM} {b : Nat → Int} (h : CI M b) (h8 : nT b ≤ 8) {z : Int} (z0 : 0 ≤ z) (z1 : z < 2147483648) : actC M (m_L_act 0 (zi z) M) := by
  have hw := h.1.1
  have hn := CI_n h
  have hr := wS_r hw
  have q16 : 0 ≤ z / 16 := Int.ediv_nonneg z0 (by decide)
  have q16' : z / 16 < 2147483648 := by omega
  have q256 : 0 ≤ z / 256 := Int.ediv_nonneg z0 (by decide)
  have q256' : z / 256 < 2147483648 := by omega
  have q4 : 0 ≤ z / 4096 := Int.ediv_nonneg z0 (by decide)
  have q4' : z / 4096 < 2147483648 := by omega
  have d16 : zi z / 16 = zi (z / 16) := zi_div z0 z1 (y := 16) (by decide) (by decide)
  have d256 : zi z / 256 = zi (z / 256) := zi_div z0 z1 (y := 256) (by decide) (by decide)
  have d4 : zi z / 4096 = zi (z / 4096) := zi_div z0 z1 (y := 4096) (by decide) (by decide)
  have m10 : zi z - zi z / 10 * 10 = zi (z % 10) := zi_rem z0 z1 (y := 10) (by decide) (by decide)
  have m9 : zi (z / 4096) - zi (z / 4096) / 9 * 9 = zi (z / 4096 % 9) := zi_rem q4 q4' (y := 9) (by decide) (by decide)
  have m12 : zi (z / 4096) - zi (z / 4096) / 12 * 12 = zi (z / 4096 % 12) := zi_rem q4 q4' (y := 12) (by decide) (by decide)
  have m4 : zi (z / 4096) - zi (z / 4096) / 4 * 4 = zi (z / 4096 % 4) := zi_rem q4 q4' (y := 4) (by decide) (by decide)
  have r9 : 0 ≤ z / 4096 % 9 ∧ z / 4096 % 9 < 9 := ⟨Int.emod_nonneg _ (by decide), Int.emod_lt_of_pos _ (by decide)⟩
  have r12 : 0 ≤ z / 4096 % 12 ∧ z / 4096 % 12 < 12 := ⟨Int.emod_nonneg _ (by decide), Int.emod_lt_of_pos _ (by decide)⟩
  have r4 : 0 ≤ z / 4096 % 4 ∧ z / 4096 % 4 < 4 := ⟨Int.emod_nonneg _ (by decide), Int.emod_lt_of_pos _ (by decide)⟩
  obtain ⟨T, eT, hT⟩ : ∃ T : Nat, zi (z / 16) - zi (z / 16) / zi (nT b : Nat) * zi (nT b : Nat) = zi (T : Nat) ∧ T < nT b := by
    have a1 : 0 ≤ z / 16 % (nT b : Nat) := Int.emod_nonneg _ (by omega)
    have a2 : z / 16 % (nT b : Nat) < (nT b : Nat) := Int.emod_lt_of_pos _ (by omega)
    exact ⟨(z / 16 % (nT b : Nat)).toNat, by rw [zi_rem q16 q16' (by omega) (by omega), Int.toNat_of_nonneg a1], by omega⟩
  obtain ⟨O, eO, hO⟩ : ∃ O : Nat, zi (z / 256) - zi (z / 256) / zi (nT b : Nat) * zi (nT b : Nat) = zi (O : Nat) ∧ O < nT b := by
    have a1 : 0 ≤ z / 256 % (nT b : Nat) := Int.emod_nonneg _ (by omega)
    have a2 : z / 256 % (nT b : Nat) < (nT b : Nat) := Int.emod_lt_of_pos _ (by omega)
    exact ⟨(z / 256 % (nT b : Nat)).toNat, by rw [zi_rem q256 q256' (by omega) (by omega), Int.toNat_of_nonneg a1], by omega⟩
  obtain ⟨R, eR, hR⟩ : ∃ R : Nat, zi (z / 16) - zi (z / 16) / zi (nR b : Nat) * zi (nR b : Nat) = zi (R : Nat) ∧ R < nR b := by
    have a1 : 0 ≤ z / 16 % (nR b : Nat) := Int.emod_nonneg _ (by omega)
    have a2 : z / 16 % (nR b : Nat) < (nR b : Nat) := Int.emod_lt_of_pos _ (by omega)
    exact ⟨(z / 16 % (nR b : Nat)).toNat, by rw [zi_rem q16 q16' (by omega) (by omega), Int.toNat_of_nonneg a1], by omega⟩
  have hC := hw.2.2.2.2.2.2.1 R hR
  have nT0 : ¬ zi (nT b : Nat) = 0 := by rw [zi_00, zi_eq (by omega) (by omega) (by decide) (by decide)]; omega
  have nR0 : ¬ zi (nR b : Nat) = 0 := by rw [zi_00, zi_eq (by omega) (by omega) (by decide) (by decide)]; omega
  have nC0 : ¬ zi (bC b R) + 1 = 0 := by rw [zi_00, zi_01, zi_add, zi_eq (by omega) (by omega) (by decide) (by decide)]; omega
  have eC : zi (z / 4096) - zi (z / 4096) / (zi (bC b R) + 1) * (zi (bC b R) + 1) = zi (z / 4096 % (bC b R + 1)) := by
    rw [zi_01, zi_add, zi_rem q4 q4' (by omega) (by omega)]
  have rC : 0 ≤ z / 4096 % (bC b R + 1) ∧ z / 4096 % (bC b R + 1) < bC b R + 1 := ⟨Int.emod_nonneg _ (by omega), Int.emod_lt_of_pos _ (by omega)⟩
  have m0 : z % 10 = 0 ∨ z % 10 = 1 ∨ z % 10 = 2 ∨ z % 10 = 3 ∨ z % 10 = 4 ∨ z % 10 = 5 ∨ z % 10 = 6 ∨ z % 10 = 7 ∨ z % 10 = 8 ∨ z % 10 = 9 := by omega
  have add : ∀ {X : xM}, X = M → ∀ g : xR, (g = if bz (bL b T O) = 0 then xgd (xgood (xsl 0) M && xain (xsl 0) [(1, .ref 0), (0, .int (zi (T : Nat))), (0, .int (zi (O : Nat)))]) (xbI (xret (m_C_closedCycleLength 0 (zi (T : Nat)) (zi (O : Nat)) M)) (fun r26 M25 => (if r26 < 0 then (xgd (xgood (xsl 0) M25 && xain (xsl 0) [(1, .ref 0), (0, .int (zi (T : Nat))), (0, .int (zi (O : Nat)))]) (xbI (xret (m_C_addLink 0 (zi (T : Nat)) (zi (O : Nat)) M25)) (fun _ M27 => (some (.inl none, M27))))) else (some (.inl none, M25))))) else rV M) → actC M g := by
    intro X _ g hg
    rw [hg, ite_b]
    cases hl : bL b T O with
    | true => rw [if_pos rfl]; exact act_no h h8
    | false =>
      have dr := dF_rg (n := nT b) (L := bL b) (a := O) (nT b) T
      rw [if_neg (by decide), gdc h (xain2 _ _), c_cyc h hT hO, xret_I, xbI_r]
      by_cases c : dF (nT b) (bL b) O (nT b) T = -1
      · obtain ⟨M1, v, e1, h1, f1⟩ := c_add h hT hO hl c
        rw [if_pos c, if_pos (show zi (-1) < 0 by decide), gdc h (xain2 _ _), e1, xret_I, xbI_r]
        exact act_up h8 (by omega) h1 f1
      · rw [if_neg c, zi_neg0 (by omega) (by omega)]
        exact act_no h h8
  rw [e_m_L_act, if_neg (by decide), gdc h xain0, c_tc h, xret_I, xbI_r, if_neg nT0, if_neg (by decide), gdc h xain0, c_tc h, xret_I, xbI_r, if_neg nT0, if_neg (by decide), gdc h xain0, c_rc h, xret_I, xbI_r, if_neg nR0, if_neg (by decide), m10, d16, d256, d4, eT, eO, eR]
  rcases m0 with m | m | m | m | m | m | m | m | m | m
  · obtain ⟨M1, v, e1, h1, f1⟩ := c_setD h hT (d := 1 + z / 4096 % 9) (by omega)
    rw [m, if_pos (by rfl), if_neg (by decide), if_neg (by decide), m9, zi_01, zi_add, gdc h (xain2 _ _), e1, xret_I, xbI_r]
    exact act_up h8 (by omega) h1 f1
  · obtain ⟨M1, v, e1, h1, f1⟩ := c_setU h hT hR (d := z / 4096 % (bC b R + 1)) (by omega)
    rw [m, if_neg (by decide), if_pos (by rfl), if_neg (by decide), gdc h (xain1 _), c_cap h hR, xret_I, xbI_r, if_neg nC0, eC, gdc h (xain3 _ _ _), e1, xret_I, xbI_r]
    exact act_up h8 (by omega) h1 f1
  · obtain ⟨M1, v, e1, h1, f1⟩ := c_setE h hT (d := z / 4096 % 12) (by omega)
    rw [m, if_neg (by decide), if_neg (by decide), if_pos (by rfl), if_neg (by decide), if_neg (by decide), m12, gdc h (xain2 _ _), e1, xret_I, xbI_r]
    exact act_up h8 (by omega) h1 f1
  · rw [m, if_neg (by decide), if_neg (by decide), if_neg (by decide), if_pos (by rfl), gdc h (xain2 _ _), c_link h hT hO, xret_I, xbI_r]
    exact add (X := M) rfl _ rfl
  · rw [m, if_neg (by decide), if_neg (by decide), if_neg (by decide), if_neg (by decide), if_pos (by rfl), gdc h (xain2 _ _), c_link h hT hO, xret_I, xbI_r]
    exact add (X := M) rfl _ rfl
  · rw [m, if_neg (by decide), if_neg (by decide), if_neg (by decide), if_neg (by decide), if_neg (by decide), if_pos (by rfl), gdc h (xain2 _ _), c_link h hT hO, xret_I, xbI_r, ite_b]
    cases hl : bL b T O with
    | false => rw [if_neg (by decide)]; exact act_no h h8
    | true =>
      obtain ⟨M1, v, e1, h1, f1⟩ := c_unl h hT hO hl
      rw [if_pos rfl, gdc h (xain2 _ _), e1, xret_I, xbI_r]
      exact act_up h8 (by omega) h1 f1
  · rw [m, if_neg (by decide), if_neg (by decide), if_neg (by decide), if_neg (by decide), if_neg (by decide), if_neg (by decide), if_pos (by rfl)]
    have mx : ∀ i, i ≤ nT b → 1 ≤ mxF (fun _ => true) (fun t => bU b t R) 1 i ∧ mxF (fun _ => true) (fun t => bU b t R) 1 i ≤ 20 := fun i hi => ⟨mxF_a _ _ _ _, mxF_le (by decide) (fun q hq _ => by
      have := hw.2.2.2.2.2.1 q R (by omega) hR
      omega)⟩
    have key : b_L_act_94 0 (zi z) (zi (R : Nat)) (zi (mxF (fun _ => true) (fun t => bU b t R) 1 0)) (zi ((0 : Nat) : Int)) M = b_L_act_94 0 (zi z) (zi (R : Nat)) (zi (mxF (fun _ => true) (fun t => bU b t R) 1 (nT b))) (zi (nT b : Nat)) M := by
      refine lp (B := fun i => b_L_act_94 0 (zi z) (zi (R : Nat)) (zi (mxF (fun _ => true) (fun t => bU b t R) 1 i)) (zi (i : Nat)) M) (n := nT b) (fun i hi => ?_) rfl 0 (Nat.zero_le _)
      have m1 := mx i (by omega)
      have u1 := hw.2.2.2.2.2.1 i R hi hR
      show b_L_act_94 0 (zi z) (zi (R : Nat)) (zi (mxF (fun _ => true) (fun t => bU b t R) 1 i)) (zi (i : Nat)) M = b_L_act_94 0 (zi z) (zi (R : Nat)) (zi (if true = true then imx (mxF (fun _ => true) (fun t => bU b t R) 1 i) (bU b i R) else _)) (zi ((i + 1 : Nat) : Int)) M
      rw [if_pos (rfl : true = true), e_b_L_act_94, gdc h xain0, c_tc h, xret_I, xbI_r, if_pos (zi_ltn hi (by omega)), gdc h (xain2 _ _), c_dem h hi hR, xret_I, xbI_r, gd4 (xain4 _ _), s_max _ _ (by omega) (by omega) (by omega) (by omega), xret_I, xbI_r, zi_suc]
    have key : b_L_act_94 0 (zi z) (zi (R : Nat)) 1 0 M = _ := key
    have mn := mx (nT b) (Nat.le_refl _)
    rw [key, e_b_L_act_94, gdc h xain0, c_tc h, xret_I, xbI_r, if_neg (zi_irr _), if_neg (by decide), if_neg (by decide), d4, m9, zi_01, zi_add, zif (by omega) (by omega) (by omega) (by omega)]
    by_cases c : 1 + z / 4096 % 9 < mxF (fun _ => true) (fun t => bU b t R) 1 (nT b)
    · rw [if_pos c]; exact act_no h h8
    · obtain ⟨M1, v, e1, h1, f1⟩ := c_setC h hR (d := 1 + z / 4096 % 9) (by omega) (fun t ht => by
        have := mxF_g (P := fun _ => true) (g := fun t => bU b t R) (a := 1) ht rfl
        have this : bU b t R ≤ _ := this
        omega)
      rw [if_neg c, if_neg (by decide), if_neg (by decide), gdc h (xain2 _ _), e1, xret_I, xbI_r]
      exact act_up h8 (by omega) h1 f1
  · rw [m, if_neg (by decide), if_neg (by decide), if_neg (by decide), if_neg (by decide), if_neg (by decide), if_neg (by decide), if_neg (by decide), if_pos (by rfl), gdc h xain0, c_tc h, xret_I, xbI_r, zi_01, zif (by decide) (by decide) (by omega) (by omega)]
    by_cases c : (1 : Int) < (nT b : Nat)
    · rw [if_pos c, if_neg (by decide), if_neg (by decide), m4, zi_00, zife (by omega) (by omega) (by decide) (by decide)]
      by_cases c2 : z / 4096 % 4 = 0
      · obtain ⟨M1, v, e1, h1, f1⟩ := c_drop h hT (by omega)
        rw [if_pos c2, gdc h (xain1 _), e1, xret_I, xbI_r]
        exact ⟨M1, _, rfl, h1, by rw [dp_T (by omega)]; omega, f1⟩
      · rw [if_neg c2]; exact act_no h h8
    · rw [if_neg c]; exact act_no h h8
  all_goals
    obtain ⟨M1, v, e1, h1, f1⟩ := c_set0 h (d := z / 4096 % 4) (by omega)
    rw [m, if_neg (by decide), if_neg (by decide), if_neg (by decide), if_neg (by decide), if_neg (by decide), if_neg (by decide), if_neg (by decide), if_neg (by decide), if_neg (by decide), if_neg (by decide), m4, gdc h (xain1 _), e1, xret_I, xbI_r]
    exact act_up h8 (by omega) h1 f1
