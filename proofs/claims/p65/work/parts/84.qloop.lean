/-! the law's rounds -/
/-- the number that stands at k, below n -/
def pkV (M : xM) (a : Nat) (k : Nat) (n : Int) : Int := if k < gn M 151 a 0 then (gi M 41 a k &&& 2147483647).toInt % n else 0
theorem and31 (x : Int32) : 0 ≤ (x &&& 2147483647).toInt := by
  have h1 : (x &&& 2147483647).toBitVec.toNat ≤ 2147483647 := by
    rw [Int32.toBitVec_and, BitVec.toNat_and]
    exact Nat.and_le_right
  have h2 : (x &&& 2147483647).toInt = (x &&& 2147483647).toBitVec.toInt := rfl
  rw [h2, BitVec.toInt_eq_toNat_of_lt (by omega)]
  exact Int.natCast_nonneg _
theorem pkV_rg {M : xM} {a k : Nat} {n : Int} (h : 0 < n) : 0 ≤ pkV M a k n ∧ pkV M a k n < n := by
  unfold pkV
  split
  · exact ⟨Int.emod_nonneg _ (by omega), Int.emod_lt_of_pos _ h⟩
  · omega
theorem pkV_eq {M M' : xM} {a : Nat} (h1 : ∀ s, M' 41 a s = M 41 a s) (h2 : M' 151 a 0 = M 151 a 0) (k : Nat) (n : Int) : pkV M' a k n = pkV M a k n := by
  have e1 : gn M' 151 a 0 = gn M 151 a 0 := by unfold gn; rw [h2]
  have e2 : gi M' 41 a k = gi M 41 a k := by unfold gi; rw [h1]
  unfold pkV
  rw [e1, e2]
theorem q_pick {M : xM} {a k : Nat} {n : Int} (hk : k < 1000) (hL : gn M 151 a 0 < 1000) (h1 : 0 < n) (h2 : n < 2147483648) : m_L_pick a (zi (k : Nat)) (zi n) M = rI (zi (pkV M a k n)) M := by
  have n0 : ¬ zi n = 0 := by rw [zi_00, zi_eq (by omega) (by omega) (by decide) (by decide)]; omega
  rw [e_m_L_pick, zi_nat, zif (by omega) (by omega) (by omega) (by omega)]
  unfold pkV
  by_cases c : k < gn M 151 a 0
  · have a0 := and31 (gi M 41 a k)
    have a1 := zi_range (gi M 41 a k &&& 2147483647)
    rw [if_pos (by omega), if_pos c, xck_n c (by omega), if_neg n0, zix (by omega)]
    have e := zi_rem (x := (gi M 41 a k &&& 2147483647).toInt) a0 a1.2 h1 h2
    rw [zi_of] at e
    rw [e]
  · rw [if_neg (by omega), if_neg c, zi_00]
/-- what holds before each round: the class's plan, the number of the law's plans, the numbers that were given -/
def LI (M0 : xM) (i : Nat) (M : xM) : Prop := (∃ b, CI M b ∧ nT b ≤ 8) ∧ gn M 101 28 0 = gn M 101 27 0 ∧ (∀ k o s, k = 41 ∨ k = 151 → M k o s = M0 k o s) ∧ RO M0 M (258 * i) (3088 * i)
theorem V_41 {a k o s : Nat} (h : k = 41 ∨ k = 151) : onV a k o s = false := by
  rcases h with rfl | rfl
  · exact V_no (onBq_no (by decide) (onA_no (by decide) (by decide) (Or.inl (by decide)) (by decide))) (Yc_no (by omega))
  · exact V_no (onBq_no (by decide) (onA_no (by decide) (by decide) (Or.inl (by decide)) (by decide))) (Yc_no (by omega))
theorem V_cnt {a k o s : Nat} (h : k = 101) (h2 : o ≠ 29) : onV a k o s = false := by
  subst h
  exact V_no (onBq_no (by decide) (onA_no (by decide) (by decide) (Or.inr h2) (by decide))) (Yc_no (by omega))
theorem RO_G {M M1 : xM} (f : fr onG M M1) : RO M M1 0 0 := RO_fr f (G_no (by omega))
theorem LI_round {M0 M : xM} {a i : Nat} (hi : i < 12) (hL : gn M0 151 a 0 < 1000) (h : LI M0 i M) : ∃ M', LI M0 (i + 1) M' ∧ b_L_law_34 a 0 (zi (i : Nat)) M = b_L_law_34 a 0 (zi ((i + 1 : Nat) : Int)) M' := by
  obtain ⟨⟨b, hb, h8⟩, hc, hf, hr⟩ := h
  have hLM : gn M 151 a 0 < 1000 := by
    have : gn M 151 a 0 = gn M0 151 a 0 := by unfold gn; rw [hf 151 a 0 (Or.inr rfl)]
    omega
  have pr := pkV_rg (M := M) (a := a) (k := 18 + i) (n := 268435456) (by decide)
  generalize hz : pkV M a (18 + i) 268435456 = z at pr
  have ep : m_L_pick a ((18 : Int32) + zi (i : Nat)) 268435456 M = rI (zi z) M := by
    have e := q_pick (M := M) (a := a) (k := 18 + i) (n := 268435456) (by omega) hLM (by decide) (by decide)
    rw [hz] at e
    have e2 : (18 : Int32) + zi (i : Nat) = zi ((18 + i : Nat) : Int) := by
      rw [show (18 : Int32) = zi 18 from rfl, zi_add]
      exact congrArg zi (by omega)
    rw [e2]
    exact e
  obtain ⟨M1, e1, f1, ro1, q1, c1, c1', k1⟩ := q_init hb h8 hc
  obtain ⟨M2, e2, a2⟩ := q_agrees q1
  have q16 : 0 ≤ z / 16 := Int.ediv_nonneg pr.1 (by decide)
  have d16 : zi z / 16 = zi (z / 16) := zi_div pr.1 (by omega) (y := 16) (by decide) (by decide)
  have d3 : zi z / 3 = zi (z / 3) := zi_div pr.1 (by omega) (y := 3) (by decide) (by decide)
  have m4 : zi (z / 16) - zi (z / 16) / 4 * 4 = zi (z / 16 % 4) := zi_rem q16 (by omega) (y := 4) (by decide) (by decide)
  have r4 : 0 ≤ z / 16 % 4 ∧ z / 16 % 4 < 4 := ⟨Int.emod_nonneg _ (by decide), Int.emod_lt_of_pos _ (by decide)⟩
  obtain ⟨M3, e3, f3⟩ := c_mw a2.1.1.1 (k := z / 16 % 4) (by omega) (by omega)
  have a3 := AG_Y a2 f3
  obtain ⟨M4, e4, f4, ro4, p4⟩ := q_build a3.1 (v := z / 16 % 4) (by omega)
  have h4 := QL_B a3.1 f4
  obtain ⟨M5, b5, e5, h5, n5, f5⟩ := q_act h4.1.1 h8 (z := z) pr.1 (by omega)
  obtain ⟨M6, b6, e6, h6, n6, f6⟩ := q_act h5 n5 (z := z / 3) (Int.ediv_nonneg pr.1 (by decide)) (by omega)
  have cnt : ∀ o, o ≠ 29 → gn M6 101 o 0 = gn M1 101 o 0 := fun o ho => by
    rw [fr_gn f6 (G_no (by omega)) 0, fr_gn f5 (G_no (by omega)) 0, fz_gn (V_B f4) (V_cnt rfl ho), fz_gn a3.2.2.1 (V_cnt rfl ho)]
  refine ⟨M6, ⟨⟨b6, h6, n6⟩, ?_, fun k o s q => ?_, ?_⟩, ?_⟩
  · rw [cnt 28 (by decide), cnt 27 (by decide), c1, c1', hc]
  · rw [f6 k o s (G_no (by omega)), f5 k o s (G_no (by omega)), V_B f4 k o s (V_41 q), a3.2.2.1 k o s (V_41 q), k1 k o s (by omega) (by omega) (by omega)]
    exact hf k o s q
  · exact RO_le (RO_trans (RO_trans (RO_trans (RO_trans (RO_trans hr ro1) a3.2.2.2) ro4) (RO_G f5)) (RO_G f6)) (by omega) (by omega)
  · rw [e_b_L_law_34, show (12 : Int32) = zi ((12 : Nat) : Int) from rfl, if_pos (zi_ltn hi (by decide)), ep, xret_I, xbI_r, e1, xret_v, xbV_r, e2, xret_I, xbI_r, if_neg (show ¬ bz true = 0 by decide), if_neg (by decide), if_neg (by decide), d16, m4, gdc a2.1.1.1 (xain1 _), e3, xret_I, xbI_r, e4, xret_I, xbI_r, if_pos rfl, e5, xret_v, xbV_r, if_neg (by decide), d3, e6, xret_v, xbV_r, zi_suc]
theorem LI_end {M0 M : xM} {a : Nat} (h : LI M0 12 M) : ∃ M', b_L_law_34 a 0 12 M = rI 1 M' ∧ RO M0 M' 3226 38608 := by
  obtain ⟨⟨b, hb, h8⟩, hc, hf, hr⟩ := h
  obtain ⟨M1, e1, f1, ro1, q1, c1, c1', k1⟩ := q_init hb h8 hc
  obtain ⟨M2, e2, a2⟩ := q_agrees q1
  refine ⟨M2, ?_, RO_le (RO_trans (RO_trans hr ro1) a2.2.2.2) (by decide) (by decide)⟩
  rw [e_b_L_law_34, if_neg (by decide), e1, xret_v, xbV_r, e2, xret_I, xbI_r]
  rfl
theorem LI_all {M0 : xM} {a : Nat} (hL : gn M0 151 a 0 < 1000) (h : LI M0 0 M0) : ∃ M', b_L_law_34 a 0 0 M0 = rI 1 M' ∧ RO M0 M' 3226 38608 := by
  have key := lpM (B := fun i X => b_L_law_34 a 0 (zi (i : Nat)) X) (n := 12) (fun i X => LI M0 i X) (fun r => ∃ M', r = rI 1 M' ∧ RO M0 M' 3226 38608) (fun i X hi V => LI_round hi hL V) (fun X V => LI_end V) 0 M0 (Nat.zero_le _) h
  exact key
