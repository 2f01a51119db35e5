/-! the law: one call, a number back -/
def LW (L : Nat) (M : xM) : Prop := xgood (xsl 0) M = true ∧ gn M 151 0 0 = L ∧ Inv M
theorem xgd_t {b : Bool} (h : b = true) (k : xR) : xgd b k = k := by rw [h]; rfl
theorem cmp_z (x : Int64) : lg_cmp x x = 0 := lg_z.mpr rfl
theorem b342 {M : xM} {L i : Nat} (h : LW L M) (hi : i + 6 ≤ L) (hL : L ≤ 3072) : ∃ M2, b_L_law_342 0 0 0 0 0 (zi (i : Nat)) M = b_L_law_2017 0 0 0 0 0 (zi (i : Nat)) M2 ∧ LW L M2 ∧ RM M M2 1 6 := by
  obtain ⟨g, l, hI⟩ := h
  obtain ⟨c, M1, M2, v, e1, e2, e9, eo, s1, s2, i2, rm⟩ := q_duration hI (gi M 41 0 (i + 1))
  have x1 : ix (zi (i : Nat) + 1) = i + 1 := by rw [zi_suc, zix (by omega)]
  have k1 : ∀ k, xck (zi (i : Nat) + 1) L k = k := fun k => by rw [zi_suc]; exact xck_n (by omega) (by omega)
  have g1 := s1.2.2 g
  have g2 := s2.2.2 g1
  have l1 : gn M1 151 0 0 = L := s1.2.1.trans l
  have th : m_M_thrown 0 M2 = rI c M2 := by rw [e_m_M_thrown, e9]
  refine ⟨M2, ?_, ⟨g2, s2.2.1.trans l1, i2⟩, rm⟩
  rw [e_b_L_law_342, l, k1, x1, xgd_t (by rw [g]; rfl), e1, xret_I, xbI_r, l1, k1, s1.1, xgd_t (by rw [g1]; rfl), e2, xret_I, xbI_r, xgd_t (by rw [g2]; rfl), th, xret_I, xbI_r, if_pos rfl]
  by_cases z : c = 0
  · rw [if_pos z, xck_01, ix_0, (eo z).1, if_pos (cmp_z _)]
  · rw [if_neg z]
