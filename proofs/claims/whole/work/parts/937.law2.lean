/-! the law: the calls that give a number back -/
theorem pls {i : Nat} {j : Nat} : zi (i : Nat) + zi (j : Nat) = zi ((i + j : Nat) : Int) := by rw [zi_add]; rfl
theorem lxa {i j : Nat} (h : i + j < 2147483648) {x : Int32} (e : x = zi (j : Nat)) : ix (zi (i : Nat) + x) = i + j := by rw [e, pls, zix h]
theorem lka {i j L : Nat} (h : i + j < L) (hL : L ≤ 3072) {x : Int32} (e : x = zi (j : Nat)) (k : xR) : xck (zi (i : Nat) + x) L k = k := by rw [e, pls]; exact xck_n h (by omega)
theorem b142 {M : xM} {L i : Nat} (h : LW L M) (hi : i + 6 ≤ L) (hL : L ≤ 3072) : ∃ M2, b_L_law_142 0 0 0 0 0 (zi (i : Nat)) M = b_L_law_2017 0 0 0 0 0 (zi (i : Nat)) M2 ∧ LW L M2 ∧ RM M M2 1 6 := by
  obtain ⟨g, l, hI⟩ := h
  obtain ⟨c, M1, M2, v, e1, e2, e9, eo, s1, s2, i2, rm⟩ := q_load hI 
  have g1 := s1.2.2 g
  have g2 := s2.2.2 g1
  have l1 : gn M1 151 0 0 = L := s1.2.1.trans l
  have th : m_M_thrown 0 M2 = rI c M2 := by rw [e_m_M_thrown, e9]
  refine ⟨M2, ?_, ⟨g2, s2.2.1.trans l1, i2⟩, rm⟩
  rw [e_b_L_law_142, xgd_t (by rw [g]; rfl), e1, xret_I, xbI_r, xgd_t (by rw [g1]; rfl), e2, xret_I, xbI_r, xgd_t (by rw [g2]; rfl), th, xret_I, xbI_r, if_pos rfl]
  by_cases z : c = 0
  · rw [if_pos z, xck_01, ix_0, (eo z).1, if_pos (cmp_z _)]
  · rw [if_neg z]
theorem b254 {M : xM} {L i : Nat} (h : LW L M) (hi : i + 6 ≤ L) (hL : L ≤ 3072) : ∃ M2, b_L_law_254 0 0 0 0 0 (zi (i : Nat)) M = b_L_law_2017 0 0 0 0 0 (zi (i : Nat)) M2 ∧ LW L M2 ∧ RM M M2 1 6 := by
  obtain ⟨g, l, hI⟩ := h
  obtain ⟨c, M1, M2, v, e1, e2, e9, eo, s1, s2, i2, rm⟩ := q_findTask hI 
  have g1 := s1.2.2 g
  have g2 := s2.2.2 g1
  have l1 : gn M1 151 0 0 = L := s1.2.1.trans l
  have th : m_M_thrown 0 M2 = rI c M2 := by rw [e_m_M_thrown, e9]
  refine ⟨M2, ?_, ⟨g2, s2.2.1.trans l1, i2⟩, rm⟩
  rw [e_b_L_law_254, xgd_t (by rw [g]; rfl), e1, xret_I, xbI_r, xgd_t (by rw [g1]; rfl), e2, xret_I, xbI_r, xgd_t (by rw [g2]; rfl), th, xret_I, xbI_r, if_pos rfl]
  by_cases z : c = 0
  · rw [if_pos z, xck_01, ix_0, (eo z).1, if_pos (cmp_z _)]
  · rw [if_neg z]
theorem b280 {M : xM} {L i : Nat} (h : LW L M) (hi : i + 6 ≤ L) (hL : L ≤ 3072) : ∃ M2, b_L_law_280 0 0 0 0 0 (zi (i : Nat)) M = b_L_law_2017 0 0 0 0 0 (zi (i : Nat)) M2 ∧ LW L M2 ∧ RM M M2 1 6 := by
  obtain ⟨g, l, hI⟩ := h
  obtain ⟨c, M1, M2, v, e1, e2, e9, eo, s1, s2, i2, rm⟩ := q_findResource hI 
  have g1 := s1.2.2 g
  have g2 := s2.2.2 g1
  have l1 : gn M1 151 0 0 = L := s1.2.1.trans l
  have th : m_M_thrown 0 M2 = rI c M2 := by rw [e_m_M_thrown, e9]
  refine ⟨M2, ?_, ⟨g2, s2.2.1.trans l1, i2⟩, rm⟩
  rw [e_b_L_law_280, xgd_t (by rw [g]; rfl), e1, xret_I, xbI_r, xgd_t (by rw [g1]; rfl), e2, xret_I, xbI_r, xgd_t (by rw [g2]; rfl), th, xret_I, xbI_r, if_pos rfl]
  by_cases z : c = 0
  · rw [if_pos z, xck_01, ix_0, (eo z).1, if_pos (cmp_z _)]
  · rw [if_neg z]
theorem b1849 {M : xM} {L i : Nat} (h : LW L M) (hi : i + 6 ≤ L) (hL : L ≤ 3072) : ∃ M2, b_L_law_1849 0 0 0 0 0 (zi (i : Nat)) M = b_L_law_2017 0 0 0 0 0 (zi (i : Nat)) M2 ∧ LW L M2 ∧ RM M M2 1 6 := by
  obtain ⟨g, l, hI⟩ := h
  obtain ⟨c, M1, M2, v, e1, e2, e9, eo, s1, s2, i2, rm⟩ := q_runScript hI 
  have g1 := s1.2.2 g
  have g2 := s2.2.2 g1
  have l1 : gn M1 151 0 0 = L := s1.2.1.trans l
  have th : m_M_thrown 0 M2 = rI c M2 := by rw [e_m_M_thrown, e9]
  refine ⟨M2, ?_, ⟨g2, s2.2.1.trans l1, i2⟩, rm⟩
  rw [e_b_L_law_1849, xgd_t (by rw [g]; rfl), e1, xret_I, xbI_r, xgd_t (by rw [g1]; rfl), e2, xret_I, xbI_r, xgd_t (by rw [g2]; rfl), th, xret_I, xbI_r, if_pos rfl]
  by_cases z : c = 0
  · rw [if_pos z, xck_01, ix_0, (eo z).1, if_pos (cmp_z _)]
  · rw [if_neg z]
theorem b1875 {M : xM} {L i : Nat} (h : LW L M) (hi : i + 6 ≤ L) (hL : L ≤ 3072) : ∃ M2, b_L_law_1875 0 0 0 0 0 (zi (i : Nat)) M = b_L_law_2017 0 0 0 0 0 (zi (i : Nat)) M2 ∧ LW L M2 ∧ RM M M2 1 6 := by
  obtain ⟨g, l, hI⟩ := h
  obtain ⟨c, M1, M2, v, e1, e2, e9, eo, s1, s2, i2, rm⟩ := q_undo hI 
  have g1 := s1.2.2 g
  have g2 := s2.2.2 g1
  have l1 : gn M1 151 0 0 = L := s1.2.1.trans l
  have th : m_M_thrown 0 M2 = rI c M2 := by rw [e_m_M_thrown, e9]
  refine ⟨M2, ?_, ⟨g2, s2.2.1.trans l1, i2⟩, rm⟩
  rw [e_b_L_law_1875, xgd_t (by rw [g]; rfl), e1, xret_I, xbI_r, xgd_t (by rw [g1]; rfl), e2, xret_I, xbI_r, xgd_t (by rw [g2]; rfl), th, xret_I, xbI_r, if_pos rfl]
  by_cases z : c = 0
  · rw [if_pos z, xck_01, ix_0, (eo z).1, if_pos (cmp_z _)]
  · rw [if_neg z]
theorem b106 {M : xM} {L i : Nat} (h : LW L M) (hi : i + 6 ≤ L) (hL : L ≤ 3072) : ∃ M2, b_L_law_106 0 0 0 0 0 (zi (i : Nat)) M = b_L_law_2017 0 0 0 0 0 (zi (i : Nat)) M2 ∧ LW L M2 ∧ RM M M2 1 6 := by
  obtain ⟨g, l, hI⟩ := h
  obtain ⟨c, M1, M2, v, e1, e2, e9, eo, s1, s2, i2, rm⟩ := q_truncate hI (gi M 41 0 (i + 1))
  have x1 : ix (zi (i : Nat) + 1) = i + 1 := lxa (j := 1) (by omega) rfl
  have k1 : ∀ k, xck (zi (i : Nat) + 1) L k = k := lka (j := 1) (by omega) hL rfl
  have g1 := s1.2.2 g
  have g2 := s2.2.2 g1
  have l1 : gn M1 151 0 0 = L := s1.2.1.trans l
  have th : m_M_thrown 0 M2 = rI c M2 := by rw [e_m_M_thrown, e9]
  refine ⟨M2, ?_, ⟨g2, s2.2.1.trans l1, i2⟩, rm⟩
  rw [e_b_L_law_106, l, k1, x1, xgd_t (by rw [g]; rfl), e1, xret_I, xbI_r, l1, k1, s1.1 (i + 1), xgd_t (by rw [g1]; rfl), e2, xret_I, xbI_r, xgd_t (by rw [g2]; rfl), th, xret_I, xbI_r, if_pos rfl]
  by_cases z : c = 0
  · rw [if_pos z, xck_01, ix_0, (eo z).1, if_pos (cmp_z _)]
  · rw [if_neg z]
theorem b306 {M : xM} {L i : Nat} (h : LW L M) (hi : i + 6 ≤ L) (hL : L ≤ 3072) : ∃ M2, b_L_law_306 0 0 0 0 0 (zi (i : Nat)) M = b_L_law_2017 0 0 0 0 0 (zi (i : Nat)) M2 ∧ LW L M2 ∧ RM M M2 1 6 := by
  obtain ⟨g, l, hI⟩ := h
  obtain ⟨c, M1, M2, v, e1, e2, e9, eo, s1, s2, i2, rm⟩ := q_capacity hI (gi M 41 0 (i + 1))
  have x1 : ix (zi (i : Nat) + 1) = i + 1 := lxa (j := 1) (by omega) rfl
  have k1 : ∀ k, xck (zi (i : Nat) + 1) L k = k := lka (j := 1) (by omega) hL rfl
  have g1 := s1.2.2 g
  have g2 := s2.2.2 g1
  have l1 : gn M1 151 0 0 = L := s1.2.1.trans l
  have th : m_M_thrown 0 M2 = rI c M2 := by rw [e_m_M_thrown, e9]
  refine ⟨M2, ?_, ⟨g2, s2.2.1.trans l1, i2⟩, rm⟩
  rw [e_b_L_law_306, l, k1, x1, xgd_t (by rw [g]; rfl), e1, xret_I, xbI_r, l1, k1, s1.1 (i + 1), xgd_t (by rw [g1]; rfl), e2, xret_I, xbI_r, xgd_t (by rw [g2]; rfl), th, xret_I, xbI_r, if_pos rfl]
  by_cases z : c = 0
  · rw [if_pos z, xck_01, ix_0, (eo z).1, if_pos (cmp_z _)]
  · rw [if_neg z]
theorem b378 {M : xM} {L i : Nat} (h : LW L M) (hi : i + 6 ≤ L) (hL : L ≤ 3072) : ∃ M2, b_L_law_378 0 0 0 0 0 (zi (i : Nat)) M = b_L_law_2017 0 0 0 0 0 (zi (i : Nat)) M2 ∧ LW L M2 ∧ RM M M2 1 6 := by
  obtain ⟨g, l, hI⟩ := h
  obtain ⟨c, M1, M2, v, e1, e2, e9, eo, s1, s2, i2, rm⟩ := q_release hI (gi M 41 0 (i + 1))
  have x1 : ix (zi (i : Nat) + 1) = i + 1 := lxa (j := 1) (by omega) rfl
  have k1 : ∀ k, xck (zi (i : Nat) + 1) L k = k := lka (j := 1) (by omega) hL rfl
  have g1 := s1.2.2 g
  have g2 := s2.2.2 g1
  have l1 : gn M1 151 0 0 = L := s1.2.1.trans l
  have th : m_M_thrown 0 M2 = rI c M2 := by rw [e_m_M_thrown, e9]
  refine ⟨M2, ?_, ⟨g2, s2.2.1.trans l1, i2⟩, rm⟩
  rw [e_b_L_law_378, l, k1, x1, xgd_t (by rw [g]; rfl), e1, xret_I, xbI_r, l1, k1, s1.1 (i + 1), xgd_t (by rw [g1]; rfl), e2, xret_I, xbI_r, xgd_t (by rw [g2]; rfl), th, xret_I, xbI_r, if_pos rfl]
  by_cases z : c = 0
  · rw [if_pos z, xck_01, ix_0, (eo z).1, if_pos (cmp_z _)]
  · rw [if_neg z]
theorem b566 {M : xM} {L i : Nat} (h : LW L M) (hi : i + 6 ≤ L) (hL : L ≤ 3072) : ∃ M2, b_L_law_566 0 0 0 0 0 (zi (i : Nat)) M = b_L_law_2017 0 0 0 0 0 (zi (i : Nat)) M2 ∧ LW L M2 ∧ RM M M2 1 6 := by
  obtain ⟨g, l, hI⟩ := h
  obtain ⟨c, M1, M2, v, e1, e2, e9, eo, s1, s2, i2, rm⟩ := q_predecessorCount hI (gi M 41 0 (i + 1))
  have x1 : ix (zi (i : Nat) + 1) = i + 1 := lxa (j := 1) (by omega) rfl
  have k1 : ∀ k, xck (zi (i : Nat) + 1) L k = k := lka (j := 1) (by omega) hL rfl
  have g1 := s1.2.2 g
  have g2 := s2.2.2 g1
  have l1 : gn M1 151 0 0 = L := s1.2.1.trans l
  have th : m_M_thrown 0 M2 = rI c M2 := by rw [e_m_M_thrown, e9]
  refine ⟨M2, ?_, ⟨g2, s2.2.1.trans l1, i2⟩, rm⟩
  rw [e_b_L_law_566, l, k1, x1, xgd_t (by rw [g]; rfl), e1, xret_I, xbI_r, l1, k1, s1.1 (i + 1), xgd_t (by rw [g1]; rfl), e2, xret_I, xbI_r, xgd_t (by rw [g2]; rfl), th, xret_I, xbI_r, if_pos rfl]
  by_cases z : c = 0
  · rw [if_pos z, xck_01, ix_0, (eo z).1, if_pos (cmp_z _)]
  · rw [if_neg z]
theorem b602 {M : xM} {L i : Nat} (h : LW L M) (hi : i + 6 ≤ L) (hL : L ≤ 3072) : ∃ M2, b_L_law_602 0 0 0 0 0 (zi (i : Nat)) M = b_L_law_2017 0 0 0 0 0 (zi (i : Nat)) M2 ∧ LW L M2 ∧ RM M M2 1 6 := by
  obtain ⟨g, l, hI⟩ := h
  obtain ⟨c, M1, M2, v, e1, e2, e9, eo, s1, s2, i2, rm⟩ := q_followerCount hI (gi M 41 0 (i + 1))
  have x1 : ix (zi (i : Nat) + 1) = i + 1 := lxa (j := 1) (by omega) rfl
  have k1 : ∀ k, xck (zi (i : Nat) + 1) L k = k := lka (j := 1) (by omega) hL rfl
  have g1 := s1.2.2 g
  have g2 := s2.2.2 g1
  have l1 : gn M1 151 0 0 = L := s1.2.1.trans l
  have th : m_M_thrown 0 M2 = rI c M2 := by rw [e_m_M_thrown, e9]
  refine ⟨M2, ?_, ⟨g2, s2.2.1.trans l1, i2⟩, rm⟩
  rw [e_b_L_law_602, l, k1, x1, xgd_t (by rw [g]; rfl), e1, xret_I, xbI_r, l1, k1, s1.1 (i + 1), xgd_t (by rw [g1]; rfl), e2, xret_I, xbI_r, xgd_t (by rw [g2]; rfl), th, xret_I, xbI_r, if_pos rfl]
  by_cases z : c = 0
  · rw [if_pos z, xck_01, ix_0, (eo z).1, if_pos (cmp_z _)]
  · rw [if_neg z]
theorem b638 {M : xM} {L i : Nat} (h : LW L M) (hi : i + 6 ≤ L) (hL : L ≤ 3072) : ∃ M2, b_L_law_638 0 0 0 0 0 (zi (i : Nat)) M = b_L_law_2017 0 0 0 0 0 (zi (i : Nat)) M2 ∧ LW L M2 ∧ RM M M2 1 6 := by
  obtain ⟨g, l, hI⟩ := h
  obtain ⟨c, M1, M2, v, e1, e2, e9, eo, s1, s2, i2, rm⟩ := q_topologicalOrder hI (gi M 41 0 (i + 1))
  have x1 : ix (zi (i : Nat) + 1) = i + 1 := lxa (j := 1) (by omega) rfl
  have k1 : ∀ k, xck (zi (i : Nat) + 1) L k = k := lka (j := 1) (by omega) hL rfl
  have g1 := s1.2.2 g
  have g2 := s2.2.2 g1
  have l1 : gn M1 151 0 0 = L := s1.2.1.trans l
  have th : m_M_thrown 0 M2 = rI c M2 := by rw [e_m_M_thrown, e9]
  refine ⟨M2, ?_, ⟨g2, s2.2.1.trans l1, i2⟩, rm⟩
  rw [e_b_L_law_638, l, k1, x1, xgd_t (by rw [g]; rfl), e1, xret_I, xbI_r, l1, k1, s1.1 (i + 1), xgd_t (by rw [g1]; rfl), e2, xret_I, xbI_r, xgd_t (by rw [g2]; rfl), th, xret_I, xbI_r, if_pos rfl]
  by_cases z : c = 0
  · rw [if_pos z, xck_01, ix_0, (eo z).1, if_pos (cmp_z _)]
  · rw [if_neg z]
theorem b720 {M : xM} {L i : Nat} (h : LW L M) (hi : i + 6 ≤ L) (hL : L ≤ 3072) : ∃ M2, b_L_law_720 0 0 0 0 0 (zi (i : Nat)) M = b_L_law_2017 0 0 0 0 0 (zi (i : Nat)) M2 ∧ LW L M2 ∧ RM M M2 1 6 := by
  obtain ⟨g, l, hI⟩ := h
  obtain ⟨c, M1, M2, v, e1, e2, e9, eo, s1, s2, i2, rm⟩ := q_earliestStart hI (gi M 41 0 (i + 1))
  have x1 : ix (zi (i : Nat) + 1) = i + 1 := lxa (j := 1) (by omega) rfl
  have k1 : ∀ k, xck (zi (i : Nat) + 1) L k = k := lka (j := 1) (by omega) hL rfl
  have g1 := s1.2.2 g
  have g2 := s2.2.2 g1
  have l1 : gn M1 151 0 0 = L := s1.2.1.trans l
  have th : m_M_thrown 0 M2 = rI c M2 := by rw [e_m_M_thrown, e9]
  refine ⟨M2, ?_, ⟨g2, s2.2.1.trans l1, i2⟩, rm⟩
  rw [e_b_L_law_720, l, k1, x1, xgd_t (by rw [g]; rfl), e1, xret_I, xbI_r, l1, k1, s1.1 (i + 1), xgd_t (by rw [g1]; rfl), e2, xret_I, xbI_r, xgd_t (by rw [g2]; rfl), th, xret_I, xbI_r, if_pos rfl]
  by_cases z : c = 0
  · rw [if_pos z, xck_01, ix_0, (eo z).1, if_pos (cmp_z _)]
  · rw [if_neg z]
theorem b756 {M : xM} {L i : Nat} (h : LW L M) (hi : i + 6 ≤ L) (hL : L ≤ 3072) : ∃ M2, b_L_law_756 0 0 0 0 0 (zi (i : Nat)) M = b_L_law_2017 0 0 0 0 0 (zi (i : Nat)) M2 ∧ LW L M2 ∧ RM M M2 1 6 := by
  obtain ⟨g, l, hI⟩ := h
  obtain ⟨c, M1, M2, v, e1, e2, e9, eo, s1, s2, i2, rm⟩ := q_latestStart hI (gi M 41 0 (i + 1))
  have x1 : ix (zi (i : Nat) + 1) = i + 1 := lxa (j := 1) (by omega) rfl
  have k1 : ∀ k, xck (zi (i : Nat) + 1) L k = k := lka (j := 1) (by omega) hL rfl
  have g1 := s1.2.2 g
  have g2 := s2.2.2 g1
  have l1 : gn M1 151 0 0 = L := s1.2.1.trans l
  have th : m_M_thrown 0 M2 = rI c M2 := by rw [e_m_M_thrown, e9]
  refine ⟨M2, ?_, ⟨g2, s2.2.1.trans l1, i2⟩, rm⟩
  rw [e_b_L_law_756, l, k1, x1, xgd_t (by rw [g]; rfl), e1, xret_I, xbI_r, l1, k1, s1.1 (i + 1), xgd_t (by rw [g1]; rfl), e2, xret_I, xbI_r, xgd_t (by rw [g2]; rfl), th, xret_I, xbI_r, if_pos rfl]
  by_cases z : c = 0
  · rw [if_pos z, xck_01, ix_0, (eo z).1, if_pos (cmp_z _)]
  · rw [if_neg z]
theorem b792 {M : xM} {L i : Nat} (h : LW L M) (hi : i + 6 ≤ L) (hL : L ≤ 3072) : ∃ M2, b_L_law_792 0 0 0 0 0 (zi (i : Nat)) M = b_L_law_2017 0 0 0 0 0 (zi (i : Nat)) M2 ∧ LW L M2 ∧ RM M M2 1 6 := by
  obtain ⟨g, l, hI⟩ := h
  obtain ⟨c, M1, M2, v, e1, e2, e9, eo, s1, s2, i2, rm⟩ := q_slack hI (gi M 41 0 (i + 1))
  have x1 : ix (zi (i : Nat) + 1) = i + 1 := lxa (j := 1) (by omega) rfl
  have k1 : ∀ k, xck (zi (i : Nat) + 1) L k = k := lka (j := 1) (by omega) hL rfl
  have g1 := s1.2.2 g
  have g2 := s2.2.2 g1
  have l1 : gn M1 151 0 0 = L := s1.2.1.trans l
  have th : m_M_thrown 0 M2 = rI c M2 := by rw [e_m_M_thrown, e9]
  refine ⟨M2, ?_, ⟨g2, s2.2.1.trans l1, i2⟩, rm⟩
  rw [e_b_L_law_792, l, k1, x1, xgd_t (by rw [g]; rfl), e1, xret_I, xbI_r, l1, k1, s1.1 (i + 1), xgd_t (by rw [g1]; rfl), e2, xret_I, xbI_r, xgd_t (by rw [g2]; rfl), th, xret_I, xbI_r, if_pos rfl]
  by_cases z : c = 0
  · rw [if_pos z, xck_01, ix_0, (eo z).1, if_pos (cmp_z _)]
  · rw [if_neg z]
theorem b828 {M : xM} {L i : Nat} (h : LW L M) (hi : i + 6 ≤ L) (hL : L ≤ 3072) : ∃ M2, b_L_law_828 0 0 0 0 0 (zi (i : Nat)) M = b_L_law_2017 0 0 0 0 0 (zi (i : Nat)) M2 ∧ LW L M2 ∧ RM M M2 1 6 := by
  obtain ⟨g, l, hI⟩ := h
  obtain ⟨c, M1, M2, v, e1, e2, e9, eo, s1, s2, i2, rm⟩ := q_freeSlack hI (gi M 41 0 (i + 1))
  have x1 : ix (zi (i : Nat) + 1) = i + 1 := lxa (j := 1) (by omega) rfl
  have k1 : ∀ k, xck (zi (i : Nat) + 1) L k = k := lka (j := 1) (by omega) hL rfl
  have g1 := s1.2.2 g
  have g2 := s2.2.2 g1
  have l1 : gn M1 151 0 0 = L := s1.2.1.trans l
  have th : m_M_thrown 0 M2 = rI c M2 := by rw [e_m_M_thrown, e9]
  refine ⟨M2, ?_, ⟨g2, s2.2.1.trans l1, i2⟩, rm⟩
  rw [e_b_L_law_828, l, k1, x1, xgd_t (by rw [g]; rfl), e1, xret_I, xbI_r, l1, k1, s1.1 (i + 1), xgd_t (by rw [g1]; rfl), e2, xret_I, xbI_r, xgd_t (by rw [g2]; rfl), th, xret_I, xbI_r, if_pos rfl]
  by_cases z : c = 0
  · rw [if_pos z, xck_01, ix_0, (eo z).1, if_pos (cmp_z _)]
  · rw [if_neg z]
theorem b919 {M : xM} {L i : Nat} (h : LW L M) (hi : i + 6 ≤ L) (hL : L ≤ 3072) : ∃ M2, b_L_law_919 0 0 0 0 0 (zi (i : Nat)) M = b_L_law_2017 0 0 0 0 0 (zi (i : Nat)) M2 ∧ LW L M2 ∧ RM M M2 1 6 := by
  obtain ⟨g, l, hI⟩ := h
  obtain ⟨c, M1, M2, v, e1, e2, e9, eo, s1, s2, i2, rm⟩ := q_overloadedDays hI (gi M 41 0 (i + 1))
  have x1 : ix (zi (i : Nat) + 1) = i + 1 := lxa (j := 1) (by omega) rfl
  have k1 : ∀ k, xck (zi (i : Nat) + 1) L k = k := lka (j := 1) (by omega) hL rfl
  have g1 := s1.2.2 g
  have g2 := s2.2.2 g1
  have l1 : gn M1 151 0 0 = L := s1.2.1.trans l
  have th : m_M_thrown 0 M2 = rI c M2 := by rw [e_m_M_thrown, e9]
  refine ⟨M2, ?_, ⟨g2, s2.2.1.trans l1, i2⟩, rm⟩
  rw [e_b_L_law_919, l, k1, x1, xgd_t (by rw [g]; rfl), e1, xret_I, xbI_r, l1, k1, s1.1 (i + 1), xgd_t (by rw [g1]; rfl), e2, xret_I, xbI_r, xgd_t (by rw [g2]; rfl), th, xret_I, xbI_r, if_pos rfl]
  by_cases z : c = 0
  · rw [if_pos z, xck_01, ix_0, (eo z).1, if_pos (cmp_z _)]
  · rw [if_neg z]
theorem b955 {M : xM} {L i : Nat} (h : LW L M) (hi : i + 6 ≤ L) (hL : L ≤ 3072) : ∃ M2, b_L_law_955 0 0 0 0 0 (zi (i : Nat)) M = b_L_law_2017 0 0 0 0 0 (zi (i : Nat)) M2 ∧ LW L M2 ∧ RM M M2 1 6 := by
  obtain ⟨g, l, hI⟩ := h
  obtain ⟨c, M1, M2, v, e1, e2, e9, eo, s1, s2, i2, rm⟩ := q_startDay hI (gi M 41 0 (i + 1))
  have x1 : ix (zi (i : Nat) + 1) = i + 1 := lxa (j := 1) (by omega) rfl
  have k1 : ∀ k, xck (zi (i : Nat) + 1) L k = k := lka (j := 1) (by omega) hL rfl
  have g1 := s1.2.2 g
  have g2 := s2.2.2 g1
  have l1 : gn M1 151 0 0 = L := s1.2.1.trans l
  have th : m_M_thrown 0 M2 = rI c M2 := by rw [e_m_M_thrown, e9]
  refine ⟨M2, ?_, ⟨g2, s2.2.1.trans l1, i2⟩, rm⟩
  rw [e_b_L_law_955, l, k1, x1, xgd_t (by rw [g]; rfl), e1, xret_I, xbI_r, l1, k1, s1.1 (i + 1), xgd_t (by rw [g1]; rfl), e2, xret_I, xbI_r, xgd_t (by rw [g2]; rfl), th, xret_I, xbI_r, if_pos rfl]
  by_cases z : c = 0
  · rw [if_pos z, xck_01, ix_0, (eo z).1, if_pos (cmp_z _)]
  · rw [if_neg z]
theorem b991 {M : xM} {L i : Nat} (h : LW L M) (hi : i + 6 ≤ L) (hL : L ≤ 3072) : ∃ M2, b_L_law_991 0 0 0 0 0 (zi (i : Nat)) M = b_L_law_2017 0 0 0 0 0 (zi (i : Nat)) M2 ∧ LW L M2 ∧ RM M M2 1 6 := by
  obtain ⟨g, l, hI⟩ := h
  obtain ⟨c, M1, M2, v, e1, e2, e9, eo, s1, s2, i2, rm⟩ := q_finishDay hI (gi M 41 0 (i + 1))
  have x1 : ix (zi (i : Nat) + 1) = i + 1 := lxa (j := 1) (by omega) rfl
  have k1 : ∀ k, xck (zi (i : Nat) + 1) L k = k := lka (j := 1) (by omega) hL rfl
  have g1 := s1.2.2 g
  have g2 := s2.2.2 g1
  have l1 : gn M1 151 0 0 = L := s1.2.1.trans l
  have th : m_M_thrown 0 M2 = rI c M2 := by rw [e_m_M_thrown, e9]
  refine ⟨M2, ?_, ⟨g2, s2.2.1.trans l1, i2⟩, rm⟩
  rw [e_b_L_law_991, l, k1, x1, xgd_t (by rw [g]; rfl), e1, xret_I, xbI_r, l1, k1, s1.1 (i + 1), xgd_t (by rw [g1]; rfl), e2, xret_I, xbI_r, xgd_t (by rw [g2]; rfl), th, xret_I, xbI_r, if_pos rfl]
  by_cases z : c = 0
  · rw [if_pos z, xck_01, ix_0, (eo z).1, if_pos (cmp_z _)]
  · rw [if_neg z]
theorem b1027 {M : xM} {L i : Nat} (h : LW L M) (hi : i + 6 ≤ L) (hL : L ≤ 3072) : ∃ M2, b_L_law_1027 0 0 0 0 0 (zi (i : Nat)) M = b_L_law_2017 0 0 0 0 0 (zi (i : Nat)) M2 ∧ LW L M2 ∧ RM M M2 1 6 := by
  obtain ⟨g, l, hI⟩ := h
  obtain ⟨c, M1, M2, v, e1, e2, e9, eo, s1, s2, i2, rm⟩ := q_delay hI (gi M 41 0 (i + 1))
  have x1 : ix (zi (i : Nat) + 1) = i + 1 := lxa (j := 1) (by omega) rfl
  have k1 : ∀ k, xck (zi (i : Nat) + 1) L k = k := lka (j := 1) (by omega) hL rfl
  have g1 := s1.2.2 g
  have g2 := s2.2.2 g1
  have l1 : gn M1 151 0 0 = L := s1.2.1.trans l
  have th : m_M_thrown 0 M2 = rI c M2 := by rw [e_m_M_thrown, e9]
  refine ⟨M2, ?_, ⟨g2, s2.2.1.trans l1, i2⟩, rm⟩
  rw [e_b_L_law_1027, l, k1, x1, xgd_t (by rw [g]; rfl), e1, xret_I, xbI_r, l1, k1, s1.1 (i + 1), xgd_t (by rw [g1]; rfl), e2, xret_I, xbI_r, xgd_t (by rw [g2]; rfl), th, xret_I, xbI_r, if_pos rfl]
  by_cases z : c = 0
  · rw [if_pos z, xck_01, ix_0, (eo z).1, if_pos (cmp_z _)]
  · rw [if_neg z]
theorem b1117 {M : xM} {L i : Nat} (h : LW L M) (hi : i + 6 ≤ L) (hL : L ≤ 3072) : ∃ M2, b_L_law_1117 0 0 0 0 0 (zi (i : Nat)) M = b_L_law_2017 0 0 0 0 0 (zi (i : Nat)) M2 ∧ LW L M2 ∧ RM M M2 1 6 := by
  obtain ⟨g, l, hI⟩ := h
  obtain ⟨c, M1, M2, v, e1, e2, e9, eo, s1, s2, i2, rm⟩ := q_peakUsage hI (gi M 41 0 (i + 1))
  have x1 : ix (zi (i : Nat) + 1) = i + 1 := lxa (j := 1) (by omega) rfl
  have k1 : ∀ k, xck (zi (i : Nat) + 1) L k = k := lka (j := 1) (by omega) hL rfl
  have g1 := s1.2.2 g
  have g2 := s2.2.2 g1
  have l1 : gn M1 151 0 0 = L := s1.2.1.trans l
  have th : m_M_thrown 0 M2 = rI c M2 := by rw [e_m_M_thrown, e9]
  refine ⟨M2, ?_, ⟨g2, s2.2.1.trans l1, i2⟩, rm⟩
  rw [e_b_L_law_1117, l, k1, x1, xgd_t (by rw [g]; rfl), e1, xret_I, xbI_r, l1, k1, s1.1 (i + 1), xgd_t (by rw [g1]; rfl), e2, xret_I, xbI_r, xgd_t (by rw [g2]; rfl), th, xret_I, xbI_r, if_pos rfl]
  by_cases z : c = 0
  · rw [if_pos z, xck_01, ix_0, (eo z).1, if_pos (cmp_z _)]
  · rw [if_neg z]
theorem b1153 {M : xM} {L i : Nat} (h : LW L M) (hi : i + 6 ≤ L) (hL : L ≤ 3072) : ∃ M2, b_L_law_1153 0 0 0 0 0 (zi (i : Nat)) M = b_L_law_2017 0 0 0 0 0 (zi (i : Nat)) M2 ∧ LW L M2 ∧ RM M M2 1 6 := by
  obtain ⟨g, l, hI⟩ := h
  obtain ⟨c, M1, M2, v, e1, e2, e9, eo, s1, s2, i2, rm⟩ := q_runningCount hI (gi M 41 0 (i + 1))
  have x1 : ix (zi (i : Nat) + 1) = i + 1 := lxa (j := 1) (by omega) rfl
  have k1 : ∀ k, xck (zi (i : Nat) + 1) L k = k := lka (j := 1) (by omega) hL rfl
  have g1 := s1.2.2 g
  have g2 := s2.2.2 g1
  have l1 : gn M1 151 0 0 = L := s1.2.1.trans l
  have th : m_M_thrown 0 M2 = rI c M2 := by rw [e_m_M_thrown, e9]
  refine ⟨M2, ?_, ⟨g2, s2.2.1.trans l1, i2⟩, rm⟩
  rw [e_b_L_law_1153, l, k1, x1, xgd_t (by rw [g]; rfl), e1, xret_I, xbI_r, l1, k1, s1.1 (i + 1), xgd_t (by rw [g1]; rfl), e2, xret_I, xbI_r, xgd_t (by rw [g2]; rfl), th, xret_I, xbI_r, if_pos rfl]
  by_cases z : c = 0
  · rw [if_pos z, xck_01, ix_0, (eo z).1, if_pos (cmp_z _)]
  · rw [if_neg z]
theorem b1235 {M : xM} {L i : Nat} (h : LW L M) (hi : i + 6 ≤ L) (hL : L ≤ 3072) : ∃ M2, b_L_law_1235 0 0 0 0 0 (zi (i : Nat)) M = b_L_law_2017 0 0 0 0 0 (zi (i : Nat)) M2 ∧ LW L M2 ∧ RM M M2 1 6 := by
  obtain ⟨g, l, hI⟩ := h
  obtain ⟨c, M1, M2, v, e1, e2, e9, eo, s1, s2, i2, rm⟩ := q_work hI (gi M 41 0 (i + 1))
  have x1 : ix (zi (i : Nat) + 1) = i + 1 := lxa (j := 1) (by omega) rfl
  have k1 : ∀ k, xck (zi (i : Nat) + 1) L k = k := lka (j := 1) (by omega) hL rfl
  have g1 := s1.2.2 g
  have g2 := s2.2.2 g1
  have l1 : gn M1 151 0 0 = L := s1.2.1.trans l
  have th : m_M_thrown 0 M2 = rI c M2 := by rw [e_m_M_thrown, e9]
  refine ⟨M2, ?_, ⟨g2, s2.2.1.trans l1, i2⟩, rm⟩
  rw [e_b_L_law_1235, l, k1, x1, xgd_t (by rw [g]; rfl), e1, xret_I, xbI_r, l1, k1, s1.1 (i + 1), xgd_t (by rw [g1]; rfl), e2, xret_I, xbI_r, xgd_t (by rw [g2]; rfl), th, xret_I, xbI_r, if_pos rfl]
  by_cases z : c = 0
  · rw [if_pos z, xck_01, ix_0, (eo z).1, if_pos (cmp_z _)]
  · rw [if_neg z]
theorem b1357 {M : xM} {L i : Nat} (h : LW L M) (hi : i + 6 ≤ L) (hL : L ≤ 3072) : ∃ M2, b_L_law_1357 0 0 0 0 0 (zi (i : Nat)) M = b_L_law_2017 0 0 0 0 0 (zi (i : Nat)) M2 ∧ LW L M2 ∧ RM M M2 1 6 := by
  obtain ⟨g, l, hI⟩ := h
  obtain ⟨c, M1, M2, v, e1, e2, e9, eo, s1, s2, i2, rm⟩ := q_makespanWith hI (gi M 41 0 (i + 1))
  have x1 : ix (zi (i : Nat) + 1) = i + 1 := lxa (j := 1) (by omega) rfl
  have k1 : ∀ k, xck (zi (i : Nat) + 1) L k = k := lka (j := 1) (by omega) hL rfl
  have g1 := s1.2.2 g
  have g2 := s2.2.2 g1
  have l1 : gn M1 151 0 0 = L := s1.2.1.trans l
  have th : m_M_thrown 0 M2 = rI c M2 := by rw [e_m_M_thrown, e9]
  refine ⟨M2, ?_, ⟨g2, s2.2.1.trans l1, i2⟩, rm⟩
  rw [e_b_L_law_1357, l, k1, x1, xgd_t (by rw [g]; rfl), e1, xret_I, xbI_r, l1, k1, s1.1 (i + 1), xgd_t (by rw [g1]; rfl), e2, xret_I, xbI_r, xgd_t (by rw [g2]; rfl), th, xret_I, xbI_r, if_pos rfl]
  by_cases z : c = 0
  · rw [if_pos z, xck_01, ix_0, (eo z).1, if_pos (cmp_z _)]
  · rw [if_neg z]
theorem b1401 {M : xM} {L i : Nat} (h : LW L M) (hi : i + 6 ≤ L) (hL : L ≤ 3072) : ∃ M2, b_L_law_1401 0 0 0 0 0 (zi (i : Nat)) M = b_L_law_2017 0 0 0 0 0 (zi (i : Nat)) M2 ∧ LW L M2 ∧ RM M M2 1 6 := by
  obtain ⟨g, l, hI⟩ := h
  obtain ⟨c, M1, M2, v, e1, e2, e9, eo, s1, s2, i2, rm⟩ := q_makespanWithMore hI (gi M 41 0 (i + 1))
  have x1 : ix (zi (i : Nat) + 1) = i + 1 := lxa (j := 1) (by omega) rfl
  have k1 : ∀ k, xck (zi (i : Nat) + 1) L k = k := lka (j := 1) (by omega) hL rfl
  have g1 := s1.2.2 g
  have g2 := s2.2.2 g1
  have l1 : gn M1 151 0 0 = L := s1.2.1.trans l
  have th : m_M_thrown 0 M2 = rI c M2 := by rw [e_m_M_thrown, e9]
  refine ⟨M2, ?_, ⟨g2, s2.2.1.trans l1, i2⟩, rm⟩
  rw [e_b_L_law_1401, l, k1, x1, xgd_t (by rw [g]; rfl), e1, xret_I, xbI_r, l1, k1, s1.1 (i + 1), xgd_t (by rw [g1]; rfl), e2, xret_I, xbI_r, xgd_t (by rw [g2]; rfl), th, xret_I, xbI_r, if_pos rfl]
  by_cases z : c = 0
  · rw [if_pos z, xck_01, ix_0, (eo z).1, if_pos (cmp_z _)]
  · rw [if_neg z]
theorem b1777 {M : xM} {L i : Nat} (h : LW L M) (hi : i + 6 ≤ L) (hL : L ≤ 3072) : ∃ M2, b_L_law_1777 0 0 0 0 0 (zi (i : Nat)) M = b_L_law_2017 0 0 0 0 0 (zi (i : Nat)) M2 ∧ LW L M2 ∧ RM M M2 1 6 := by
  obtain ⟨g, l, hI⟩ := h
  obtain ⟨c, M1, M2, v, e1, e2, e9, eo, s1, s2, i2, rm⟩ := q_setRule hI (gi M 41 0 (i + 1))
  have x1 : ix (zi (i : Nat) + 1) = i + 1 := lxa (j := 1) (by omega) rfl
  have k1 : ∀ k, xck (zi (i : Nat) + 1) L k = k := lka (j := 1) (by omega) hL rfl
  have g1 := s1.2.2 g
  have g2 := s2.2.2 g1
  have l1 : gn M1 151 0 0 = L := s1.2.1.trans l
  have th : m_M_thrown 0 M2 = rI c M2 := by rw [e_m_M_thrown, e9]
  refine ⟨M2, ?_, ⟨g2, s2.2.1.trans l1, i2⟩, rm⟩
  rw [e_b_L_law_1777, l, k1, x1, xgd_t (by rw [g]; rfl), e1, xret_I, xbI_r, l1, k1, s1.1 (i + 1), xgd_t (by rw [g1]; rfl), e2, xret_I, xbI_r, xgd_t (by rw [g2]; rfl), th, xret_I, xbI_r, if_pos rfl]
  by_cases z : c = 0
  · rw [if_pos z, xck_01, ix_0, (eo z).1, if_pos (cmp_z _)]
  · rw [if_neg z]
theorem b1813 {M : xM} {L i : Nat} (h : LW L M) (hi : i + 6 ≤ L) (hL : L ≤ 3072) : ∃ M2, b_L_law_1813 0 0 0 0 0 (zi (i : Nat)) M = b_L_law_2017 0 0 0 0 0 (zi (i : Nat)) M2 ∧ LW L M2 ∧ RM M M2 1 6 := by
  obtain ⟨g, l, hI⟩ := h
  obtain ⟨c, M1, M2, v, e1, e2, e9, eo, s1, s2, i2, rm⟩ := q_dropTask hI (gi M 41 0 (i + 1))
  have x1 : ix (zi (i : Nat) + 1) = i + 1 := lxa (j := 1) (by omega) rfl
  have k1 : ∀ k, xck (zi (i : Nat) + 1) L k = k := lka (j := 1) (by omega) hL rfl
  have g1 := s1.2.2 g
  have g2 := s2.2.2 g1
  have l1 : gn M1 151 0 0 = L := s1.2.1.trans l
  have th : m_M_thrown 0 M2 = rI c M2 := by rw [e_m_M_thrown, e9]
  refine ⟨M2, ?_, ⟨g2, s2.2.1.trans l1, i2⟩, rm⟩
  rw [e_b_L_law_1813, l, k1, x1, xgd_t (by rw [g]; rfl), e1, xret_I, xbI_r, l1, k1, s1.1 (i + 1), xgd_t (by rw [g1]; rfl), e2, xret_I, xbI_r, xgd_t (by rw [g2]; rfl), th, xret_I, xbI_r, if_pos rfl]
  by_cases z : c = 0
  · rw [if_pos z, xck_01, ix_0, (eo z).1, if_pos (cmp_z _)]
  · rw [if_neg z]
theorem b1901 {M : xM} {L i : Nat} (h : LW L M) (hi : i + 6 ≤ L) (hL : L ≤ 3072) : ∃ M2, b_L_law_1901 0 0 0 0 0 (zi (i : Nat)) M = b_L_law_2017 0 0 0 0 0 (zi (i : Nat)) M2 ∧ LW L M2 ∧ RM M M2 1 6 := by
  obtain ⟨g, l, hI⟩ := h
  obtain ⟨c, M1, M2, v, e1, e2, e9, eo, s1, s2, i2, rm⟩ := q_save hI (gi M 41 0 (i + 1))
  have x1 : ix (zi (i : Nat) + 1) = i + 1 := lxa (j := 1) (by omega) rfl
  have k1 : ∀ k, xck (zi (i : Nat) + 1) L k = k := lka (j := 1) (by omega) hL rfl
  have g1 := s1.2.2 g
  have g2 := s2.2.2 g1
  have l1 : gn M1 151 0 0 = L := s1.2.1.trans l
  have th : m_M_thrown 0 M2 = rI c M2 := by rw [e_m_M_thrown, e9]
  refine ⟨M2, ?_, ⟨g2, s2.2.1.trans l1, i2⟩, rm⟩
  rw [e_b_L_law_1901, l, k1, x1, xgd_t (by rw [g]; rfl), e1, xret_I, xbI_r, l1, k1, s1.1 (i + 1), xgd_t (by rw [g1]; rfl), e2, xret_I, xbI_r, xgd_t (by rw [g2]; rfl), th, xret_I, xbI_r, if_pos rfl]
  by_cases z : c = 0
  · rw [if_pos z, xck_01, ix_0, (eo z).1, if_pos (cmp_z _)]
  · rw [if_neg z]
theorem b1937 {M : xM} {L i : Nat} (h : LW L M) (hi : i + 6 ≤ L) (hL : L ≤ 3072) : ∃ M2, b_L_law_1937 0 0 0 0 0 (zi (i : Nat)) M = b_L_law_2017 0 0 0 0 0 (zi (i : Nat)) M2 ∧ LW L M2 ∧ RM M M2 1 6 := by
  obtain ⟨g, l, hI⟩ := h
  obtain ⟨c, M1, M2, v, e1, e2, e9, eo, s1, s2, i2, rm⟩ := q_restore hI (gi M 41 0 (i + 1))
  have x1 : ix (zi (i : Nat) + 1) = i + 1 := lxa (j := 1) (by omega) rfl
  have k1 : ∀ k, xck (zi (i : Nat) + 1) L k = k := lka (j := 1) (by omega) hL rfl
  have g1 := s1.2.2 g
  have g2 := s2.2.2 g1
  have l1 : gn M1 151 0 0 = L := s1.2.1.trans l
  have th : m_M_thrown 0 M2 = rI c M2 := by rw [e_m_M_thrown, e9]
  refine ⟨M2, ?_, ⟨g2, s2.2.1.trans l1, i2⟩, rm⟩
  rw [e_b_L_law_1937, l, k1, x1, xgd_t (by rw [g]; rfl), e1, xret_I, xbI_r, l1, k1, s1.1 (i + 1), xgd_t (by rw [g1]; rfl), e2, xret_I, xbI_r, xgd_t (by rw [g2]; rfl), th, xret_I, xbI_r, if_pos rfl]
  by_cases z : c = 0
  · rw [if_pos z, xck_01, ix_0, (eo z).1, if_pos (cmp_z _)]
  · rw [if_neg z]
theorem b208 {M : xM} {L i : Nat} (h : LW L M) (hi : i + 6 ≤ L) (hL : L ≤ 3072) : ∃ M2, b_L_law_208 0 0 0 0 0 (zi (i : Nat)) M = b_L_law_2017 0 0 0 0 0 (zi (i : Nat)) M2 ∧ LW L M2 ∧ RM M M2 1 6 := by
  obtain ⟨g, l, hI⟩ := h
  obtain ⟨c, M1, M2, v, e1, e2, e9, eo, s1, s2, i2, rm⟩ := q_taskNameByte hI (gi M 41 0 (i + 1)) (gi M 41 0 (i + 2))
  have x1 : ix (zi (i : Nat) + 1) = i + 1 := lxa (j := 1) (by omega) rfl
  have k1 : ∀ k, xck (zi (i : Nat) + 1) L k = k := lka (j := 1) (by omega) hL rfl
  have x2 : ix (zi (i : Nat) + 2) = i + 2 := lxa (j := 2) (by omega) rfl
  have k2 : ∀ k, xck (zi (i : Nat) + 2) L k = k := lka (j := 2) (by omega) hL rfl
  have g1 := s1.2.2 g
  have g2 := s2.2.2 g1
  have l1 : gn M1 151 0 0 = L := s1.2.1.trans l
  have th : m_M_thrown 0 M2 = rI c M2 := by rw [e_m_M_thrown, e9]
  refine ⟨M2, ?_, ⟨g2, s2.2.1.trans l1, i2⟩, rm⟩
  rw [e_b_L_law_208, l, k1, k2, x1, x2, xgd_t (by rw [g]; rfl), e1, xret_I, xbI_r, l1, k1, k2, s1.1 (i + 1), s1.1 (i + 2), xgd_t (by rw [g1]; rfl), e2, xret_I, xbI_r, xgd_t (by rw [g2]; rfl), th, xret_I, xbI_r, if_pos rfl]
  by_cases z : c = 0
  · rw [if_pos z, xck_01, ix_0, (eo z).1, if_pos (cmp_z _)]
  · rw [if_neg z]
theorem b414 {M : xM} {L i : Nat} (h : LW L M) (hi : i + 6 ≤ L) (hL : L ≤ 3072) : ∃ M2, b_L_law_414 0 0 0 0 0 (zi (i : Nat)) M = b_L_law_2017 0 0 0 0 0 (zi (i : Nat)) M2 ∧ LW L M2 ∧ RM M M2 1 6 := by
  obtain ⟨g, l, hI⟩ := h
  obtain ⟨c, M1, M2, v, e1, e2, e9, eo, s1, s2, i2, rm⟩ := q_demand hI (gi M 41 0 (i + 1)) (gi M 41 0 (i + 2))
  have x1 : ix (zi (i : Nat) + 1) = i + 1 := lxa (j := 1) (by omega) rfl
  have k1 : ∀ k, xck (zi (i : Nat) + 1) L k = k := lka (j := 1) (by omega) hL rfl
  have x2 : ix (zi (i : Nat) + 2) = i + 2 := lxa (j := 2) (by omega) rfl
  have k2 : ∀ k, xck (zi (i : Nat) + 2) L k = k := lka (j := 2) (by omega) hL rfl
  have g1 := s1.2.2 g
  have g2 := s2.2.2 g1
  have l1 : gn M1 151 0 0 = L := s1.2.1.trans l
  have th : m_M_thrown 0 M2 = rI c M2 := by rw [e_m_M_thrown, e9]
  refine ⟨M2, ?_, ⟨g2, s2.2.1.trans l1, i2⟩, rm⟩
  rw [e_b_L_law_414, l, k1, k2, x1, x2, xgd_t (by rw [g]; rfl), e1, xret_I, xbI_r, l1, k1, k2, s1.1 (i + 1), s1.1 (i + 2), xgd_t (by rw [g1]; rfl), e2, xret_I, xbI_r, xgd_t (by rw [g2]; rfl), th, xret_I, xbI_r, if_pos rfl]
  by_cases z : c = 0
  · rw [if_pos z, xck_01, ix_0, (eo z).1, if_pos (cmp_z _)]
  · rw [if_neg z]
theorem b674 {M : xM} {L i : Nat} (h : LW L M) (hi : i + 6 ≤ L) (hL : L ≤ 3072) : ∃ M2, b_L_law_674 0 0 0 0 0 (zi (i : Nat)) M = b_L_law_2017 0 0 0 0 0 (zi (i : Nat)) M2 ∧ LW L M2 ∧ RM M M2 1 6 := by
  obtain ⟨g, l, hI⟩ := h
  obtain ⟨c, M1, M2, v, e1, e2, e9, eo, s1, s2, i2, rm⟩ := q_closedCycleLength hI (gi M 41 0 (i + 1)) (gi M 41 0 (i + 2))
  have x1 : ix (zi (i : Nat) + 1) = i + 1 := lxa (j := 1) (by omega) rfl
  have k1 : ∀ k, xck (zi (i : Nat) + 1) L k = k := lka (j := 1) (by omega) hL rfl
  have x2 : ix (zi (i : Nat) + 2) = i + 2 := lxa (j := 2) (by omega) rfl
  have k2 : ∀ k, xck (zi (i : Nat) + 2) L k = k := lka (j := 2) (by omega) hL rfl
  have g1 := s1.2.2 g
  have g2 := s2.2.2 g1
  have l1 : gn M1 151 0 0 = L := s1.2.1.trans l
  have th : m_M_thrown 0 M2 = rI c M2 := by rw [e_m_M_thrown, e9]
  refine ⟨M2, ?_, ⟨g2, s2.2.1.trans l1, i2⟩, rm⟩
  rw [e_b_L_law_674, l, k1, k2, x1, x2, xgd_t (by rw [g]; rfl), e1, xret_I, xbI_r, l1, k1, k2, s1.1 (i + 1), s1.1 (i + 2), xgd_t (by rw [g1]; rfl), e2, xret_I, xbI_r, xgd_t (by rw [g2]; rfl), th, xret_I, xbI_r, if_pos rfl]
  by_cases z : c = 0
  · rw [if_pos z, xck_01, ix_0, (eo z).1, if_pos (cmp_z _)]
  · rw [if_neg z]
theorem b1071 {M : xM} {L i : Nat} (h : LW L M) (hi : i + 6 ≤ L) (hL : L ≤ 3072) : ∃ M2, b_L_law_1071 0 0 0 0 0 (zi (i : Nat)) M = b_L_law_2017 0 0 0 0 0 (zi (i : Nat)) M2 ∧ LW L M2 ∧ RM M M2 1 6 := by
  obtain ⟨g, l, hI⟩ := h
  obtain ⟨c, M1, M2, v, e1, e2, e9, eo, s1, s2, i2, rm⟩ := q_usage hI (gi M 41 0 (i + 1)) (gi M 41 0 (i + 2))
  have x1 : ix (zi (i : Nat) + 1) = i + 1 := lxa (j := 1) (by omega) rfl
  have k1 : ∀ k, xck (zi (i : Nat) + 1) L k = k := lka (j := 1) (by omega) hL rfl
  have x2 : ix (zi (i : Nat) + 2) = i + 2 := lxa (j := 2) (by omega) rfl
  have k2 : ∀ k, xck (zi (i : Nat) + 2) L k = k := lka (j := 2) (by omega) hL rfl
  have g1 := s1.2.2 g
  have g2 := s2.2.2 g1
  have l1 : gn M1 151 0 0 = L := s1.2.1.trans l
  have th : m_M_thrown 0 M2 = rI c M2 := by rw [e_m_M_thrown, e9]
  refine ⟨M2, ?_, ⟨g2, s2.2.1.trans l1, i2⟩, rm⟩
  rw [e_b_L_law_1071, l, k1, k2, x1, x2, xgd_t (by rw [g]; rfl), e1, xret_I, xbI_r, l1, k1, k2, s1.1 (i + 1), s1.1 (i + 2), xgd_t (by rw [g1]; rfl), e2, xret_I, xbI_r, xgd_t (by rw [g2]; rfl), th, xret_I, xbI_r, if_pos rfl]
  by_cases z : c = 0
  · rw [if_pos z, xck_01, ix_0, (eo z).1, if_pos (cmp_z _)]
  · rw [if_neg z]
theorem b1189 {M : xM} {L i : Nat} (h : LW L M) (hi : i + 6 ≤ L) (hL : L ≤ 3072) : ∃ M2, b_L_law_1189 0 0 0 0 0 (zi (i : Nat)) M = b_L_law_2017 0 0 0 0 0 (zi (i : Nat)) M2 ∧ LW L M2 ∧ RM M M2 1 6 := by
  obtain ⟨g, l, hI⟩ := h
  obtain ⟨c, M1, M2, v, e1, e2, e9, eo, s1, s2, i2, rm⟩ := q_whyNotOn hI (gi M 41 0 (i + 1)) (gi M 41 0 (i + 2))
  have x1 : ix (zi (i : Nat) + 1) = i + 1 := lxa (j := 1) (by omega) rfl
  have k1 : ∀ k, xck (zi (i : Nat) + 1) L k = k := lka (j := 1) (by omega) hL rfl
  have x2 : ix (zi (i : Nat) + 2) = i + 2 := lxa (j := 2) (by omega) rfl
  have k2 : ∀ k, xck (zi (i : Nat) + 2) L k = k := lka (j := 2) (by omega) hL rfl
  have g1 := s1.2.2 g
  have g2 := s2.2.2 g1
  have l1 : gn M1 151 0 0 = L := s1.2.1.trans l
  have th : m_M_thrown 0 M2 = rI c M2 := by rw [e_m_M_thrown, e9]
  refine ⟨M2, ?_, ⟨g2, s2.2.1.trans l1, i2⟩, rm⟩
  rw [e_b_L_law_1189, l, k1, k2, x1, x2, xgd_t (by rw [g]; rfl), e1, xret_I, xbI_r, l1, k1, k2, s1.1 (i + 1), s1.1 (i + 2), xgd_t (by rw [g1]; rfl), e2, xret_I, xbI_r, xgd_t (by rw [g2]; rfl), th, xret_I, xbI_r, if_pos rfl]
  by_cases z : c = 0
  · rw [if_pos z, xck_01, ix_0, (eo z).1, if_pos (cmp_z _)]
  · rw [if_neg z]
theorem b1445 {M : xM} {L i : Nat} (h : LW L M) (hi : i + 6 ≤ L) (hL : L ≤ 3072) : ∃ M2, b_L_law_1445 0 0 0 0 0 (zi (i : Nat)) M = b_L_law_2017 0 0 0 0 0 (zi (i : Nat)) M2 ∧ LW L M2 ∧ RM M M2 1 6 := by
  obtain ⟨g, l, hI⟩ := h
  obtain ⟨c, M1, M2, v, e1, e2, e9, eo, s1, s2, i2, rm⟩ := q_makespanWithDuration hI (gi M 41 0 (i + 1)) (gi M 41 0 (i + 2))
  have x1 : ix (zi (i : Nat) + 1) = i + 1 := lxa (j := 1) (by omega) rfl
  have k1 : ∀ k, xck (zi (i : Nat) + 1) L k = k := lka (j := 1) (by omega) hL rfl
  have x2 : ix (zi (i : Nat) + 2) = i + 2 := lxa (j := 2) (by omega) rfl
  have k2 : ∀ k, xck (zi (i : Nat) + 2) L k = k := lka (j := 2) (by omega) hL rfl
  have g1 := s1.2.2 g
  have g2 := s2.2.2 g1
  have l1 : gn M1 151 0 0 = L := s1.2.1.trans l
  have th : m_M_thrown 0 M2 = rI c M2 := by rw [e_m_M_thrown, e9]
  refine ⟨M2, ?_, ⟨g2, s2.2.1.trans l1, i2⟩, rm⟩
  rw [e_b_L_law_1445, l, k1, k2, x1, x2, xgd_t (by rw [g]; rfl), e1, xret_I, xbI_r, l1, k1, k2, s1.1 (i + 1), s1.1 (i + 2), xgd_t (by rw [g1]; rfl), e2, xret_I, xbI_r, xgd_t (by rw [g2]; rfl), th, xret_I, xbI_r, if_pos rfl]
  by_cases z : c = 0
  · rw [if_pos z, xck_01, ix_0, (eo z).1, if_pos (cmp_z _)]
  · rw [if_neg z]
theorem b1491 {M : xM} {L i : Nat} (h : LW L M) (hi : i + 6 ≤ L) (hL : L ≤ 3072) : ∃ M2, b_L_law_1491 0 0 0 0 0 (zi (i : Nat)) M = b_L_law_2017 0 0 0 0 0 (zi (i : Nat)) M2 ∧ LW L M2 ∧ RM M M2 1 6 := by
  obtain ⟨g, l, hI⟩ := h
  obtain ⟨c, M1, M2, v, e1, e2, e9, eo, s1, s2, i2, rm⟩ := q_setDuration hI (gi M 41 0 (i + 1)) (gi M 41 0 (i + 2))
  have x1 : ix (zi (i : Nat) + 1) = i + 1 := lxa (j := 1) (by omega) rfl
  have k1 : ∀ k, xck (zi (i : Nat) + 1) L k = k := lka (j := 1) (by omega) hL rfl
  have x2 : ix (zi (i : Nat) + 2) = i + 2 := lxa (j := 2) (by omega) rfl
  have k2 : ∀ k, xck (zi (i : Nat) + 2) L k = k := lka (j := 2) (by omega) hL rfl
  have g1 := s1.2.2 g
  have g2 := s2.2.2 g1
  have l1 : gn M1 151 0 0 = L := s1.2.1.trans l
  have th : m_M_thrown 0 M2 = rI c M2 := by rw [e_m_M_thrown, e9]
  refine ⟨M2, ?_, ⟨g2, s2.2.1.trans l1, i2⟩, rm⟩
  rw [e_b_L_law_1491, l, k1, k2, x1, x2, xgd_t (by rw [g]; rfl), e1, xret_I, xbI_r, l1, k1, k2, s1.1 (i + 1), s1.1 (i + 2), xgd_t (by rw [g1]; rfl), e2, xret_I, xbI_r, xgd_t (by rw [g2]; rfl), th, xret_I, xbI_r, if_pos rfl]
  by_cases z : c = 0
  · rw [if_pos z, xck_01, ix_0, (eo z).1, if_pos (cmp_z _)]
  · rw [if_neg z]
theorem b1593 {M : xM} {L i : Nat} (h : LW L M) (hi : i + 6 ≤ L) (hL : L ≤ 3072) : ∃ M2, b_L_law_1593 0 0 0 0 0 (zi (i : Nat)) M = b_L_law_2017 0 0 0 0 0 (zi (i : Nat)) M2 ∧ LW L M2 ∧ RM M M2 1 6 := by
  obtain ⟨g, l, hI⟩ := h
  obtain ⟨c, M1, M2, v, e1, e2, e9, eo, s1, s2, i2, rm⟩ := q_setRelease hI (gi M 41 0 (i + 1)) (gi M 41 0 (i + 2))
  have x1 : ix (zi (i : Nat) + 1) = i + 1 := lxa (j := 1) (by omega) rfl
  have k1 : ∀ k, xck (zi (i : Nat) + 1) L k = k := lka (j := 1) (by omega) hL rfl
  have x2 : ix (zi (i : Nat) + 2) = i + 2 := lxa (j := 2) (by omega) rfl
  have k2 : ∀ k, xck (zi (i : Nat) + 2) L k = k := lka (j := 2) (by omega) hL rfl
  have g1 := s1.2.2 g
  have g2 := s2.2.2 g1
  have l1 : gn M1 151 0 0 = L := s1.2.1.trans l
  have th : m_M_thrown 0 M2 = rI c M2 := by rw [e_m_M_thrown, e9]
  refine ⟨M2, ?_, ⟨g2, s2.2.1.trans l1, i2⟩, rm⟩
  rw [e_b_L_law_1593, l, k1, k2, x1, x2, xgd_t (by rw [g]; rfl), e1, xret_I, xbI_r, l1, k1, k2, s1.1 (i + 1), s1.1 (i + 2), xgd_t (by rw [g1]; rfl), e2, xret_I, xbI_r, xgd_t (by rw [g2]; rfl), th, xret_I, xbI_r, if_pos rfl]
  by_cases z : c = 0
  · rw [if_pos z, xck_01, ix_0, (eo z).1, if_pos (cmp_z _)]
  · rw [if_neg z]
theorem b1639 {M : xM} {L i : Nat} (h : LW L M) (hi : i + 6 ≤ L) (hL : L ≤ 3072) : ∃ M2, b_L_law_1639 0 0 0 0 0 (zi (i : Nat)) M = b_L_law_2017 0 0 0 0 0 (zi (i : Nat)) M2 ∧ LW L M2 ∧ RM M M2 1 6 := by
  obtain ⟨g, l, hI⟩ := h
  obtain ⟨c, M1, M2, v, e1, e2, e9, eo, s1, s2, i2, rm⟩ := q_addLink hI (gi M 41 0 (i + 1)) (gi M 41 0 (i + 2))
  have x1 : ix (zi (i : Nat) + 1) = i + 1 := lxa (j := 1) (by omega) rfl
  have k1 : ∀ k, xck (zi (i : Nat) + 1) L k = k := lka (j := 1) (by omega) hL rfl
  have x2 : ix (zi (i : Nat) + 2) = i + 2 := lxa (j := 2) (by omega) rfl
  have k2 : ∀ k, xck (zi (i : Nat) + 2) L k = k := lka (j := 2) (by omega) hL rfl
  have g1 := s1.2.2 g
  have g2 := s2.2.2 g1
  have l1 : gn M1 151 0 0 = L := s1.2.1.trans l
  have th : m_M_thrown 0 M2 = rI c M2 := by rw [e_m_M_thrown, e9]
  refine ⟨M2, ?_, ⟨g2, s2.2.1.trans l1, i2⟩, rm⟩
  rw [e_b_L_law_1639, l, k1, k2, x1, x2, xgd_t (by rw [g]; rfl), e1, xret_I, xbI_r, l1, k1, k2, s1.1 (i + 1), s1.1 (i + 2), xgd_t (by rw [g1]; rfl), e2, xret_I, xbI_r, xgd_t (by rw [g2]; rfl), th, xret_I, xbI_r, if_pos rfl]
  by_cases z : c = 0
  · rw [if_pos z, xck_01, ix_0, (eo z).1, if_pos (cmp_z _)]
  · rw [if_neg z]
theorem b1685 {M : xM} {L i : Nat} (h : LW L M) (hi : i + 6 ≤ L) (hL : L ≤ 3072) : ∃ M2, b_L_law_1685 0 0 0 0 0 (zi (i : Nat)) M = b_L_law_2017 0 0 0 0 0 (zi (i : Nat)) M2 ∧ LW L M2 ∧ RM M M2 1 6 := by
  obtain ⟨g, l, hI⟩ := h
  obtain ⟨c, M1, M2, v, e1, e2, e9, eo, s1, s2, i2, rm⟩ := q_removeLink hI (gi M 41 0 (i + 1)) (gi M 41 0 (i + 2))
  have x1 : ix (zi (i : Nat) + 1) = i + 1 := lxa (j := 1) (by omega) rfl
  have k1 : ∀ k, xck (zi (i : Nat) + 1) L k = k := lka (j := 1) (by omega) hL rfl
  have x2 : ix (zi (i : Nat) + 2) = i + 2 := lxa (j := 2) (by omega) rfl
  have k2 : ∀ k, xck (zi (i : Nat) + 2) L k = k := lka (j := 2) (by omega) hL rfl
  have g1 := s1.2.2 g
  have g2 := s2.2.2 g1
  have l1 : gn M1 151 0 0 = L := s1.2.1.trans l
  have th : m_M_thrown 0 M2 = rI c M2 := by rw [e_m_M_thrown, e9]
  refine ⟨M2, ?_, ⟨g2, s2.2.1.trans l1, i2⟩, rm⟩
  rw [e_b_L_law_1685, l, k1, k2, x1, x2, xgd_t (by rw [g]; rfl), e1, xret_I, xbI_r, l1, k1, k2, s1.1 (i + 1), s1.1 (i + 2), xgd_t (by rw [g1]; rfl), e2, xret_I, xbI_r, xgd_t (by rw [g2]; rfl), th, xret_I, xbI_r, if_pos rfl]
  by_cases z : c = 0
  · rw [if_pos z, xck_01, ix_0, (eo z).1, if_pos (cmp_z _)]
  · rw [if_neg z]
theorem b1731 {M : xM} {L i : Nat} (h : LW L M) (hi : i + 6 ≤ L) (hL : L ≤ 3072) : ∃ M2, b_L_law_1731 0 0 0 0 0 (zi (i : Nat)) M = b_L_law_2017 0 0 0 0 0 (zi (i : Nat)) M2 ∧ LW L M2 ∧ RM M M2 1 6 := by
  obtain ⟨g, l, hI⟩ := h
  obtain ⟨c, M1, M2, v, e1, e2, e9, eo, s1, s2, i2, rm⟩ := q_setCapacity hI (gi M 41 0 (i + 1)) (gi M 41 0 (i + 2))
  have x1 : ix (zi (i : Nat) + 1) = i + 1 := lxa (j := 1) (by omega) rfl
  have k1 : ∀ k, xck (zi (i : Nat) + 1) L k = k := lka (j := 1) (by omega) hL rfl
  have x2 : ix (zi (i : Nat) + 2) = i + 2 := lxa (j := 2) (by omega) rfl
  have k2 : ∀ k, xck (zi (i : Nat) + 2) L k = k := lka (j := 2) (by omega) hL rfl
  have g1 := s1.2.2 g
  have g2 := s2.2.2 g1
  have l1 : gn M1 151 0 0 = L := s1.2.1.trans l
  have th : m_M_thrown 0 M2 = rI c M2 := by rw [e_m_M_thrown, e9]
  refine ⟨M2, ?_, ⟨g2, s2.2.1.trans l1, i2⟩, rm⟩
  rw [e_b_L_law_1731, l, k1, k2, x1, x2, xgd_t (by rw [g]; rfl), e1, xret_I, xbI_r, l1, k1, k2, s1.1 (i + 1), s1.1 (i + 2), xgd_t (by rw [g1]; rfl), e2, xret_I, xbI_r, xgd_t (by rw [g2]; rfl), th, xret_I, xbI_r, if_pos rfl]
  by_cases z : c = 0
  · rw [if_pos z, xck_01, ix_0, (eo z).1, if_pos (cmp_z _)]
  · rw [if_neg z]
theorem b1537 {M : xM} {L i : Nat} (h : LW L M) (hi : i + 6 ≤ L) (hL : L ≤ 3072) : ∃ M2, b_L_law_1537 0 0 0 0 0 (zi (i : Nat)) M = b_L_law_2017 0 0 0 0 0 (zi (i : Nat)) M2 ∧ LW L M2 ∧ RM M M2 1 6 := by
  obtain ⟨g, l, hI⟩ := h
  obtain ⟨c, M1, M2, v, e1, e2, e9, eo, s1, s2, i2, rm⟩ := q_setDemand hI (gi M 41 0 (i + 1)) (gi M 41 0 (i + 2)) (gi M 41 0 (i + 3))
  have x1 : ix (zi (i : Nat) + 1) = i + 1 := lxa (j := 1) (by omega) rfl
  have k1 : ∀ k, xck (zi (i : Nat) + 1) L k = k := lka (j := 1) (by omega) hL rfl
  have x2 : ix (zi (i : Nat) + 2) = i + 2 := lxa (j := 2) (by omega) rfl
  have k2 : ∀ k, xck (zi (i : Nat) + 2) L k = k := lka (j := 2) (by omega) hL rfl
  have x3 : ix (zi (i : Nat) + 3) = i + 3 := lxa (j := 3) (by omega) rfl
  have k3 : ∀ k, xck (zi (i : Nat) + 3) L k = k := lka (j := 3) (by omega) hL rfl
  have g1 := s1.2.2 g
  have g2 := s2.2.2 g1
  have l1 : gn M1 151 0 0 = L := s1.2.1.trans l
  have th : m_M_thrown 0 M2 = rI c M2 := by rw [e_m_M_thrown, e9]
  refine ⟨M2, ?_, ⟨g2, s2.2.1.trans l1, i2⟩, rm⟩
  rw [e_b_L_law_1537, l, k1, k2, k3, x1, x2, x3, xgd_t (by rw [g]; rfl), e1, xret_I, xbI_r, l1, k1, k2, k3, s1.1 (i + 1), s1.1 (i + 2), s1.1 (i + 3), xgd_t (by rw [g1]; rfl), e2, xret_I, xbI_r, xgd_t (by rw [g2]; rfl), th, xret_I, xbI_r, if_pos rfl]
  by_cases z : c = 0
  · rw [if_pos z, xck_01, ix_0, (eo z).1, if_pos (cmp_z _)]
  · rw [if_neg z]
theorem b30 {M : xM} {L i : Nat} (h : LW L M) (hi : i + 6 ≤ L) (hL : L ≤ 3072) : ∃ M2, b_L_law_30 0 0 0 0 0 (zi (i : Nat)) M = b_L_law_2017 0 0 0 0 0 (zi (i : Nat)) M2 ∧ LW L M2 ∧ RM M M2 1 6 := by
  obtain ⟨g, l, hI⟩ := h
  obtain ⟨c, M1, M2, v, e1, e2, e9, eo, s1, s2, i2, rm⟩ := q_append hI (gi M 41 0 (i + 1)) (gi M 41 0 (i + 2)) (gi M 41 0 (i + 3)) (gi M 41 0 (i + 4)) (gi M 41 0 (i + 5))
  have x1 : ix (zi (i : Nat) + 1) = i + 1 := lxa (j := 1) (by omega) rfl
  have k1 : ∀ k, xck (zi (i : Nat) + 1) L k = k := lka (j := 1) (by omega) hL rfl
  have x2 : ix (zi (i : Nat) + 2) = i + 2 := lxa (j := 2) (by omega) rfl
  have k2 : ∀ k, xck (zi (i : Nat) + 2) L k = k := lka (j := 2) (by omega) hL rfl
  have x3 : ix (zi (i : Nat) + 3) = i + 3 := lxa (j := 3) (by omega) rfl
  have k3 : ∀ k, xck (zi (i : Nat) + 3) L k = k := lka (j := 3) (by omega) hL rfl
  have x4 : ix (zi (i : Nat) + 4) = i + 4 := lxa (j := 4) (by omega) rfl
  have k4 : ∀ k, xck (zi (i : Nat) + 4) L k = k := lka (j := 4) (by omega) hL rfl
  have x5 : ix (zi (i : Nat) + 5) = i + 5 := lxa (j := 5) (by omega) rfl
  have k5 : ∀ k, xck (zi (i : Nat) + 5) L k = k := lka (j := 5) (by omega) hL rfl
  have g1 := s1.2.2 g
  have g2 := s2.2.2 g1
  have l1 : gn M1 151 0 0 = L := s1.2.1.trans l
  have th : m_M_thrown 0 M2 = rI c M2 := by rw [e_m_M_thrown, e9]
  refine ⟨M2, ?_, ⟨g2, s2.2.1.trans l1, i2⟩, rm⟩
  rw [e_b_L_law_30, l, k1, k2, k3, k4, k5, x1, x2, x3, x4, x5, xgd_t (by rw [g]; rfl), e1, xret_I, xbI_r, l1, k1, k2, k3, k4, k5, s1.1 (i + 1), s1.1 (i + 2), s1.1 (i + 3), s1.1 (i + 4), s1.1 (i + 5), xgd_t (by rw [g1]; rfl), e2, xret_I, xbI_r, xgd_t (by rw [g2]; rfl), th, xret_I, xbI_r, if_pos rfl]
  by_cases z : c = 0
  · rw [if_pos z, xck_01, ix_0, (eo z).1, if_pos (cmp_z _)]
  · rw [if_neg z]
