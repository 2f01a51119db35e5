/-! the law: yes or no, and the calls without a fault -/
theorem b468 {M : xM} {L i : Nat} (h : LW L M) (hi : i + 6 ≤ L) (hL : L ≤ 3072) : ∃ M2, b_L_law_468 0 0 0 0 0 (zi (i : Nat)) M = b_L_law_2017 0 0 0 0 0 (zi (i : Nat)) M2 ∧ LW L M2 ∧ RM M M2 1 6 := by
  obtain ⟨g, l, hI⟩ := h
  obtain ⟨c, M1, M2, v, e1, e2, e9, eo, s1, s2, i2, rm⟩ := q_hasLink hI (gi M 41 0 (i + 1)) (gi M 41 0 (i + 2))
  have x1 : ix (zi (i : Nat) + 1) = i + 1 := lxa (j := 1) (by omega) rfl
  have k1 : ∀ k, xck (zi (i : Nat) + 1) L k = k := lka (j := 1) (by omega) hL rfl
  have x2 : ix (zi (i : Nat) + 2) = i + 2 := lxa (j := 2) (by omega) rfl
  have k2 : ∀ k, xck (zi (i : Nat) + 2) L k = k := lka (j := 2) (by omega) hL rfl
  have g1 := s1.2.2 g
  have g2 := s2.2.2 g1
  have l1 : gn M1 151 0 0 = L := s1.2.1.trans l
  have th : m_M_thrown 0 M2 = rI c M2 := by rw [e_m_M_thrown, e9]
  refine ⟨M2, ?_, ⟨g2, s2.2.1.trans l1, i2⟩, rm⟩
  rw [e_b_L_law_468, l, k1, k2, x1, x2, xgd_t (by rw [g]; rfl), e1, xret_I, xbI_r, l1, k1, k2, s1.1 (i + 1), s1.1 (i + 2), xgd_t (by rw [g1]; rfl), e2, xret_I, xbI_r, xgd_t (by rw [g2]; rfl), th, xret_I, xbI_r, if_pos rfl]
  by_cases z : c = 0
  · obtain ⟨o1, y, rfl⟩ := eo z
    rw [if_pos z, xck_01, ix_0, o1]
    cases y with
    | false => rw [if_pos (show bz false = 0 by decide), show Int32.toInt64 (bz false) = 0 from by decide, if_pos (cmp_z _)]
    | true => rw [if_neg (show ¬ bz true = 0 by decide), show Int32.toInt64 (bz true) = 1 from by decide, if_pos (cmp_z _)]
  · rw [if_neg z]
theorem b517 {M : xM} {L i : Nat} (h : LW L M) (hi : i + 6 ≤ L) (hL : L ≤ 3072) : ∃ M2, b_L_law_517 0 0 0 0 0 (zi (i : Nat)) M = b_L_law_2017 0 0 0 0 0 (zi (i : Nat)) M2 ∧ LW L M2 ∧ RM M M2 1 6 := by
  obtain ⟨g, l, hI⟩ := h
  obtain ⟨c, M1, M2, v, e1, e2, e9, eo, s1, s2, i2, rm⟩ := q_isBefore hI (gi M 41 0 (i + 1)) (gi M 41 0 (i + 2))
  have x1 : ix (zi (i : Nat) + 1) = i + 1 := lxa (j := 1) (by omega) rfl
  have k1 : ∀ k, xck (zi (i : Nat) + 1) L k = k := lka (j := 1) (by omega) hL rfl
  have x2 : ix (zi (i : Nat) + 2) = i + 2 := lxa (j := 2) (by omega) rfl
  have k2 : ∀ k, xck (zi (i : Nat) + 2) L k = k := lka (j := 2) (by omega) hL rfl
  have g1 := s1.2.2 g
  have g2 := s2.2.2 g1
  have l1 : gn M1 151 0 0 = L := s1.2.1.trans l
  have th : m_M_thrown 0 M2 = rI c M2 := by rw [e_m_M_thrown, e9]
  refine ⟨M2, ?_, ⟨g2, s2.2.1.trans l1, i2⟩, rm⟩
  rw [e_b_L_law_517, l, k1, k2, x1, x2, xgd_t (by rw [g]; rfl), e1, xret_I, xbI_r, l1, k1, k2, s1.1 (i + 1), s1.1 (i + 2), xgd_t (by rw [g1]; rfl), e2, xret_I, xbI_r, xgd_t (by rw [g2]; rfl), th, xret_I, xbI_r, if_pos rfl]
  by_cases z : c = 0
  · obtain ⟨o1, y, rfl⟩ := eo z
    rw [if_pos z, xck_01, ix_0, o1]
    cases y with
    | false => rw [if_pos (show bz false = 0 by decide), show Int32.toInt64 (bz false) = 0 from by decide, if_pos (cmp_z _)]
    | true => rw [if_neg (show ¬ bz true = 0 by decide), show Int32.toInt64 (bz true) = 1 from by decide, if_pos (cmp_z _)]
  · rw [if_neg z]
theorem b864 {M : xM} {L i : Nat} (h : LW L M) (hi : i + 6 ≤ L) (hL : L ≤ 3072) : ∃ M2, b_L_law_864 0 0 0 0 0 (zi (i : Nat)) M = b_L_law_2017 0 0 0 0 0 (zi (i : Nat)) M2 ∧ LW L M2 ∧ RM M M2 1 6 := by
  obtain ⟨g, l, hI⟩ := h
  obtain ⟨c, M1, M2, v, e1, e2, e9, eo, s1, s2, i2, rm⟩ := q_isCritical hI (gi M 41 0 (i + 1))
  have x1 : ix (zi (i : Nat) + 1) = i + 1 := lxa (j := 1) (by omega) rfl
  have k1 : ∀ k, xck (zi (i : Nat) + 1) L k = k := lka (j := 1) (by omega) hL rfl
  have g1 := s1.2.2 g
  have g2 := s2.2.2 g1
  have l1 : gn M1 151 0 0 = L := s1.2.1.trans l
  have th : m_M_thrown 0 M2 = rI c M2 := by rw [e_m_M_thrown, e9]
  refine ⟨M2, ?_, ⟨g2, s2.2.1.trans l1, i2⟩, rm⟩
  rw [e_b_L_law_864, l, k1, x1, xgd_t (by rw [g]; rfl), e1, xret_I, xbI_r, l1, k1, s1.1 (i + 1), xgd_t (by rw [g1]; rfl), e2, xret_I, xbI_r, xgd_t (by rw [g2]; rfl), th, xret_I, xbI_r, if_pos rfl]
  by_cases z : c = 0
  · obtain ⟨o1, y, rfl⟩ := eo z
    rw [if_pos z, xck_01, ix_0, o1]
    cases y with
    | false => rw [if_pos (show bz false = 0 by decide), show Int32.toInt64 (bz false) = 0 from by decide, if_pos (cmp_z _)]
    | true => rw [if_neg (show ¬ bz true = 0 by decide), show Int32.toInt64 (bz true) = 1 from by decide, if_pos (cmp_z _)]
  · rw [if_neg z]
theorem b168 {M : xM} {L i : Nat} (h : LW L M) : ∃ M2, b_L_law_168 0 0 0 0 0 (zi (i : Nat)) M = b_L_law_2017 0 0 0 0 0 (zi (i : Nat)) M2 ∧ LW L M2 ∧ RM M M2 1 6 := by
  obtain ⟨g, l, hI⟩ := h
  obtain ⟨v, M1, M2, e1, e2, s1, s2, i2, rm⟩ := q_errorCode hI
  have g1 := s1.2.2 g
  refine ⟨M2, ?_, ⟨s2.2.2 g1, s2.2.1.trans (s1.2.1.trans l), i2⟩, rm⟩
  rw [e_b_L_law_168, xgd_t (by rw [g]; rfl), e1, xret_I, xbI_r, xgd_t (by rw [g1]; rfl), e2, xret_I, xbI_r, if_pos rfl]
theorem b176 {M : xM} {L i : Nat} (h : LW L M) : ∃ M2, b_L_law_176 0 0 0 0 0 (zi (i : Nat)) M = b_L_law_2017 0 0 0 0 0 (zi (i : Nat)) M2 ∧ LW L M2 ∧ RM M M2 1 6 := by
  obtain ⟨g, l, hI⟩ := h
  obtain ⟨v, M1, M2, e1, e2, s1, s2, i2, rm⟩ := q_errorPosition hI
  have g1 := s1.2.2 g
  refine ⟨M2, ?_, ⟨s2.2.2 g1, s2.2.1.trans (s1.2.1.trans l), i2⟩, rm⟩
  rw [e_b_L_law_176, xgd_t (by rw [g]; rfl), e1, xret_I, xbI_r, xgd_t (by rw [g1]; rfl), e2, xret_I, xbI_r, if_pos rfl]
theorem b184 {M : xM} {L i : Nat} (h : LW L M) : ∃ M2, b_L_law_184 0 0 0 0 0 (zi (i : Nat)) M = b_L_law_2017 0 0 0 0 0 (zi (i : Nat)) M2 ∧ LW L M2 ∧ RM M M2 1 6 := by
  obtain ⟨g, l, hI⟩ := h
  obtain ⟨v, M1, M2, e1, e2, s1, s2, i2, rm⟩ := q_taskCount hI
  have g1 := s1.2.2 g
  refine ⟨M2, ?_, ⟨s2.2.2 g1, s2.2.1.trans (s1.2.1.trans l), i2⟩, rm⟩
  rw [e_b_L_law_184, xgd_t (by rw [g]; rfl), e1, xret_I, xbI_r, xgd_t (by rw [g1]; rfl), e2, xret_I, xbI_r, if_pos rfl]
theorem b192 {M : xM} {L i : Nat} (h : LW L M) : ∃ M2, b_L_law_192 0 0 0 0 0 (zi (i : Nat)) M = b_L_law_2017 0 0 0 0 0 (zi (i : Nat)) M2 ∧ LW L M2 ∧ RM M M2 1 6 := by
  obtain ⟨g, l, hI⟩ := h
  obtain ⟨v, M1, M2, e1, e2, s1, s2, i2, rm⟩ := q_resourceCount hI
  have g1 := s1.2.2 g
  refine ⟨M2, ?_, ⟨s2.2.2 g1, s2.2.1.trans (s1.2.1.trans l), i2⟩, rm⟩
  rw [e_b_L_law_192, xgd_t (by rw [g]; rfl), e1, xret_I, xbI_r, xgd_t (by rw [g1]; rfl), e2, xret_I, xbI_r, if_pos rfl]
theorem b200 {M : xM} {L i : Nat} (h : LW L M) : ∃ M2, b_L_law_200 0 0 0 0 0 (zi (i : Nat)) M = b_L_law_2017 0 0 0 0 0 (zi (i : Nat)) M2 ∧ LW L M2 ∧ RM M M2 1 6 := by
  obtain ⟨g, l, hI⟩ := h
  obtain ⟨v, M1, M2, e1, e2, s1, s2, i2, rm⟩ := q_rule hI
  have g1 := s1.2.2 g
  refine ⟨M2, ?_, ⟨s2.2.2 g1, s2.2.1.trans (s1.2.1.trans l), i2⟩, rm⟩
  rw [e_b_L_law_200, xgd_t (by rw [g]; rfl), e1, xret_I, xbI_r, xgd_t (by rw [g1]; rfl), e2, xret_I, xbI_r, if_pos rfl]
theorem b460 {M : xM} {L i : Nat} (h : LW L M) : ∃ M2, b_L_law_460 0 0 0 0 0 (zi (i : Nat)) M = b_L_law_2017 0 0 0 0 0 (zi (i : Nat)) M2 ∧ LW L M2 ∧ RM M M2 1 6 := by
  obtain ⟨g, l, hI⟩ := h
  obtain ⟨v, M1, M2, e1, e2, s1, s2, i2, rm⟩ := q_linkCount hI
  have g1 := s1.2.2 g
  refine ⟨M2, ?_, ⟨s2.2.2 g1, s2.2.1.trans (s1.2.1.trans l), i2⟩, rm⟩
  rw [e_b_L_law_460, xgd_t (by rw [g]; rfl), e1, xret_I, xbI_r, xgd_t (by rw [g1]; rfl), e2, xret_I, xbI_r, if_pos rfl]
theorem b903 {M : xM} {L i : Nat} (h : LW L M) : ∃ M2, b_L_law_903 0 0 0 0 0 (zi (i : Nat)) M = b_L_law_2017 0 0 0 0 0 (zi (i : Nat)) M2 ∧ LW L M2 ∧ RM M M2 1 6 := by
  obtain ⟨g, l, hI⟩ := h
  obtain ⟨v, M1, M2, e1, e2, s1, s2, i2, rm⟩ := q_criticalCount hI
  have g1 := s1.2.2 g
  refine ⟨M2, ?_, ⟨s2.2.2 g1, s2.2.1.trans (s1.2.1.trans l), i2⟩, rm⟩
  rw [e_b_L_law_903, xgd_t (by rw [g]; rfl), e1, xret_I, xbI_r, xgd_t (by rw [g1]; rfl), e2, xret_I, xbI_r, if_pos rfl]
theorem b911 {M : xM} {L i : Nat} (h : LW L M) : ∃ M2, b_L_law_911 0 0 0 0 0 (zi (i : Nat)) M = b_L_law_2017 0 0 0 0 0 (zi (i : Nat)) M2 ∧ LW L M2 ∧ RM M M2 1 6 := by
  obtain ⟨g, l, hI⟩ := h
  obtain ⟨v, M1, M2, e1, e2, s1, s2, i2, rm⟩ := q_projectLength hI
  have g1 := s1.2.2 g
  refine ⟨M2, ?_, ⟨s2.2.2 g1, s2.2.1.trans (s1.2.1.trans l), i2⟩, rm⟩
  rw [e_b_L_law_911, xgd_t (by rw [g]; rfl), e1, xret_I, xbI_r, xgd_t (by rw [g1]; rfl), e2, xret_I, xbI_r, if_pos rfl]
theorem b1063 {M : xM} {L i : Nat} (h : LW L M) : ∃ M2, b_L_law_1063 0 0 0 0 0 (zi (i : Nat)) M = b_L_law_2017 0 0 0 0 0 (zi (i : Nat)) M2 ∧ LW L M2 ∧ RM M M2 1 6 := by
  obtain ⟨g, l, hI⟩ := h
  obtain ⟨v, M1, M2, e1, e2, s1, s2, i2, rm⟩ := q_makespan hI
  have g1 := s1.2.2 g
  refine ⟨M2, ?_, ⟨s2.2.2 g1, s2.2.1.trans (s1.2.1.trans l), i2⟩, rm⟩
  rw [e_b_L_law_1063, xgd_t (by rw [g]; rfl), e1, xret_I, xbI_r, xgd_t (by rw [g1]; rfl), e2, xret_I, xbI_r, if_pos rfl]
theorem b1271 {M : xM} {L i : Nat} (h : LW L M) : ∃ M2, b_L_law_1271 0 0 0 0 0 (zi (i : Nat)) M = b_L_law_2017 0 0 0 0 0 (zi (i : Nat)) M2 ∧ LW L M2 ∧ RM M M2 1 6 := by
  obtain ⟨g, l, hI⟩ := h
  obtain ⟨v, M1, M2, e1, e2, s1, s2, i2, rm⟩ := q_lowerBound hI
  have g1 := s1.2.2 g
  refine ⟨M2, ?_, ⟨s2.2.2 g1, s2.2.1.trans (s1.2.1.trans l), i2⟩, rm⟩
  rw [e_b_L_law_1271, xgd_t (by rw [g]; rfl), e1, xret_I, xbI_r, xgd_t (by rw [g1]; rfl), e2, xret_I, xbI_r, if_pos rfl]
theorem b1349 {M : xM} {L i : Nat} (h : LW L M) : ∃ M2, b_L_law_1349 0 0 0 0 0 (zi (i : Nat)) M = b_L_law_2017 0 0 0 0 0 (zi (i : Nat)) M2 ∧ LW L M2 ∧ RM M M2 1 6 := by
  obtain ⟨g, l, hI⟩ := h
  obtain ⟨v, M1, M2, e1, e2, s1, s2, i2, rm⟩ := q_inconsistencies hI
  have g1 := s1.2.2 g
  refine ⟨M2, ?_, ⟨s2.2.2 g1, s2.2.1.trans (s1.2.1.trans l), i2⟩, rm⟩
  rw [e_b_L_law_1349, xgd_t (by rw [g]; rfl), e1, xret_I, xbI_r, xgd_t (by rw [g1]; rfl), e2, xret_I, xbI_r, if_pos rfl]
theorem b1393 {M : xM} {L i : Nat} (h : LW L M) : ∃ M2, b_L_law_1393 0 0 0 0 0 (zi (i : Nat)) M = b_L_law_2017 0 0 0 0 0 (zi (i : Nat)) M2 ∧ LW L M2 ∧ RM M M2 1 6 := by
  obtain ⟨g, l, hI⟩ := h
  obtain ⟨v, M1, M2, e1, e2, s1, s2, i2, rm⟩ := q_bestRule hI
  have g1 := s1.2.2 g
  refine ⟨M2, ?_, ⟨s2.2.2 g1, s2.2.1.trans (s1.2.1.trans l), i2⟩, rm⟩
  rw [e_b_L_law_1393, xgd_t (by rw [g]; rfl), e1, xret_I, xbI_r, xgd_t (by rw [g1]; rfl), e2, xret_I, xbI_r, if_pos rfl]
theorem b1437 {M : xM} {L i : Nat} (h : LW L M) : ∃ M2, b_L_law_1437 0 0 0 0 0 (zi (i : Nat)) M = b_L_law_2017 0 0 0 0 0 (zi (i : Nat)) M2 ∧ LW L M2 ∧ RM M M2 1 6 := by
  obtain ⟨g, l, hI⟩ := h
  obtain ⟨v, M1, M2, e1, e2, s1, s2, i2, rm⟩ := q_bottleneck hI
  have g1 := s1.2.2 g
  refine ⟨M2, ?_, ⟨s2.2.2 g1, s2.2.1.trans (s1.2.1.trans l), i2⟩, rm⟩
  rw [e_b_L_law_1437, xgd_t (by rw [g]; rfl), e1, xret_I, xbI_r, xgd_t (by rw [g1]; rfl), e2, xret_I, xbI_r, if_pos rfl]
