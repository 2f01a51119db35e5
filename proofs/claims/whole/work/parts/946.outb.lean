/-! a letter of what was written -/
theorem q_outputByte {M : xM} (hI : Inv M) (x : Int32) : QR PT M (m_L_outputByte 0 x 0 M) (m_M_outputByte 0 x) := by
  obtain ⟨x, rfl, h1, h2⟩ := zi_ex x
  obtain ⟨len, f, ⟨t0, tr⟩, ⟨t1, t2, t3, t4⟩, t5, t6⟩ := hI.2.2.2.2.2.1
  have ln : m_JS_length (gn M 1 0 8) M = rI (zi (len : Nat)) M := by
    rw [e_m_JS_length, if_pos t1, e_m_JS_coder, ite_z1, t3, xret_I, xbI_r, t2, show (xnar 3 0 : Int32) = 0 by decide, sh0]
    rfl
  have rin : ∀ N, gi N 27 0 8 = zi (len : Nat) → m_M_in (zi x) 0 (gi N 27 0 8 - (1 : Int32)) N = rI (bz (decide (0 ≤ x ∧ x ≤ (len : Int) - 1))) N := fun N q => by
    rw [q, zi_01, zi_sub]
    exact r_inr (a := 0) h1 h2 (by decide) (by decide) (by omega) (by omega)
  by_cases c : 0 ≤ x ∧ x < (len : Int)
  · obtain ⟨i, rfl⟩ : ∃ t : Nat, x = (t : Int) := ⟨x.toNat, by omega⟩
    have hi : i < len := by omega
    obtain ⟨k, hk, fk⟩ := tr i hi
    have hx := eq_of_beq (List.all_eq_true.mp bt_id k (List.mem_range.mpr hk))
    have el : Int32.ofNat (gn M 157 (gn M 1 0 8) 0) = zi (len : Nat) := by rw [t2]; rfl
    have ca : m_JS_charAt (gn M 1 0 8) (zi (i : Nat)) M = rI (zi (k : Nat)) M := by
      rw [e_m_JS_charAt, e_m_JS_isLatin1, ite_z1, if_pos t3, xret_I, xbI_r, xnar_1, ite_b, if_pos rfl, if_pos t1, e_m_JL_charAt, e_m_JS_checkIndex, el, s_chk M (by rw [zi_00, zi_lt (by omega) (by omega) (by decide) (by decide)]; omega) (zi_ltn hi (by omega)), xret_I, xbI_r, xret_v, xbV_r, t2, xck_n hi (by omega), zix (by omega), t4, fk, xret_I, xbI_r, hx]
    refine QR_q (y := zi (k : Nat)) hI (fr_refl M) ?_ ?_ (fz_refl _) trivial
    · rw [e_m_L_outputByte, e_m_C_outputByte, zi_00, zif h1 h2 (by decide) (by decide), if_neg (by omega), ln, xret_I, xbI_r, if_pos (zi_ltn hi (by omega)), ca, xret_I, xbI_r, xhI_r, ← zi_00, xck_01]
      rfl
    · have t5' : gi (xst M 39 0 0 (.long (Int32.toInt64 (zi (k : Nat))))) 27 0 8 = zi (len : Nat) := (gi_k (by decide)).trans t5
      rw [e_m_M_outputByte, rin _ t5', xbI_r, decide_eq_true (show 0 ≤ (i : Int) ∧ (i : Int) ≤ (len : Int) - 1 by omega), ite_bt, r_F0, xck_n (by omega) (by decide), zix (by omega), gi_k (by decide), gi_k (by decide), t6 i hi, fk]
  · refine QR_f (c := 1) (v := 0) hI (by decide) ?_ ?_ (fz_refl _)
    · rw [e_m_L_outputByte, e_m_C_outputByte, zi_00, zif h1 h2 (by decide) (by decide)]
      by_cases q : x < 0
      · rw [if_pos q, xhI_e, if_pos rfl]
      · rw [if_neg q, ln, xret_I, xbI_r, zif h1 h2 (by omega) (by omega), if_neg (by omega), xhI_e, if_pos rfl]
    · have t5' : gi (xbump M 1 6) 27 0 8 = zi (len : Nat) := (bump_gi (by decide)).trans t5
      rw [e_m_M_outputByte, rin _ t5', xbI_r, decide_eq_false (show ¬ (0 ≤ x ∧ x ≤ (len : Int) - 1) by omega), ite_bf, r_F1]
/-! the law's blocks for them -/
def LX (L : Nat) (M : xM) : Prop := LW L M ∧ CNs M
/-- one call: the room that it takes -/
def RX (M M1 : xM) : Prop := gn M1 100 0 0 ≤ gn M 100 0 0 + 450 ∧ gn M1 100 0 1 ≤ gn M 100 0 1 + 2000
theorem LX_1 {L : Nat} {M M2 : xM} (h : LX L M) (h2 : LW L M2) (r : RM M M2 1 6) : LX L M2 ∧ RX M M2 := ⟨⟨h2, by
  unfold CNs
  rw [r.2.2 46, r.2.2 47]
  exact h.2⟩, by have := r.1; omega, by have := r.2.1; omega⟩
theorem b1973 {M : xM} {L i : Nat} (h : LX L M) : ∃ M2, b_L_law_1973 0 0 0 0 0 (zi (i : Nat)) M = b_L_law_2017 0 0 0 0 0 (zi (i : Nat)) M2 ∧ LX L M2 ∧ RX M M2 := by
  obtain ⟨⟨g, l, hI⟩, hC⟩ := h
  obtain ⟨v, M1, M2, e1, e2, s1, s2, i2, c2, r1, r2⟩ := q_write hI hC
  have g1 := s1.2.2 g
  refine ⟨M2, ?_, ⟨⟨s2.2.2 g1, s2.2.1.trans (s1.2.1.trans l), i2⟩, c2⟩, r1, r2⟩
  rw [e_b_L_law_1973, xgd_t (by rw [g]; rfl), e1, xret_I, xbI_r, xgd_t (by rw [g1]; rfl), e2, xret_I, xbI_r, if_pos rfl]
theorem b1981 {M : xM} {L i : Nat} (h : LW L M) (hi : i + 6 ≤ L) (hL : L ≤ 3072) : ∃ M2, b_L_law_1981 0 0 0 0 0 (zi (i : Nat)) M = b_L_law_2017 0 0 0 0 0 (zi (i : Nat)) M2 ∧ LW L M2 ∧ RM M M2 1 6 := by
  obtain ⟨g, l, hI⟩ := h
  obtain ⟨c, M1, M2, v, e1, e2, e9, eo, s1, s2, i2, rm⟩ := q_outputByte hI (gi M 41 0 (i + 1))
  have x1 : ix (zi (i : Nat) + 1) = i + 1 := lxa (j := 1) (by omega) rfl
  have k1 : ∀ k, xck (zi (i : Nat) + 1) L k = k := lka (j := 1) (by omega) hL rfl
  have g1 := s1.2.2 g
  have g2 := s2.2.2 g1
  have l1 : gn M1 151 0 0 = L := s1.2.1.trans l
  have th : m_M_thrown 0 M2 = rI c M2 := by rw [e_m_M_thrown, e9]
  refine ⟨M2, ?_, ⟨g2, s2.2.1.trans l1, i2⟩, rm⟩
  rw [e_b_L_law_1981, l, k1, x1, xgd_t (by rw [g]; rfl), e1, xret_I, xbI_r, l1, k1, s1.1, xgd_t (by rw [g1]; rfl), e2, xret_I, xbI_r, xgd_t (by rw [g2]; rfl), th, xret_I, xbI_r, if_pos rfl]
  by_cases z : c = 0
  · rw [if_pos z, xck_01, ix_0, (eo z).1, if_pos (cmp_z _)]
  · rw [if_neg z]
