/-! utilization and the mean slack: numbers with a point -/
theorem dec64 {n : Nat} (h : n % 9223372036854775808 ≤ 9218868437227405312) : FP.Core.decode FP.Core.b64 n ≠ .nan := by
  have e : FP.Core.decode FP.Core.b64 n = if n / 4503599627370496 % 2048 = 2047 then (if n % 4503599627370496 = 0 then .inf (FP.Core.fieldS FP.Core.b64 n) else .nan) else if n / 4503599627370496 % 2048 = 0 then .fin (FP.Core.fieldS FP.Core.b64 n) (n % 4503599627370496) FP.Core.b64.qmin else .fin (FP.Core.fieldS FP.Core.b64 n) (4503599627370496 + n % 4503599627370496) (FP.Core.b64.qmin + (((n / 4503599627370496 % 2048 : Nat) : Int) - 1)) := rfl
  rw [e]
  by_cases c : n / 4503599627370496 % 2048 = 2047
  · rw [if_pos c, if_pos (show n % 4503599627370496 = 0 by omega)]
    exact fun q => nomatch q
  · rw [if_neg c]
    by_cases d : n / 4503599627370496 % 2048 = 0
    · rw [if_pos d]; exact fun q => nomatch q
    · rw [if_neg d]; exact fun q => nomatch q
theorem u64_un {x : UInt64} (h : x &&& 0x7fffffffffffffff ≤ 0x7ff0000000000000) : x.toNat % 9223372036854775808 ≤ 9218868437227405312 := by
  have e2 : (0x7fffffffffffffff : UInt64).toNat = 2 ^ 63 - 1 := by decide
  have e3 : (0x7ff0000000000000 : UInt64).toNat = 9218868437227405312 := by decide
  rw [UInt64.le_iff_toNat_le, UInt64.toNat_and, e2, e3, Nat.and_two_pow_sub_one_eq_mod] at h
  exact h
theorem cmpD {x : UInt64} (h : x &&& 0x7fffffffffffffff ≤ 0x7ff0000000000000) : Op.cmpValue (FP.dcmp x x) .l = 0 := by
  have e : FP.dcmp x x = some Ordering.eq := ord_self (dec64 (u64_un h))
  rw [e]; rfl
set_option maxRecDepth 100000 in
theorem i2d_tab : (List.range 5900).all (fun b => finN (FP.Core.decode FP.Core.b64 (FP.i2d (zi ((b : Nat) : Int))).toNat) (Nat.beq b 0)) = true := by decide +kernel
theorem i2d_fin {b : Nat} (hb : b < 5900) : ∃ (s : Bool) (c : Nat) (q : Int), FP.Core.decode FP.Core.b64 (FP.i2d (zi ((b : Nat) : Int))).toNat = .fin s c q ∧ (b ≠ 0 → c ≠ 0) := by
  have h := List.all_eq_true.mp i2d_tab b (List.mem_range.mpr hb)
  cases e : FP.Core.decode FP.Core.b64 (FP.i2d (zi ((b : Nat) : Int))).toNat with
  | nan => rw [e] at h; exact nomatch (show false = true from h)
  | inf s => rw [e] at h; exact nomatch (show false = true from h)
  | fin s c q =>
    refine ⟨s, c, q, rfl, fun h0 hc => ?_⟩
    rw [e, hc] at h
    have h : (Nat.beq b 0 || !(Nat.beq 0 0)) = true := h
    rw [beq_ff h0] at h
    exact nomatch (show false = true from h)
theorem dq_ok {a c : Nat} (ha : a < 5900) (hc : c < 5900) (h0 : c ≠ 0) : okD FP.Core.b64 (FP.Core.quotient FP.Core.b64 (FP.Core.decode FP.Core.b64 (FP.i2d (zi ((a : Nat) : Int))).toNat) (FP.Core.decode FP.Core.b64 (FP.i2d (zi ((c : Nat) : Int))).toNat)) := by
  obtain ⟨s, m, q, e1, _⟩ := i2d_fin ha
  obtain ⟨t, d, r, e2, n0⟩ := i2d_fin hc
  rw [e1, e2]
  show okD FP.Core.b64 (if d = 0 then (if m = 0 then .nan else .inf (s != t)) else FP.Core.roundRatio FP.Core.b64 (s != t) m d (q - r))
  rw [if_neg (n0 h0)]
  exact rr_ok (by decide) (by decide) _ _ _ _
theorem ddiv_nn {a c : Nat} (ha : a < 5900) (hc : c < 5900) (h0 : c ≠ 0) : FP.ddiv (FP.i2d (zi ((a : Nat) : Int))) (FP.i2d (zi ((c : Nat) : Int))) &&& 0x7fffffffffffffff ≤ 0x7ff0000000000000 := u64_mask (enc64 (dq_ok ha hc h0)).1
theorem f2d_fd {a c : Nat} (ha : a < 4600) (hc : c < 4600) (h0 : c ≠ 0) : FP.f2d (FP.fdiv (FP.i2f (zi ((a : Nat) : Int))) (FP.i2f (zi ((c : Nat) : Int)))) &&& 0x7fffffffffffffff ≤ 0x7ff0000000000000 := f2d_nn (fq_ok ha hc h0)
theorem mkB_lo {b : Nat → Int} (h : wS b) : 1 ≤ mkB b := by
  have h1 := stB_ok h (t := 0) (wS_n h).1
  have h2 := h.2.2.2.1 0 (wS_n h).1
  omega
/-- both answer the same: a fault, or a number with a point -/
def QF (M : xM) (r : xR) (r' : xM → xR) : Prop := ∃ (c : Int32) (M1 M2 : xM) (v : UInt32), r = rI c M1 ∧ r' M1 = some (.inl (some (0, .float v)), M2) ∧ gi M2 27 0 9 = c ∧ (c = 0 → gd M2 40 0 0 = FP.f2d v ∧ FP.f2d v &&& 0x7fffffffffffffff ≤ 0x7ff0000000000000) ∧ SF M M1 ∧ SF M1 M2 ∧ Inv M2 ∧ RM M M2 1 6
theorem gd_h (M : xM) (k o s : Nat) (x : UInt64) : gd (xst M k o s (.double x)) k o s = x := by unfold gd xst; rw [if_pos ⟨rfl, rfl, rfl⟩]
theorem gd_k {M : xM} {k o s : Nat} {v : Value} {k' o' s' : Nat} (h : k' ≠ k) : gd (xst M k o s v) k' o' s' = gd M k' o' s' := by unfold gd xst; rw [if_neg (fun q => h q.1)]
theorem fz_gd {K : Nat → Nat → Nat → Bool} {M M' : xM} (h : fz K M M') {k o s : Nat} (hk : K k o s = false) : gd M' k o s = gd M k o s := by unfold gd; rw [h k o s hk]
theorem xhF_e (E : Nat) (M : xM) (f : UInt32 → xM → xR) (h : Nat → xM → xR) : xhF (some (.inr E, M)) f h = h E M := rfl
theorem xhF_r (x : UInt32) (M : xM) (f : UInt32 → xM → xR) (h : Nat → xM → xR) : xhF (some (.inl (some (0, .float x)), M)) f h = f x M := rfl
theorem r_F1f (R : xM → xR) (N : xM) : xbI (m_M_fails 0 1 0 0 N) (fun r A => if r = 0 then R A else some (.inl (some (0, .float 0)), A)) = some (.inl (some (0, .float 0)), xst N 27 0 9 (.int 1)) := by
  rw [e_m_M_fails, ite_z1, gi_h, if_pos (by decide), xbI_r, xnar_1, ite_bt]
theorem r_F0f (R : xM → xR) (N : xM) : xbI (m_M_fails 0 0 0 0 N) (fun r A => if r = 0 then R A else some (.inl (some (0, .float 0)), A)) = R (xst N 27 0 9 (.int 0)) := by
  rw [e_m_M_fails, ite_z0, ite_z0, ite_z0, gi_h, if_neg (by decide), xbI_r, xnar_0, ite_bf]
theorem q_utilization {M : xM} (hI : Inv M) (x : Int32) : QF M (m_L_utilization 0 x 0 M) (m_M_utilization 0 x) := by
  obtain ⟨x, rfl, h1, h2⟩ := zi_ex x
  have hw := hI.1.1
  have hr := CP_r hI.1.2
  by_cases c : 0 ≤ x ∧ x < nR (bk M 0)
  · obtain ⟨t, rfl⟩ : ∃ t : Nat, x = (t : Int) := ⟨x.toNat, by omega⟩
    have ht : t < nR (bk M 0) := by omega
    obtain ⟨M1, e1, f1, d1, c1⟩ := cls_S hI
    have w1 := wkB_bd hw.1 ht
    have m1 := mkB_lo hw.1
    have m2 := (mkB_ok hw.1).2
    have k1 := hw.1.2.2.2.2.2.2.1 t ht
    obtain ⟨w, hwk⟩ : ∃ w : Nat, wkB (bk M 0) t = (w : Int) := ⟨(wkB (bk M 0) t).toNat, by omega⟩
    have p0 : 0 < bC (bk M 0) t * mkB (bk M 0) := Int.mul_pos (by omega) (by omega)
    have p1 : bC (bk M 0) t * mkB (bk M 0) ≤ 10 * 459 := Int.mul_le_mul k1.2 m2 (by omega) (by decide)
    obtain ⟨p, hp⟩ : ∃ p : Nat, bC (bk M 0) t * mkB (bk M 0) = (p : Int) := ⟨(bC (bk M 0) t * mkB (bk M 0)).toNat, by omega⟩
    have nn := fdiv_nn (a := w) (c := p) (by omega) (by omega) (by omega)
    have nd := f2d_fd (a := w) (c := p) (by omega) (by omega) (by omega)
    generalize hv : FP.fdiv (FP.i2f (zi ((w : Nat) : Int))) (FP.i2f (zi ((p : Nat) : Int))) = v at nn nd
    have hB : RB (xst M1 40 0 0 (.double (FP.f2d v))) (bk M 0) := fun k hk => (gi_k (by decide)).trans (RB_Yc (RB_bk M) f1 k hk)
    obtain ⟨M2, e3, f3, d3⟩ := r_build (RB_9 (v := .int 0) hB) hw.1 hw.2.1
    have j1 : fz onJ M (xst M1 40 0 0 (.double (FP.f2d v))) := fz_step (onJ_Yc f1) rfl
    have j2 : fz onJ (xst M1 40 0 0 (.double (FP.f2d v))) M2 := fz_trans (fz_st rfl) (onJ_B f3)
    refine ⟨0, xst M1 40 0 0 (.double (FP.f2d v)), M2, v, ?_, ?_, (fz_gi f3 rfl).trans (gi_h _ _ _ _ _), fun _ => ⟨?_, nd⟩, SF_J j1, SF_J j2, Inv_I hI (fz_trans (fz_step (fz_step (onI_Yc f1) rfl) rfl) (onI_B f3)), RM_le (RM_J (fz_trans j1 j2)) (by decide) (by decide)⟩
    · rw [e_m_L_utilization, e_m_C_utilization, s_reqR hI.1.2 h1 h2, if_pos c, xbV_r, xck_n (by omega) (by decide), e1, xbR_r, zix (by omega), CP_C hI.1.2 ht, d1.2.2.2, zi_mul, if_pos (show (0 : Int32) < zi (bC (bk M 0) t * mkB (bk M 0)) from zi_ltz (x := 0) p0 (by decide) (by omega)), s_workFor c1 ht, xbI_r, hwk, hp, hv, if_pos nn, xhF_r, if_pos nd, xck_01, ix_0]
    · rw [e_m_M_utilization, r_isRes hB hw.1 h1 h2, xbI_r, decide_eq_true c, ite_bt, r_F0f, r_workFor (RB_9 hB) hw.1 ht, xbI_r, r_cap (RB_9 hB) (by omega), xbI_r, e3, xbI_r, zi_mul, hwk, hp, hv, if_pos nn]
    · rw [fz_gd f3 rfl, gd_k (by decide)]
      exact gd_h _ _ _ _ _
  · have hB : RB (xbump M 1 6) (bk M 0) := RB_bmp (RB_bk M)
    have j2 : fz onJ (xbump M 1 6) (xst (xbump M 1 6) 27 0 9 (.int 1)) := fz_st rfl
    refine ⟨1, xbump M 1 6, xst (xbump M 1 6) 27 0 9 (.int 1), 0, ?_, ?_, gi_h _ _ _ _ _, fun q => absurd q (by decide), SF_bump M 1 6, SF_J j2, Inv_I hI (fz_step (fz_bump M 1 6) rfl), RM_le (RM_trans (RM_bump M 1 6) (RM_J j2)) (by decide) (by decide)⟩
    · rw [e_m_L_utilization, e_m_C_utilization, s_reqR hI.1.2 h1 h2, if_neg c, xbV_e, xhF_e, if_pos rfl]
    · rw [e_m_M_utilization, r_isRes hB hw.1 h1 h2, xbI_r, decide_eq_false c, ite_bf, r_F1f]
/-- both answer the same number with a point -/
def QD (M : xM) (r : xR) (r' : xM → xR) : Prop := ∃ (v : UInt64) (M1 M2 : xM), r = some (.inl (some (0, .double v)), M1) ∧ r' M1 = some (.inl (some (0, .double v)), M2) ∧ v &&& 0x7fffffffffffffff ≤ 0x7ff0000000000000 ∧ SF M M1 ∧ SF M1 M2 ∧ Inv M2 ∧ RM M M2 1 6
theorem q_meanSlack {M : xM} (hI : Inv M) : QD M (m_C_meanSlack 0 M) (m_M_meanSlack 0) := by
  have hw := hI.1.1.1
  have hn := CP_n hI.1.2
  have n1 := (wS_n hw).1
  obtain ⟨M1, e1, f1, d1, c1⟩ := cls_D hI
  have hB := RB_9 (v := .int 0) (RB_Yc (RB_bk M) f1)
  obtain ⟨M2, e2, f2, d2⟩ := r_dates hB hI.1.1.1 hI.1.1.2.1
  have bd : ∀ t, t < nT (bk M 0) → 0 ≤ lsB (bk M 0) t - esB (bk M 0) t ∧ lsB (bk M 0) t - esB (bk M 0) t ≤ 489 := fun t ht => by
    have b1 := esB_lo hw ht
    have b3 := lsB_lo hw ht
    have b4 := lsB_hi hw ht
    have b5 := etB_hi hw
    have b6 := hw.2.2.2.1 t ht
    omega
  have s1 : 0 ≤ sm (fun t => lsB (bk M 0) t - esB (bk M 0) t) (nT (bk M 0)) := sm_nn (fun i hi => (bd i hi).1)
  have s2 : sm (fun t => lsB (bk M 0) t - esB (bk M 0) t) (nT (bk M 0)) ≤ (nT (bk M 0) : Nat) * 489 := sm_le (fun i hi => (bd i hi).2)
  obtain ⟨w, hwk⟩ : ∃ w : Nat, sm (fun t => lsB (bk M 0) t - esB (bk M 0) t) (nT (bk M 0)) = (w : Int) := ⟨(sm (fun t => lsB (bk M 0) t - esB (bk M 0) t) (nT (bk M 0))).toNat, by omega⟩
  have nn := ddiv_nn (a := w) (c := nT (bk M 0)) (by omega) (by omega) (by omega)
  have l1 : ∀ i, i ≤ nT (bk M 0) → b_C_meanSlack_8 0 0 (zi (sm (fun t => lsB (bk M 0) t - esB (bk M 0) t) i)) (zi (i : Nat)) M1 = some (.inl (some (0, .double (FP.ddiv (FP.i2d (zi (w : Nat))) (FP.i2d (zi (nT (bk M 0) : Nat)))))), M1) := by
    refine lp (B := fun i => b_C_meanSlack_8 0 0 (zi (sm (fun t => lsB (bk M 0) t - esB (bk M 0) t) i)) (zi (i : Nat)) M1) (n := nT (bk M 0)) (fun i hi => ?_) ?_
    · show b_C_meanSlack_8 0 0 (zi (sm (fun t => lsB (bk M 0) t - esB (bk M 0) t) i)) (zi (i : Nat)) M1 = b_C_meanSlack_8 0 0 (zi (sm (fun t => lsB (bk M 0) t - esB (bk M 0) t) i + (lsB (bk M 0) i - esB (bk M 0) i))) (zi ((i + 1 : Nat) : Int)) M1
      rw [e_b_C_meanSlack_8, CP_T c1, if_pos (zi_ltn hi (by omega)), s_slack c1 d1 hi, xbI_r, zi_add, zi_suc i]
    · show b_C_meanSlack_8 0 0 (zi (sm (fun t => lsB (bk M 0) t - esB (bk M 0) t) (nT (bk M 0)))) (zi (nT (bk M 0) : Nat)) M1 = _
      rw [e_b_C_meanSlack_8, CP_T c1, if_neg (zi_irr _), hwk, if_pos (show (0 : Int32) < zi (nT (bk M 0) : Nat) from zi_ltn (i := 0) n1 (by omega)), if_pos nn]
  have l2 : ∀ i, i ≤ nT (bk M 0) → b_M_meanSlack_10 0 (zi (sm (fun t => lsB (bk M 0) t - esB (bk M 0) t) i)) (zi (i : Nat)) M2 = some (.inl (some (0, .double (FP.ddiv (FP.i2d (zi (w : Nat))) (FP.i2d (zi (nT (bk M 0) : Nat)))))), M2) := by
    refine lp (B := fun i => b_M_meanSlack_10 0 (zi (sm (fun t => lsB (bk M 0) t - esB (bk M 0) t) i)) (zi (i : Nat)) M2) (n := nT (bk M 0)) (fun i hi => ?_) ?_
    · show b_M_meanSlack_10 0 (zi (sm (fun t => lsB (bk M 0) t - esB (bk M 0) t) i)) (zi (i : Nat)) M2 = b_M_meanSlack_10 0 (zi (sm (fun t => lsB (bk M 0) t - esB (bk M 0) t) i + (lsB (bk M 0) i - esB (bk M 0) i))) (zi ((i + 1 : Nat) : Int)) M2
      rw [e_b_M_meanSlack_10, xck_2, RB_T (RB_E hB f2) hw, if_pos (zi_ltn hi (by omega)), xck_n (by omega) (by decide), xck_n (by omega) (by decide), zix (by omega), (d2.2 i hi).1, (d2.2 i hi).2, zi_sub, zi_add, zi_suc i]
    · show b_M_meanSlack_10 0 (zi (sm (fun t => lsB (bk M 0) t - esB (bk M 0) t) (nT (bk M 0)))) (zi (nT (bk M 0) : Nat)) M2 = _
      rw [e_b_M_meanSlack_10, xck_2, RB_T (RB_E hB f2) hw, if_neg (zi_irr _), hwk, xck_2, if_pos nn]
  have j2 : fz onJ M1 M2 := fz_trans (fz_st rfl) (onJ_B (B_E f2))
  refine ⟨FP.ddiv (FP.i2d (zi (w : Nat))) (FP.i2d (zi (nT (bk M 0) : Nat))), M1, M2, ?_, ?_, nn, SF_J (onJ_Yc f1), SF_J j2, Inv_I hI (fz_trans (onI_Yc f1) (fz_trans (fz_st rfl) (onI_B (B_E f2)))), RM_le (RM_J (fz_trans (onJ_Yc f1) j2)) (by decide) (by decide)⟩
  · rw [e_m_C_meanSlack, e1, xbR_r]
    exact l1 0 (Nat.zero_le _)
  · rw [e_m_M_meanSlack, e2, xbV_r]
    exact l2 0 (Nat.zero_le _)
/-! the law's blocks for them -/
theorem b1279 {M : xM} {L i : Nat} (h : LW L M) (hi : i + 6 ≤ L) (hL : L ≤ 3072) : ∃ M2, b_L_law_1279 0 0 0 0 0 (zi (i : Nat)) M = b_L_law_2017 0 0 0 0 0 (zi (i : Nat)) M2 ∧ LW L M2 ∧ RM M M2 1 6 := by
  obtain ⟨g, l, hI⟩ := h
  obtain ⟨c, M1, M2, v, e1, e2, e9, eo, s1, s2, i2, rm⟩ := q_utilization hI (gi M 41 0 (i + 1))
  have x1 : ix (zi (i : Nat) + 1) = i + 1 := lxa (j := 1) (by omega) rfl
  have k1 : ∀ k, xck (zi (i : Nat) + 1) L k = k := lka (j := 1) (by omega) hL rfl
  have g1 := s1.2.2 g
  have g2 := s2.2.2 g1
  have l1 : gn M1 151 0 0 = L := s1.2.1.trans l
  have th : m_M_thrown 0 M2 = rI c M2 := by rw [e_m_M_thrown, e9]
  have xF : xret (some (.inl (some (0, .float v)), M2)) = some (.inl (some (0, .float v)), M2) := rfl
  refine ⟨M2, ?_, ⟨g2, s2.2.1.trans l1, i2⟩, rm⟩
  rw [e_b_L_law_1279, l, k1, x1, xgd_t (by rw [g]; rfl), e1, xret_I, xbI_r, l1, k1, s1.1, xgd_t (by rw [g1]; rfl), e2, xF, xbF_r, xgd_t (by rw [g2]; rfl), th, xret_I, xbI_r, if_pos rfl]
  by_cases z : c = 0
  · obtain ⟨o1, o2⟩ := eo z
    rw [if_pos z, xck_01, if_pos o2, ix_0, o1, if_pos (cmpD o2)]
  · rw [if_neg z]
theorem b1327 {M : xM} {L i : Nat} (h : LW L M) : ∃ M2, b_L_law_1327 0 0 0 0 0 (zi (i : Nat)) M = b_L_law_2017 0 0 0 0 0 (zi (i : Nat)) M2 ∧ LW L M2 ∧ RM M M2 1 6 := by
  obtain ⟨g, l, hI⟩ := h
  obtain ⟨v, M1, M2, e1, e2, nn, s1, s2, i2, rm⟩ := q_meanSlack hI
  have g1 := s1.2.2 g
  have xF : ∀ N, xret (some (.inl (some (0, .double v)), N)) = some (.inl (some (0, .double v)), N) := fun _ => rfl
  refine ⟨M2, ?_, ⟨s2.2.2 g1, s2.2.1.trans (s1.2.1.trans l), i2⟩, rm⟩
  rw [e_b_L_law_1327, xgd_t (by rw [g]; rfl), e1, xF, xbD_r, xgd_t (by rw [g1]; rfl), e2, xF, xbD_r, if_pos (cmpD nn)]
