/-! calls that compare: the best rule, the bottleneck, a new duration, the order, what is wrong -/
theorem QN_k {M M1 M2 : xM} {y : Int32} {r : xR} {r' : xM → xR} (hI : Inv M) (f : fr onYc M M1) (e : r = rI y M1) (e' : r' M1 = rI y M2) (f' : RK (xst M1 27 0 9 (.int 0)) M2) : QN M r r' := by
  have j : fz onJ M1 M2 := fz_trans (fz_st rfl) (onJ_BK f'.1)
  have i0 : Inv (xst M1 27 0 9 (.int 0)) := Inv_I hI (fz_step (onI_Yc f) rfl)
  exact ⟨y, M1, M2, e, e', SF_J (onJ_Yc f), SF_J j, Inv_RK i0 f', RM_le (RM_J (fz_trans (onJ_Yc f) j)) (by decide) (by decide)⟩
theorem q_makespanWithDuration {M : xM} (hI : Inv M) (x y : Int32) : QR PT M (m_L_makespanWithDuration 0 x y 0 M) (m_M_makespanWithDuration 0 x y) := by
  obtain ⟨x, rfl, h1, h2⟩ := zi_ex x
  obtain ⟨y, rfl, h3, h4⟩ := zi_ex y
  have hw := hI.1.1
  have hn := CP_n hI.1.2
  have hr3 := CP_r hI.1.2
  have hBb := RB_bmp (RB_bk M)
  by_cases c : 0 ≤ x ∧ x < nT (bk M 0)
  · by_cases d : 1 ≤ y ∧ y ≤ 30
    · obtain ⟨t, rfl⟩ : ∃ t : Nat, x = (t : Int) := ⟨x.toNat, by omega⟩
      have ht : t < nT (bk M 0) := by omega
      have hw2 := wF_dur hw hr3 ht d
      -- the class
      obtain ⟨A1, a1, g1, k1⟩ := s_copy M (p := 9) (q := 0) (by decide)
      have k0 := k1 _ hI.1.2
      have k2 := CP_upD k0 hw ht y
      obtain ⟨M1, e1, f1, d1⟩ := s_build k2 hw2.1 hw2.2.1
      have f : fr onYc M M1 := fr_trans (Yc_P (fr_trans g1 (fr_st rfl))) (Yc_S f1)
      -- the reference
      have hB := RB_out (v := .long (Int32.toInt64 (zi (mkB (upI (bk M 0) (35 + 12 * t) y))))) (RB_bk M) f
      have hB9 := RB_9 (v := .int 0) hB
      have hB1 : RB (xst (xst (xst M1 39 0 0 (.long (Int32.toInt64 (zi (mkB (upI (bk M 0) (35 + 12 * t) y)))))) 27 0 9 (.int 0)) 28 0 (35 + 12 * t) (.int (zi y))) (upI (bk M 0) (35 + 12 * t) y) := RB_st hB9
      obtain ⟨N, e2, f2, d2⟩ := r_build hB1 hw2.1 hw2.2.1
      refine QR_k (y := zi (mkB (upI (bk M 0) (35 + 12 * t) y))) (M2 := xst N 28 0 (35 + 12 * t) (.int (zi (bD (bk M 0) t)))) hI f ?_ ?_ ⟨fz_trans (BK_8 (fz_st (on280_t (by omega)))) (fz_trans (BK_B f2) (BK_8 (fz_st (on280_t (by omega))))), fun s hs => ?_⟩ trivial
      · rw [e_m_L_makespanWithDuration, e_m_C_makespanWithDuration, s_reqT hI.1.2 h1 h2, if_pos c, xbV_r, s_reqDur h3 h4, if_pos d, xbV_r, a1, xbV_r, s_chD k0 h1 h2 h3 h4, if_pos ⟨c, d⟩, xbI_r, Int.toNat_natCast, e1, xbV_r, d1.2.2.2, xhI_r, xck_01]
        rfl
      · have st : ∀ (A : xM) (v : Int32), m_M_set 0 (zi t) 7 v A = rV (xst A 28 0 (35 + 12 * t) (.int v)) := fun A v => by
          rw [show (7 : Int32) = zi ((7 : Nat) : Int) from rfl, r_set (by omega) (by decide), show 28 + 12 * t + 7 = 35 + 12 * t by omega]
        rw [e_m_M_makespanWithDuration, r_isTask hB hw.1 h1 h2, xbI_r, decide_eq_true c, ite_bt, r_dur h3 h4, xbI_r, decide_eq_true d, ite_bt, r_F0, r_D hB9 (by omega), xbI_r, st, xbV_r, e2, xbI_r, st, xbV_r]
      · by_cases e : s = 35 + 12 * t
        · subst e; rw [gi_h]; exact (hB9 _ (by omega)).symm
        · rw [gi_s e, fz_gi f2 rfl, gi_s e]
    · refine QR_f (c := 2) (v := 0) hI (by decide) ?_ ?_ (fz_refl _)
      · rw [e_m_L_makespanWithDuration, e_m_C_makespanWithDuration, s_reqT hI.1.2 h1 h2, if_pos c, xbV_r, s_reqDur h3 h4, if_neg d, xbV_e, xhI_e, if_neg (by decide), if_pos rfl]
      · rw [e_m_M_makespanWithDuration, r_isTask hBb hw.1 h1 h2, xbI_r, decide_eq_true c, ite_bt, r_dur h3 h4, xbI_r, decide_eq_false d, ite_bf, r_F2]
  · refine QR_f (c := 1) (v := 0) hI (by decide) ?_ ?_ (fz_refl _)
    · rw [e_m_L_makespanWithDuration, e_m_C_makespanWithDuration, s_reqT hI.1.2 h1 h2, if_neg c, xbV_e, xhI_e, if_pos rfl]
    · rw [e_m_M_makespanWithDuration, r_isTask hBb hw.1 h1 h2, xbI_r, decide_eq_false c, ite_bf, r_dur h3 h4, xbI_r]
      by_cases d : 1 ≤ y ∧ y ≤ 30
      · rw [decide_eq_true d, ite_bt, r_F1]
      · rw [decide_eq_false d, ite_bf, r_F1]
/-- the best rule among the first k + 1 -/
def brR (b : Nat → Int) (k : Nat) : Nat := match k with
  | 0 => 0
  | k + 1 => if mkB (upI b 0 ((k + 1 : Nat) : Int)) < mkB (upI b 0 ((brR b k : Nat) : Int)) then k + 1 else brR b k
theorem brR_le (b : Nat → Int) : ∀ k, brR b k ≤ k := by
  intro k
  induction k with
  | zero => exact Nat.le_refl _
  | succ k ih =>
    have e : brR b (k + 1) = if mkB (upI b 0 ((k + 1 : Nat) : Int)) < mkB (upI b 0 ((brR b k : Nat) : Int)) then k + 1 else brR b k := rfl
    rw [e]
    split
    · exact Nat.le_refl _
    · exact Nat.le_succ_of_le ih
theorem q_bestRule {M : xM} (hI : Inv M) : QN M (m_C_bestRule 0 M) (m_M_bestRule 0) := by
  have hw := hI.1.1
  have hr3 := CP_r hI.1.2
  have mk9 : ∀ k : Nat, k ≤ 3 → 0 ≤ mkB (upI (bk M 0) 0 (k : Nat)) ∧ mkB (upI (bk M 0) 0 (k : Nat)) ≤ 459 := fun k hk => mkB_ok (wF_rule hw hr3 (by omega)).1
  have cls : ∃ M1, m_C_bestRule 0 M = rI (zi (brR (bk M 0) 3 : Nat)) M1 ∧ fr onYc M M1 := by
    obtain ⟨A, e, f, c⟩ := s_lenRule hI.1.2 hw (k := ((0 : Nat) : Int)) (by omega)
    have e : m_C_lengthWithRule 0 0 M = _ := e
    rw [e_m_C_bestRule, e, xbI_r]
    refine lpM (B := fun k M' => b_C_bestRule_9 0 (zi (brR (bk M 0) k : Nat)) (zi (mkB (upI (bk M 0) 0 (brR (bk M 0) k : Nat)))) (zi ((k + 1 : Nat) : Int)) M') (n := 3) (fun k M' => fr onYc M M' ∧ CP M' 9 (bk M 0)) (fun r => ∃ M1, r = rI (zi (brR (bk M 0) 3 : Nat)) M1 ∧ fr onYc M M1) (fun k M' hk ⟨f', c'⟩ => ?_) (fun M' ⟨f', c'⟩ => ?_) 0 A (Nat.zero_le _) ⟨f, c⟩
    · have b0 := brR_le (bk M 0) k
      have m1 := mk9 (k + 1) (by omega)
      have m2 := mk9 (brR (bk M 0) k) (by omega)
      obtain ⟨A2, e2, f2, c2⟩ := s_lenRule c' hw (k := ((k + 1 : Nat) : Int)) (by omega)
      refine ⟨A2, ⟨fr_trans f' f2, c2⟩, ?_⟩
      show b_C_bestRule_9 0 _ _ (zi ((k + 1 : Nat) : Int)) M' = b_C_bestRule_9 0 (zi ((if mkB (upI (bk M 0) 0 ((k + 1 : Nat) : Int)) < mkB (upI (bk M 0) 0 ((brR (bk M 0) k : Nat) : Int)) then k + 1 else brR (bk M 0) k : Nat) : Int)) (zi (mkB (upI (bk M 0) 0 ((if mkB (upI (bk M 0) 0 ((k + 1 : Nat) : Int)) < mkB (upI (bk M 0) 0 ((brR (bk M 0) k : Nat) : Int)) then k + 1 else brR (bk M 0) k : Nat) : Int)))) (zi ((k + 1 + 1 : Nat) : Int)) A2
      rw [e_b_C_bestRule_9, zi_03, zif (by decide) (by decide) (by omega) (by omega), if_neg (by omega), e2, xbI_r, zif (by omega) (by omega) (by omega) (by omega), zi_suc]
      by_cases q : mkB (upI (bk M 0) 0 ((k + 1 : Nat) : Int)) < mkB (upI (bk M 0) 0 ((brR (bk M 0) k : Nat) : Int))
      · rw [if_pos q, if_pos q]
      · rw [if_neg q, if_neg q]
    · refine ⟨M', ?_, f'⟩
      show b_C_bestRule_9 0 _ _ (zi ((3 + 1 : Nat) : Int)) M' = _
      rw [e_b_C_bestRule_9, zi_03, zif (by decide) (by decide) (by decide) (by decide), if_pos (by decide)]
  obtain ⟨M1, e1, f1⟩ := cls
  have hB := RB_9 (v := .int 0) (RB_Yc (RB_bk M) f1)
  have ref : ∃ M2, b_M_bestRule_8 0 0 1 (xst M1 27 0 9 (.int 0)) = rI (zi (brR (bk M 0) 3 : Nat)) M2 ∧ RK (xst M1 27 0 9 (.int 0)) M2 := by
    refine lpM (B := fun k M' => b_M_bestRule_8 0 (zi (brR (bk M 0) k : Nat)) (zi ((k + 1 : Nat) : Int)) M') (n := 3) (fun k M' => RK (xst M1 27 0 9 (.int 0)) M') (fun r => ∃ M2, r = rI (zi (brR (bk M 0) 3 : Nat)) M2 ∧ RK (xst M1 27 0 9 (.int 0)) M2) (fun k M' hk f' => ?_) (fun M' f' => ?_) 0 _ (Nat.zero_le _) (RK_refl _)
    · have b0 := brR_le (bk M 0) k
      have m1 := mk9 (k + 1) (by omega)
      have m2 := mk9 (brR (bk M 0) k) (by omega)
      obtain ⟨A, ea, fa⟩ := r_spanBy (RK_RB f' hB) hw (k := ((k + 1 : Nat) : Int)) (by omega)
      obtain ⟨A2, eb, fb⟩ := r_spanBy (RK_RB (RK_trans f' fa) hB) hw (k := ((brR (bk M 0) k : Nat) : Int)) (by omega)
      refine ⟨A2, RK_trans f' (RK_trans fa fb), ?_⟩
      show b_M_bestRule_8 0 _ (zi ((k + 1 : Nat) : Int)) M' = b_M_bestRule_8 0 (zi ((if mkB (upI (bk M 0) 0 ((k + 1 : Nat) : Int)) < mkB (upI (bk M 0) 0 ((brR (bk M 0) k : Nat) : Int)) then k + 1 else brR (bk M 0) k : Nat) : Int)) (zi ((k + 1 + 1 : Nat) : Int)) A2
      rw [e_b_M_bestRule_8, zi_03, zif (by decide) (by decide) (by omega) (by omega), if_neg (by omega), ea, xbI_r, eb, xbI_r, zif (by omega) (by omega) (by omega) (by omega), zi_suc]
      by_cases q : mkB (upI (bk M 0) 0 ((k + 1 : Nat) : Int)) < mkB (upI (bk M 0) 0 ((brR (bk M 0) k : Nat) : Int))
      · rw [if_pos q, if_pos q]
      · rw [if_neg q, if_neg q]
    · refine ⟨M', ?_, f'⟩
      show b_M_bestRule_8 0 _ (zi ((3 + 1 : Nat) : Int)) M' = _
      rw [e_b_M_bestRule_8, zi_03, zif (by decide) (by decide) (by decide) (by decide), if_pos (by decide)]
  obtain ⟨M2, e2, f2⟩ := ref
  exact QN_k hI f1 e1 (by rw [e_m_M_bestRule, e2]) f2
/-- the bottleneck among the first k: its place, the length that it would have -/
def bnR (b : Nat → Int) (k : Nat) : Int × Int := match k with
  | 0 => (-1, mkB b)
  | k + 1 => if mkB (upI b (11 + 8 * k) (bC b k + 1)) < (bnR b k).2 then ((k : Nat), mkB (upI b (11 + 8 * k) (bC b k + 1))) else bnR b k
theorem bnR_bd {b : Nat → Int} (hw : wF b) : ∀ k, k ≤ nR b → 0 ≤ (bnR b k).2 ∧ (bnR b k).2 ≤ 459 := by
  intro k
  induction k with
  | zero => intro _; exact mkB_ok hw.1
  | succ k ih =>
    intro hk
    show 0 ≤ (if _ then _ else _ : Int × Int).2 ∧ (if _ then _ else _ : Int × Int).2 ≤ 459
    split
    · exact mkB_ok (sS_more hw (by omega))
    · exact ih (by omega)
theorem q_bottleneck {M : xM} (hI : Inv M) : QN M (m_C_bottleneck 0 M) (m_M_bottleneck 0) := by
  have hw := hI.1.1
  have hr3 := CP_r hI.1.2
  have mk9 : ∀ k : Nat, k < nR (bk M 0) → 0 ≤ mkB (upI (bk M 0) (11 + 8 * k) (bC (bk M 0) k + 1)) ∧ mkB (upI (bk M 0) (11 + 8 * k) (bC (bk M 0) k + 1)) ≤ 459 := fun k hk => mkB_ok (sS_more hw hk)
  have cls : ∃ M1, m_C_bottleneck 0 M = rI (zi (bnR (bk M 0) (nR (bk M 0))).1) M1 ∧ fr onYc M M1 := by
    obtain ⟨A, e, f, d, c⟩ := cls_S hI
    rw [e_m_C_bottleneck, e, xbR_r, d.2.2.2]
    refine lpM (B := fun k M' => b_C_bottleneck_9 0 (zi (bnR (bk M 0) k).1) (zi (bnR (bk M 0) k).2) (zi (k : Nat)) M') (n := nR (bk M 0)) (fun k M' => fr onYc M M' ∧ CP M' 9 (bk M 0)) (fun r => ∃ M1, r = rI (zi (bnR (bk M 0) (nR (bk M 0))).1) M1 ∧ fr onYc M M1) (fun k M' hk ⟨f', c'⟩ => ?_) (fun M' ⟨f', c'⟩ => ?_) 0 A (Nat.zero_le _) ⟨f, c⟩
    · have m1 := mk9 k hk
      have m2 := bnR_bd hw k (by omega)
      obtain ⟨A2, e2, f2, c2⟩ := s_lenMore c' hw hk
      refine ⟨A2, ⟨fr_trans f' f2, c2⟩, ?_⟩
      show b_C_bottleneck_9 0 _ _ (zi (k : Nat)) M' = b_C_bottleneck_9 0 (zi (if mkB (upI (bk M 0) (11 + 8 * k) (bC (bk M 0) k + 1)) < (bnR (bk M 0) k).2 then (((k : Nat) : Int), mkB (upI (bk M 0) (11 + 8 * k) (bC (bk M 0) k + 1))) else bnR (bk M 0) k).1) (zi (if mkB (upI (bk M 0) (11 + 8 * k) (bC (bk M 0) k + 1)) < (bnR (bk M 0) k).2 then (((k : Nat) : Int), mkB (upI (bk M 0) (11 + 8 * k) (bC (bk M 0) k + 1))) else bnR (bk M 0) k).2) (zi ((k + 1 : Nat) : Int)) A2
      rw [e_b_C_bottleneck_9, CP_R c', if_pos (zi_ltn hk (by omega)), e2, xbI_r, zif (by omega) (by omega) (by omega) (by omega), zi_suc]
      by_cases q : mkB (upI (bk M 0) (11 + 8 * k) (bC (bk M 0) k + 1)) < (bnR (bk M 0) k).2
      · rw [if_pos q, if_pos q]
      · rw [if_neg q, if_neg q]
    · refine ⟨M', ?_, f'⟩
      show b_C_bottleneck_9 0 _ _ (zi (nR (bk M 0) : Nat)) M' = _
      rw [e_b_C_bottleneck_9, CP_R c', if_neg (zi_irr _)]
  obtain ⟨M1, e1, f1⟩ := cls
  have hB := RB_9 (v := .int 0) (RB_Yc (RB_bk M) f1)
  obtain ⟨N, e3, f3, d3⟩ := r_build hB hw.1 hw.2.1
  have ref : ∃ M2, b_M_bottleneck_11 0 (-1) (zi (mkB (bk M 0))) 0 N = rI (zi (bnR (bk M 0) (nR (bk M 0))).1) M2 ∧ RK (xst M1 27 0 9 (.int 0)) M2 := by
    refine lpM (B := fun k M' => b_M_bottleneck_11 0 (zi (bnR (bk M 0) k).1) (zi (bnR (bk M 0) k).2) (zi (k : Nat)) M') (n := nR (bk M 0)) (fun k M' => RK (xst M1 27 0 9 (.int 0)) M') (fun r => ∃ M2, r = rI (zi (bnR (bk M 0) (nR (bk M 0))).1) M2 ∧ RK (xst M1 27 0 9 (.int 0)) M2) (fun k M' hk f' => ?_) (fun M' f' => ?_) 0 _ (Nat.zero_le _) (RK_B f3)
    · have m1 := mk9 k hk
      have m2 := bnR_bd hw k (by omega)
      have hB' := RK_RB f' hB
      have hv : gi M' 28 0 (ix 1) = zi (nR (bk M 0)) := RB_R hB' hw.1
      obtain ⟨A, ea, fa⟩ := r_spanMore hB' hw hk
      refine ⟨A, RK_trans f' fa, ?_⟩
      show b_M_bottleneck_11 0 _ _ (zi (k : Nat)) M' = b_M_bottleneck_11 0 (zi (if mkB (upI (bk M 0) (11 + 8 * k) (bC (bk M 0) k + 1)) < (bnR (bk M 0) k).2 then (((k : Nat) : Int), mkB (upI (bk M 0) (11 + 8 * k) (bC (bk M 0) k + 1))) else bnR (bk M 0) k).1) (zi (if mkB (upI (bk M 0) (11 + 8 * k) (bC (bk M 0) k + 1)) < (bnR (bk M 0) k).2 then (((k : Nat) : Int), mkB (upI (bk M 0) (11 + 8 * k) (bC (bk M 0) k + 1))) else bnR (bk M 0) k).2) (zi ((k + 1 : Nat) : Int)) A
      rw [e_b_M_bottleneck_11, xck_1, hv, if_pos (zi_ltn hk (by omega)), ea, xbI_r, zif (by omega) (by omega) (by omega) (by omega), zi_suc]
      by_cases q : mkB (upI (bk M 0) (11 + 8 * k) (bC (bk M 0) k + 1)) < (bnR (bk M 0) k).2
      · rw [if_pos q, if_pos q]
      · rw [if_neg q, if_neg q]
    · have hv : gi M' 28 0 (ix 1) = zi (nR (bk M 0)) := RB_R (RK_RB f' hB) hw.1
      refine ⟨M', ?_, f'⟩
      show b_M_bottleneck_11 0 _ _ (zi (nR (bk M 0) : Nat)) M' = _
      rw [e_b_M_bottleneck_11, xck_1, hv, if_neg (zi_irr _)]
  obtain ⟨M2, e2, f2⟩ := ref
  exact QN_k hI f1 e1 (by rw [e_m_M_bottleneck, e3, xbI_r, e2]) f2
/-- what is wrong with the schedule -/
theorem r_brk {M : xM} {b : Nat → Int} (h : RB M b) (hw : wS b) (hl : wL b) (hs : RS M b) (a : Int) : b_M_inconsistencies_15 0 (zi a) 0 M = b_M_inconsistencies_56 0 (zi (a + brB b)) 0 M := by
  have hn := wS_n hw
  refine lp (B := fun i => b_M_inconsistencies_15 0 (zi (a + sm (fun f => (cnt (fun t => bL b f t && decide (stB b t < stB b f + bD b f)) (nT b) : Nat)) i)) (zi (i : Nat)) M) (n := nT b) (R := b_M_inconsistencies_56 0 (zi (a + brB b)) 0 M) (fun i hi => ?_) ?_ 0 (Nat.zero_le _) |> fun q => (show b_M_inconsistencies_15 0 (zi a) 0 M = b_M_inconsistencies_15 0 (zi (a + 0)) 0 M by rw [Int.add_zero]).trans q
  · show b_M_inconsistencies_15 0 (zi (a + sm (fun f => (cnt (fun t => bL b f t && decide (stB b t < stB b f + bD b f)) (nT b) : Nat)) i)) (zi (i : Nat)) M = b_M_inconsistencies_15 0 (zi (a + (sm (fun f => (cnt (fun t => bL b f t && decide (stB b t < stB b f + bD b f)) (nT b) : Nat)) i + (cnt (fun t => bL b i t && decide (stB b t < stB b i + bD b i)) (nT b) : Nat)))) (zi ((i + 1 : Nat) : Int)) M
    generalize sm (fun f => ((cnt (fun t => bL b f t && decide (stB b t < stB b f + bD b f)) (nT b) : Nat) : Int)) i = S
    rw [e_b_M_inconsistencies_15, xck_2, RB_T h hw, if_pos (zi_ltn hi (by omega))]
    refine lp (B := fun j => b_M_inconsistencies_24 0 (zi (a + S + (cnt (fun t => bL b i t && decide (stB b t < stB b i + bD b i)) j : Nat))) (zi (i : Nat)) (zi (j : Nat)) M) (n := nT b) (fun j hj => ?_) ?_ 0 (Nat.zero_le _) |> fun q => (show b_M_inconsistencies_24 0 (zi (a + S)) (zi (i : Nat)) 0 M = b_M_inconsistencies_24 0 (zi (a + S + ((0 : Nat) : Int))) (zi (i : Nat)) 0 M by rw [Int.natCast_zero, Int.add_zero]).trans q
    · show b_M_inconsistencies_24 0 (zi (a + S + (cnt (fun t => bL b i t && decide (stB b t < stB b i + bD b i)) j : Nat))) (zi (i : Nat)) (zi (j : Nat)) M = b_M_inconsistencies_24 0 (zi (a + S + ((cnt (fun t => bL b i t && decide (stB b t < stB b i + bD b i)) j + (if (bL b i j && decide (stB b j < stB b i + bD b i)) then 1 else 0) : Nat) : Int))) (zi (i : Nat)) (zi ((j + 1 : Nat) : Int)) M
      have a1 := stB_ok hw hi
      have a2 := stB_480 hw hi
      have a3 := stB_ok hw hj
      have a4 := stB_480 hw hj
      have a5 := hw.2.2.2.1 j hj
      have a6 := hw.2.2.2.1 i hi
      rw [e_b_M_inconsistencies_24, xck_2, RB_T h hw, if_pos (zi_ltn hj (by omega)), r_link h hl (by omega) (by omega), xbI_r, ite_b, xck_n (by omega) (by decide), zix (by omega), (hs.2.1 j hj).1, r_fin h hw hs.2.1 hi, xbI_r, zif (by omega) (by omega) (by omega) (by omega), zi_suc j, zi_00, zi_add, Int.add_zero, zi_01, zi_add]
      cases bL b i j with
      | false => rw [if_neg (by decide), Bool.false_and, if_neg (by decide)]; rfl
      | true =>
        rw [if_pos rfl, Bool.true_and]
        by_cases c : stB b j < stB b i + bD b i
        · rw [if_pos c, decide_eq_true c, if_pos rfl, show a + S + ((cnt (fun t => bL b i t && decide (stB b t < stB b i + bD b i)) j + 1 : Nat) : Int) = a + S + (cnt (fun t => bL b i t && decide (stB b t < stB b i + bD b i)) j : Nat) + 1 by omega]
        · rw [if_neg c, decide_eq_false c, if_neg (by decide)]; rfl
    · show b_M_inconsistencies_24 0 (zi (a + S + (cnt _ (nT b) : Nat))) (zi (i : Nat)) (zi (nT b : Nat)) M = _
      rw [e_b_M_inconsistencies_24, xck_2, RB_T h hw, if_neg (zi_irr _), zi_suc, Int.add_assoc]
  · show b_M_inconsistencies_15 0 (zi (a + brB b)) (zi (nT b : Nat)) M = _
    rw [e_b_M_inconsistencies_15, xck_2, RB_T h hw, if_neg (zi_irr _)]
theorem r_ovu {M : xM} {b : Nat → Int} (h : RB M b) (hw : wS b) (hs : RS M b) (a : Int) : b_M_inconsistencies_56 0 (zi a) 0 M = rI (zi (a + (ouB b : Nat))) M := by
  have r3 : nR b ≤ 3 := by unfold nR; have := hw.2.1; omega
  have hv : gi M 28 0 (ix 1) = zi (nR b) := RB_R h hw
  refine lp (B := fun i => b_M_inconsistencies_56 0 (zi (a + (cnt (fun r => decide (bC b r < pkB b r)) i : Nat))) (zi (i : Nat)) M) (n := nR b) (R := rI (zi (a + (ouB b : Nat))) M) (fun i hi => ?_) ?_ 0 (Nat.zero_le _) |> fun q => (show b_M_inconsistencies_56 0 (zi a) 0 M = b_M_inconsistencies_56 0 (zi (a + ((0 : Nat) : Int))) 0 M by rw [Int.natCast_zero, Int.add_zero]).trans q
  · show b_M_inconsistencies_56 0 (zi (a + (cnt (fun r => decide (bC b r < pkB b r)) i : Nat))) (zi (i : Nat)) M = b_M_inconsistencies_56 0 (zi (a + ((cnt (fun r => decide (bC b r < pkB b r)) i + (if decide (bC b i < pkB b i) then 1 else 0) : Nat) : Int))) (zi ((i + 1 : Nat) : Int)) M
    have a1 := hw.2.2.2.2.2.2.1 i hi
    have a2 : 0 ≤ pkB b i := mxF_a _ _ _ _
    have a3 : pkB b i ≤ 200 := mxF_le (by decide) (fun j hj _ => (ldS_rg hw hi (allT b) (stB b) j).2)
    rw [e_b_M_inconsistencies_56, xck_1, hv, if_pos (zi_ltn hi (by omega)), r_peak hw hs hi, xbI_r, r_cap h (by omega), xbI_r, zif (by omega) (by omega) (by omega) (by omega), zi_suc i, zi_00, zi_add, Int.add_zero, zi_01, zi_add]
    by_cases c : bC b i < pkB b i
    · rw [if_pos c, decide_eq_true c, if_pos rfl, show a + ((cnt (fun r => decide (bC b r < pkB b r)) i + 1 : Nat) : Int) = a + (cnt (fun r => decide (bC b r < pkB b r)) i : Nat) + 1 by omega]
    · rw [if_neg c, decide_eq_false c, if_neg (by decide)]; rfl
  · show b_M_inconsistencies_56 0 (zi (a + (cnt _ (nR b) : Nat))) (zi (nR b : Nat)) M = _
    rw [e_b_M_inconsistencies_56, xck_1, hv, if_neg (zi_irr _)]
    rfl
theorem q_inconsistencies {M : xM} (hI : Inv M) : QN M (m_C_inconsistencies 0 M) (m_M_inconsistencies 0) := by
  have hw := hI.1.1
  have hr3 := CP_r hI.1.2
  obtain ⟨M1, e1, f1, d1, c1⟩ := cls_S hI
  have hB := RB_9 (v := .int 0) (RB_Yc (RB_bk M) f1)
  obtain ⟨M2, e2, f2, d2⟩ := r_build hB hw.1 hw.2.1
  have hB2 := RB_B hB f2
  have m1 := mkB_ok hw.1
  have l1 : 0 ≤ lbB (bk M 0) := Int.le_trans (etB_lo _) (mxF_a _ _ _ _)
  have l2 : lbB (bk M 0) ≤ 4000 := mxF_le (by have := etB_hi hw.1; omega) (fun j hj _ => by have := dwB_bd hw.1 hj; omega)
  refine QN_b (y := zi (if mkB (bk M 0) < lbB (bk M 0) then brB (bk M 0) + (ouB (bk M 0) : Nat) + 1 else brB (bk M 0) + (ouB (bk M 0) : Nat))) (M2 := M2) hI f1 ?_ ?_ f2
  · rw [e_m_C_inconsistencies, e1, xbR_r, s_broken c1 hw.1 d1, xbI_r, s_overu c1 hw.1 d1, xbI_r, s_least c1 hw.1 d1.1, xbI_r, d1.2.2.2, zif (by omega) (by omega) (by omega) (by omega), zi_add, zi_01, zi_add]
    split <;> rfl
  · rw [e_m_M_inconsistencies, e2, xbI_r, r_bound hB2 hw.1 d2.1, xbI_r, zif (by omega) (by omega) (by omega) (by omega)]
    have k1 := (r_brk hB2 hw.1 hw.2.1 d2 1).trans (r_ovu hB2 hw.1 d2 _)
    have k0 := (r_brk hB2 hw.1 hw.2.1 d2 0).trans (r_ovu hB2 hw.1 d2 _)
    have k1 : b_M_inconsistencies_15 0 1 0 M2 = _ := k1
    have k0 : b_M_inconsistencies_15 0 0 0 M2 = _ := k0
    rw [k1, k0]
    by_cases c : mkB (bk M 0) < lbB (bk M 0)
    · rw [if_pos c, if_pos c]; exact congrArg (fun z => rI (zi z) M2) (by omega)
    · rw [if_neg c, if_neg c]; exact congrArg (fun z => rI (zi z) M2) (by omega)
