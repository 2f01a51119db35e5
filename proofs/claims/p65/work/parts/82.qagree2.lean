/-! the law's plan agrees with the class -/
theorem zi_neg0 {α : Type} {x : Int} (h1 : 0 ≤ x) (h2 : x < 2147483648) (a c : α) : (if zi x < 0 then a else c) = c := by
  rw [zi_00, zif (by omega) h2 (by decide) (by decide), if_neg (by omega)]
theorem ag_task {M : xM} {o : Nat} {b : Nat → Int} {w : Int} {N : xM} (hA : AG M N o b) {i : Nat} (hi : i < nT b) : ∃ N', AG M N' o b ∧ b_Q_agrees_30 o (zi w) (zi (i : Nat)) N = b_Q_agrees_30 o (zi w) (zi ((i + 1 : Nat) : Int)) N' := by
  have hw := hA.1.1.1.1.1
  have hn := CI_n hA.1.1.1
  have lo := lsB_lo hw hi
  have es := es_st hw hi
  have e0 := esB_lo hw hi
  have s1 := stB_ok hw hi
  have s2 := mkB_ok hw
  have l2 := lsB_hi hw hi
  have l3 := etB_hi hw
  have d1 := hw.2.2.2.1 i hi
  obtain ⟨N1, e1, f1⟩ := c_st hA.1.1.1 hi
  have h1 := AG_Y hA f1
  obtain ⟨N2, e2, f2⟩ := c_fin h1.1.1.1 hi
  have h2 := AG_Y h1 f2
  obtain ⟨N3, e3, f3⟩ := c_es h2.1.1.1 hi
  have h3 := AG_Y h2 f3
  obtain ⟨N4, e4, f4⟩ := c_ls h3.1.1.1 hi
  have h4 := AG_Y h3 f4
  obtain ⟨N5, e5, f5⟩ := c_del h4.1.1.1 hi
  have h5 := AG_Y h4 f5
  obtain ⟨N6, e6, f6⟩ := c_del h5.1.1.1 hi
  have h6 := AG_Y h5 f6
  obtain ⟨N7, e7, f7⟩ := c_slack h6.1.1.1 hi
  have h7 := AG_Y h6 f7
  obtain ⟨N8, e8, f8⟩ := c_slack h7.1.1.1 hi
  have h8 := AG_Y h7 f8
  have fin : b_Q_agrees_115 o (zi w) (zi (i : Nat)) (zi ((0 : Nat) : Int)) N8 = b_Q_agrees_30 o (zi w) (zi ((i + 1 : Nat) : Int)) N8 := by
    refine lp (B := fun j => b_Q_agrees_115 o (zi w) (zi (i : Nat)) (zi (j : Nat)) N8) (n := nT b) (fun j hj => ?_) ?_ 0 (Nat.zero_le _)
    · have t1 := stB_ok hw hj
      have d2 := hw.2.2.2.1 j hj
      have g1 := (h8.2.1 i hi).1
      have g2 := (h8.2.1 j hj).1
      show b_Q_agrees_115 o (zi w) (zi (i : Nat)) (zi (j : Nat)) N8 = b_Q_agrees_115 o (zi w) (zi (i : Nat)) (zi ((j + 1 : Nat) : Int)) N8
      rw [e_b_Q_agrees_115, h8.1.1.2.2.1, if_pos (zi_ltn hj (by omega)), if_pos h8.1.1.2.1.1, gdc h8.1.1.1 (xain2 _ _), c_link h8.1.1.1 hi hj, xret_I, xbI_r, ite_b, zi_suc]
      cases hl : bL b i j with
      | false => rw [if_neg (by decide)]
      | true =>
        have k1 := stB_link hw hi hj hl
        rw [if_pos rfl, if_pos h8.1.1.2.1.2, xck_n (by omega) (by decide), if_pos h8.1.1.2.1.2, xck_n (by omega) (by decide), if_pos h8.1.1.2.1.1, gdc h8.1.1.1 (xain1 _), c_dur h8.1.1.1 hi, xret_I, xbI_r, zix (by omega), zix (by omega), g1, g2, zi_add, zif (by omega) (by omega) (by omega) (by omega), if_neg (by omega)]
    · show b_Q_agrees_115 o (zi w) (zi (i : Nat)) (zi (nT b : Nat)) N8 = _
      rw [e_b_Q_agrees_115, h8.1.1.2.2.1, if_neg (zi_irr _), zi_suc]
  refine ⟨N8, h8, ?_⟩
  rw [e_b_Q_agrees_30, hA.1.1.2.2.1, if_pos (zi_ltn hi (by omega)), if_pos hA.1.1.2.1.1, gdc hA.1.1.1 (xain1 _), e1, xret_I, xbI_r,
    if_pos h1.1.1.2.1.2, xck_n (by omega) (by decide), zix (by omega), (h1.2.1 i hi).1, if_pos rfl, if_pos h1.1.1.2.1.1, gdc h1.1.1.1 (xain1 _), e2, xret_I, xbI_r,
    if_pos h2.1.1.2.1.2, xck_n (by omega) (by decide), if_pos h2.1.1.2.1.1, gdc h2.1.1.1 (xain1 _), c_dur h2.1.1.1 hi, xret_I, xbI_r, (h2.2.1 i hi).1, zi_add, if_pos rfl, if_pos h2.1.1.2.1.1, gdc h2.1.1.1 (xain1 _), e3, xret_I, xbI_r,
    q_early h3.1.1 hi, xret_I, xbI_r, if_pos rfl, if_pos h3.1.1.2.1.1, gdc h3.1.1.1 (xain1 _), e4, xret_I, xbI_r,
    q_late h4.1 hi, xret_I, xbI_r, if_pos rfl, if_pos h4.1.1.2.1.1, gdc h4.1.1.1 (xain1 _), e5, xret_I, xbI_r,
    if_pos h5.1.1.2.1.2, xck_n (by omega) (by decide), q_early h5.1.1 hi, xret_I, xbI_r, (h5.2.1 i hi).1, zi_sub, if_pos rfl, if_pos h5.1.1.2.1.1, gdc h5.1.1.1 (xain1 _), e6, xret_I, xbI_r,
    zi_neg0 (by omega) (by omega), if_pos h6.1.1.2.1.1, gdc h6.1.1.1 (xain1 _), e7, xret_I, xbI_r,
    q_late h7.1 hi, xret_I, xbI_r, q_early h7.1.1 hi, xret_I, xbI_r, zi_sub, if_pos rfl, if_pos h7.1.1.2.1.1, gdc h7.1.1.1 (xain1 _), e8, xret_I, xbI_r, zi_neg0 (by omega) (by omega)]
  exact fin
theorem ag_res {M : xM} {o : Nat} {b : Nat → Int} {N : xM} (hA : AG M N o b) {r : Nat} (hr : r < nR b) : ∃ N', AG M N' o b ∧ b_Q_agrees_148 o (zi (mkB b)) (zi (r : Nat)) N = b_Q_agrees_148 o (zi (mkB b)) (zi ((r + 1 : Nat) : Int)) N' := by
  have hw := hA.1.1.1.1.1
  have hr3 := CP_r hA.1.1.1.2.1
  have s2 := mkB_ok hw
  have hC := hw.2.2.2.2.2.2.1 r hr
  have go : ∃ N', AG M N' o b ∧ b_Q_agrees_158 o (zi (mkB b)) (zi (r : Nat)) (zi (mxF (fun _ => true) (fun x : Nat => ldS b (allT b) (stB b) r x) 0 0)) (zi ((0 : Nat) : Int)) N = b_Q_agrees_158 o (zi (mkB b)) (zi (r : Nat)) (zi (pkB b r)) (zi (mkB b + 1)) N' := by
    refine lpM (B := fun i X => b_Q_agrees_158 o (zi (mkB b)) (zi (r : Nat)) (zi (mxF (fun _ => true) (fun x : Nat => ldS b (allT b) (stB b) r x) 0 i)) (zi (i : Nat)) X) (n := (mkB b).toNat + 1) (fun i X => AG M X o b) (fun q => ∃ N', AG M N' o b ∧ q = b_Q_agrees_158 o (zi (mkB b)) (zi (r : Nat)) (zi (pkB b r)) (zi (mkB b + 1)) N') (fun i X hi V => ?_) (fun X V => ?_) 0 N (Nat.zero_le _) hA
    · have V : AG M X o b := V
      obtain ⟨X1, e1, f1⟩ := c_use V.1.1.1 hr (x := (i : Nat)) (by omega) (by omega)
      have V1 := AG_Y V f1
      have m1 := mxF_a (fun _ => true) (fun x : Nat => ldS b (allT b) (stB b) r x) 0 i
      have m2 : mxF (fun _ => true) (fun x : Nat => ldS b (allT b) (stB b) r x) 0 i ≤ 200 := mxF_le (by decide) (fun j _ _ => (ldS_rg hw hr (allT b) (stB b) j).2)
      have l1 := ldS_rg hw hr (allT b) (stB b) i
      have l2 := stB_cap hw hr i
      refine ⟨X1, V1, ?_⟩
      show b_Q_agrees_158 o (zi (mkB b)) (zi (r : Nat)) (zi (mxF (fun _ => true) (fun x : Nat => ldS b (allT b) (stB b) r x) 0 i)) (zi (i : Nat)) X = b_Q_agrees_158 o (zi (mkB b)) (zi (r : Nat)) (zi (if true = true then imx (mxF (fun _ => true) (fun x : Nat => ldS b (allT b) (stB b) r x) 0 i) (ldS b (allT b) (stB b) r (i : Nat)) else _)) (zi ((i + 1 : Nat) : Int)) X1
      rw [if_pos (rfl : true = true), e_b_Q_agrees_158, zif (by omega) (by omega) (by omega) (by omega), if_neg (by omega), q_usage V.1.1 V.2.1 hr (by omega) (by omega), xret_I, xbI_r, gd4 (xain4 _ _), s_max _ _ (by omega) (by omega) (by omega) (by omega), xret_I, xbI_r, if_pos V.1.1.2.1.1, gdc V.1.1.1 (xain2 _ _), e1, xret_I, xbI_r, if_pos rfl, if_pos V1.1.1.2.1.1, gdc V1.1.1.1 (xain1 _), c_cap V1.1.1.1 hr, xret_I, xbI_r, zif (by omega) (by omega) (by omega) (by omega), if_neg (by omega), zi_suc]
    · have V : AG M X o b := V
      refine ⟨X, V, ?_⟩
      show b_Q_agrees_158 o (zi (mkB b)) (zi (r : Nat)) (zi (mxF (fun _ => true) (fun x : Nat => ldS b (allT b) (stB b) r x) 0 ((mkB b).toNat + 1))) (zi (((mkB b).toNat + 1 : Nat) : Int)) X = _
      rw [pk_day hw hr, show (((mkB b).toNat + 1 : Nat) : Int) = mkB b + 1 by omega]
  obtain ⟨N1, h1, e1⟩ := go
  obtain ⟨N2, e2, f2⟩ := c_peak h1.1.1.1 hr
  refine ⟨N2, AG_Y h1 f2, ?_⟩
  have e1 : b_Q_agrees_158 o (zi (mkB b)) (zi (r : Nat)) 0 0 N = _ := e1
  rw [e_b_Q_agrees_148, if_pos hA.1.1.2.1.1, gdc hA.1.1.1 xain0, c_rc hA.1.1.1, xret_I, xbI_r, if_pos (zi_ltn hr (by omega)), e1, e_b_Q_agrees_158, zif (by omega) (by omega) (by omega) (by omega), if_pos (by omega), if_pos h1.1.1.2.1.1, gdc h1.1.1.1 (xain1 _), e2, xret_I, xbI_r, if_pos rfl, zi_suc]
theorem q_agrees {M : xM} {o : Nat} {b : Nat → Int} (h : QL M o b) : ∃ N, m_Q_agrees o M = rI (bz true) N ∧ AG M N o b := by
  have hw := h.1.1.1.1
  have hn := CI_n h.1.1
  have s2 := mkB_ok hw
  have t1 := etB_lo b
  have t2 := et_mk hw
  obtain ⟨M1, e1, f1, ro1, p1⟩ := q_build h (v := b 0) hw.2.2.1
  rw [upI_self] at e1 p1
  have h1 : AG M M1 o b := ⟨QL_B h f1, p1, V_B f1, ro1⟩
  obtain ⟨M2, e2, f2⟩ := c_mk h1.1.1.1
  have h2 := AG_Y h1 f2
  obtain ⟨M3, e3, f3⟩ := c_len h2.1.1.1
  have h3 := AG_Y h2 f3
  obtain ⟨M4, e4, f4⟩ := c_inc h3.1.1.1
  have h4 := AG_Y h3 f4
  have e4 : m_C_inconsistencies 0 M3 = rI 0 M4 := by
    have lb := lb_mk hw
    have lb0 : 0 ≤ lbB b := Int.le_trans t1 (mxF_a _ _ _ _)
    rw [e4, zif (by omega) (by omega) (by omega) (by omega), if_neg (by omega), br_0 hw, ou_0 hw]
    rfl
  rw [e_m_Q_agrees, if_pos h.1.2.1.1, gdc h.1.1 xain0, c_rule h.1.1, xret_I, xbI_r, e1, xret_I, xbI_r, if_pos h1.1.1.2.1.1, gdc h1.1.1.1 xain0, e2, xret_I, xbI_r, if_pos rfl, if_pos h2.1.1.2.1.1, gdc h2.1.1.1 xain0, e3, xret_I, xbI_r, h3.1.2, if_pos rfl, zif (by omega) (by omega) (by omega) (by omega), if_neg (by omega), if_pos h3.1.1.2.1.1, gdc h3.1.1.1 xain0, e4, xret_I, xbI_r, if_pos rfl]
  have k1 : ∃ N, AG M N o b ∧ b_Q_agrees_30 o (zi (mkB b)) (zi ((0 : Nat) : Int)) M4 = b_Q_agrees_30 o (zi (mkB b)) (zi (nT b : Nat)) N :=
    lpM (B := fun i X => b_Q_agrees_30 o (zi (mkB b)) (zi (i : Nat)) X) (n := nT b) (fun i X => AG M X o b) (fun q => ∃ N, AG M N o b ∧ q = b_Q_agrees_30 o (zi (mkB b)) (zi (nT b : Nat)) N) (fun i X hi V => ag_task V hi) (fun X V => ⟨X, V, rfl⟩) 0 M4 (Nat.zero_le _) h4
  obtain ⟨M5, h5, e5⟩ := k1
  have e5 : b_Q_agrees_30 o (zi (mkB b)) 0 M4 = _ := e5
  rw [e5, e_b_Q_agrees_30, h5.1.1.2.2.1, if_neg (zi_irr _)]
  have k2 : ∃ N, AG M N o b ∧ b_Q_agrees_148 o (zi (mkB b)) (zi ((0 : Nat) : Int)) M5 = b_Q_agrees_148 o (zi (mkB b)) (zi (nR b : Nat)) N :=
    lpM (B := fun i X => b_Q_agrees_148 o (zi (mkB b)) (zi (i : Nat)) X) (n := nR b) (fun i X => AG M X o b) (fun q => ∃ N, AG M N o b ∧ q = b_Q_agrees_148 o (zi (mkB b)) (zi (nR b : Nat)) N) (fun i X hi V => ag_res V hi) (fun X V => ⟨X, V, rfl⟩) 0 M5 (Nat.zero_le _) h5
  obtain ⟨M6, h6, e6⟩ := k2
  have e6 : b_Q_agrees_148 o (zi (mkB b)) 0 M5 = _ := e6
  obtain ⟨M7, e7, f7⟩ := c_lb h6.1.1.1
  have lb := lb_mk hw
  have lb0 : 0 ≤ lbB b := Int.le_trans t1 (mxF_a _ _ _ _)
  refine ⟨M7, ?_, AG_Y h6 f7⟩
  rw [e6, e_b_Q_agrees_148, if_pos h6.1.1.2.1.1, gdc h6.1.1.1 xain0, c_rc h6.1.1.1, xret_I, xbI_r, if_neg (zi_irr _), if_pos h6.1.1.2.1.1, gdc h6.1.1.1 xain0, e7, xret_I, xbI_r, zif (by omega) (by omega) (by omega) (by omega), if_neg (by omega), xnar_1]
