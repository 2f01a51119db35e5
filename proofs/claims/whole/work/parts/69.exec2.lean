/-! scripts: each kind carried out -/
theorem r_set {M : xM} {t w : Nat} (ht : t < 12) (hw : w < 12) (v : Int32) : m_M_set 0 (zi t) (zi w) v M = rV (xst M 28 0 (28 + 12 * t + w) (.int v)) := by
  rw [e_m_M_set, zi_28, zi_12, zi_mul, zi_add, zi_add, xck_z (by omega) (by omega) (by decide), zixz (by omega) (by omega), show ((28 : Int) + (t : Int) * 12 + (w : Int)).toNat = 28 + 12 * t + w by omega]
theorem r_setIf0 (x k v : Int32) (M : xM) : xbI (m_M_setIf 0 0 x k v M) (fun r A => rI (xnar 1 r) A) = rI (bz false) M := by
  rw [e_m_M_setIf, ite_z0, xbI_r, xnar_0, xnar_b]
theorem r_setIf1 {M : xM} {t w : Nat} (ht : t < 12) (hw : w < 12) (v : Int32) {k : Int32} (hk : k = zi (w : Nat)) : xbI (m_M_setIf 0 1 (zi t) k v M) (fun r A => rI (xnar 1 r) A) = rI (bz true) (xst M 28 0 (28 + 12 * t + w) (.int v)) := by
  rw [e_m_M_setIf, ite_z1, hk, r_set ht hw, xbV_r, xbI_r, xnar_1, xnar_b]
theorem r_lnkIf0 (x y v : Int32) (M : xM) : xbI (m_M_linkIf 0 0 x y v M) (fun r A => rI (xnar 1 r) A) = rI (bz false) M := by
  rw [e_m_M_linkIf, ite_z0, xbI_r, xnar_0, xnar_b]
theorem r_lnkIf1 {M : xM} {x y : Nat} (hx : x < 12) (hy : y < 12) (v : Int32) : xbI (m_M_linkIf 0 1 (zi x) (zi y) v M) (fun r A => rI (xnar 1 r) A) = rI (bz true) (xst M 28 0 (172 + 12 * x + y) (.int v)) := by
  rw [e_m_M_linkIf, ite_z1, r_setLink hx hy, xbV_r, xbI_r, xnar_1, xnar_b]
theorem r_inr {M : xM} {v a c : Int} (h1 : -2147483648 ≤ v) (h2 : v < 2147483648) (h3 : -2147483648 ≤ a) (h4 : a < 2147483648) (h5 : -2147483648 ≤ c) (h6 : c < 2147483648) : m_M_in (zi v) (zi a) (zi c) M = rI (bz (decide (a ≤ v ∧ v ≤ c))) M := by
  rw [e_m_M_in, zif h1 h2 h3 h4, zif h5 h6 h1 h2, xnar_0, xnar_1]
  by_cases q : v < a
  · rw [if_pos q, decide_eq_false (by omega)]
  · rw [if_neg q]
    by_cases q2 : c < v
    · rw [if_pos q2, decide_eq_false (by omega)]
    · rw [if_neg q2, decide_eq_true (by omega)]
theorem r_capOk {M : xM} {b : Nat → Int} (h : RB M b) (hw : wS b) {r : Nat} (hr : r < nR b) {v : Int} (h1 : 0 ≤ v) (h2 : v < 2147483648) : m_M_canHaveCapacity 0 (zi r) (zi v) M = rI (bz (decide (mxF (fun _ => true) (fun t => bU b t r) 0 (nT b) ≤ v))) M := by
  have hn := wS_n hw
  have r3 : nR b ≤ 3 := by unfold nR; have := hw.2.1; omega
  have hU : ∀ t, t < nT b → 0 ≤ bU b t r ∧ bU b t r ≤ 10 := fun t ht => by
    have a := hw.2.2.2.2.2.1 t r ht hr
    have c := hw.2.2.2.2.2.2.1 r hr
    omega
  have step : ∀ i, i < nT b → b_M_canHaveCapacity_3 0 (zi r) (zi v) (zi (i : Nat)) M = if v < bU b i r then rI (bz false) M else b_M_canHaveCapacity_3 0 (zi r) (zi v) (zi ((i + 1 : Nat) : Int)) M := fun i hi => by
    have := hU i hi
    rw [e_b_M_canHaveCapacity_3, xck_2, RB_T h hw, if_pos (zi_ltn hi (by omega)), r_U h (by omega) (by omega), xbI_r, zif (by omega) (by omega) (by omega) (by omega), xnar_0, zi_suc]
  rw [e_m_M_canHaveCapacity]
  have := lpx (B := fun i : Nat => b_M_canHaveCapacity_3 0 (zi r) (zi v) (zi (i : Nat)) M) (n := nT b) (fun t => decide (bU b t r ≤ v)) (fun _ => rI (bz false) M) (R2 := rI (bz true) M) (fun i hi hok => ?_) (fun i hi hok => ?_) ?_
  · refine Eq.trans this ?_
    by_cases c : mxF (fun _ => true) (fun t => bU b t r) 0 (nT b) ≤ v
    · rw [decide_eq_true c, if_neg]
      intro q
      have y := fstN_yes q
      have g := mxF_g (P := fun _ => true) (g := fun t => bU b t r) (a := 0) q rfl
      rw [Bool.not_eq_true', decide_eq_false_iff_not] at y
      omega
    · rw [decide_eq_false c, if_pos]
      rcases mxF_at (fun _ => true) (fun t => bU b t r) 0 (nT b) with e | ⟨i, hi, _, e⟩
      · omega
      · exact fstN_ex hi (by
          rw [Bool.not_eq_true', decide_eq_false_iff_not]; omega)
  · have hok : bU b i r ≤ v := of_decide_eq_true hok
    exact (step i hi).trans (if_neg (by omega))
  · have hok : ¬ bU b i r ≤ v := of_decide_eq_false hok
    exact (step i hi).trans (if_pos (by omega))
  · show b_M_canHaveCapacity_3 0 (zi r) (zi v) (zi (nT b : Nat)) M = _
    rw [e_b_M_canHaveCapacity_3, xck_2, RB_T h hw, if_neg (zi_irr _), xnar_1]
theorem ex_D {M M' : xM} {b : Nat → Int} (hP : CP M 9 b) (hB : RB M' b) (hw : wF b) {x v : Int} (hx : -1 ≤ x ∧ x < nT b) (hv : 0 ≤ v ∧ v ≤ 999) {i : Nat} (h4 : gi M 24 i 4 = zi v) (y z z' : Int32) : EX M M' (sEx 0 (zi x) y z i M) (rSt 0 (zi x) z' (zi v) M') b := by
  have hn := CP_n hP
  have hr := CP_r hP
  show EX M M' (xbI (m_P_changeDuration 9 (zi x) (gi M 24 i 4) M) (fun r A => rI (xnar 1 r) A)) _ b
  unfold rSt
  rw [if_pos (rfl : (0 : Nat) = 0), h4, s_chD hP (by omega) (by omega) (by omega) (by omega), zi_m1, zife (by omega) (by omega) (by decide) (by decide)]
  by_cases c : x = -1
  · rw [if_pos c, r_setIf0, if_neg (show ¬ ((0 ≤ x ∧ x < nT b) ∧ 1 ≤ v ∧ v ≤ 30) by omega), xbI_r, xnar_b]
    exact EX_no (fz_refl _) hP hB hw
  · obtain ⟨t, rfl⟩ : ∃ t : Nat, x = (t : Int) := ⟨x.toNat, by omega⟩
    have ht : t < nT b := by omega
    rw [if_neg c, zi_01, zi_30, r_inr (by omega) (by omega) (by decide) (by decide) (by decide) (by decide), xbI_r, ite_b, ← zi_01]
    by_cases q : 1 ≤ v ∧ v ≤ 30
    · rw [decide_eq_true q, if_pos rfl, r_setIf1 (by omega) (by decide) _ (show (7 : Int32) = zi ((7 : Nat) : Int) from rfl), if_pos (show ((0 : Int) ≤ (t : Int) ∧ (t : Int) < nT b) ∧ 1 ≤ v ∧ v ≤ 30 by omega), xbI_r, xnar_b, Int.toNat_natCast]
      refine ⟨true, _, _, upI b (35 + 12 * t) v, rfl, rfl, fr_st rfl, onEx_8 (fz_st (on280_t (by omega))), CP_upD hP hw ht v, ?_, wF_up hw ⟨by omega, by omega⟩ (by omega) (fun q => by omega) (fun s hs => by omega) (fun r hr => by omega) (fun s hs q => by omega) (fun s hs q => by omega) (fun s r hs hr q => by omega) (fun r hr q => by omega), RN_up (by omega)⟩
      rw [show 28 + 12 * t + 7 = 35 + 12 * t by omega]
      exact RB_st hB
    · rw [decide_eq_false q, if_neg (by decide : ¬ false = true), r_setIf0, if_neg (show ¬ (((0 : Int) ≤ (t : Int) ∧ (t : Int) < nT b) ∧ 1 ≤ v ∧ v ≤ 30) from fun z => q z.2), xbI_r, xnar_b]
      exact EX_no (fz_refl _) hP hB hw
theorem ex_E {M M' : xM} {b : Nat → Int} (hP : CP M 9 b) (hB : RB M' b) (hw : wF b) {x v : Int} (hx : -1 ≤ x ∧ x < nT b) (hv : 0 ≤ v ∧ v ≤ 999) {i : Nat} (h4 : gi M 24 i 4 = zi v) (y z z' : Int32) : EX M M' (sEx 2 (zi x) y z i M) (rSt 2 (zi x) z' (zi v) M') b := by
  have hn := CP_n hP
  have hr := CP_r hP
  show EX M M' (xbI (m_P_changeRelease 9 (zi x) (gi M 24 i 4) M) (fun r A => rI (xnar 1 r) A)) _ b
  unfold rSt
  rw [if_neg (by decide : ¬ (2 : Nat) = 0), if_neg (by decide : ¬ (2 : Nat) = 1), h4, s_chE hP (by omega) (by omega) (by omega) (by omega), zi_m1, zife (by omega) (by omega) (by decide) (by decide)]
  by_cases c : x = -1
  · rw [if_pos c, r_setIf0, if_neg (show ¬ ((0 ≤ x ∧ x < nT b) ∧ 0 ≤ v ∧ v ≤ 99) by omega), xbI_r, xnar_b]
    exact EX_no (fz_refl _) hP hB hw
  · obtain ⟨t, rfl⟩ : ∃ t : Nat, x = (t : Int) := ⟨x.toNat, by omega⟩
    have ht : t < nT b := by omega
    rw [if_neg c, zi_99, zif (by decide) (by decide) (by omega) (by omega)]
    by_cases q : 99 < v
    · rw [if_pos q, r_setIf0, if_neg (show ¬ (((0 : Int) ≤ (t : Int) ∧ (t : Int) < nT b) ∧ 0 ≤ v ∧ v ≤ 99) by omega), xbI_r, xnar_b]
      exact EX_no (fz_refl _) hP hB hw
    · rw [if_neg q, r_setIf1 (by omega) (by decide) _ (show (8 : Int32) = zi ((8 : Nat) : Int) from rfl), if_pos (show ((0 : Int) ≤ (t : Int) ∧ (t : Int) < nT b) ∧ 0 ≤ v ∧ v ≤ 99 by omega), xbI_r, xnar_b, Int.toNat_natCast]
      refine ⟨true, _, _, upI b (36 + 12 * t) v, rfl, rfl, fr_st rfl, onEx_8 (fz_st (on280_t (by omega))), CP_upE hP hw ht v, ?_, wF_up hw ⟨by omega, by omega⟩ (by omega) (fun q => by omega) (fun s hs => by omega) (fun r hr => by omega) (fun s hs q => by omega) (fun s hs q => by omega) (fun s r hs hr q => by omega) (fun r hr q => by omega), RN_up (by omega)⟩
      rw [show 28 + 12 * t + 8 = 36 + 12 * t by omega]
      exact RB_st hB
theorem ex_U {M M' : xM} {b : Nat → Int} (hP : CP M 9 b) (hB : RB M' b) (hw : wF b) {x v : Int} (hx : -1 ≤ x ∧ x < nT b) {r : Nat} (hr0 : r < nR b) (hv : 0 ≤ v ∧ v ≤ 999) {i : Nat} (h4 : gi M 24 i 4 = zi v) (y : Int32) : EX M M' (sEx 1 (zi x) y (zi r) i M) (rSt 1 (zi x) (zi r) (zi v) M') b := by
  have hn := CP_n hP
  have hr := CP_r hP
  have hC := hw.1.2.2.2.2.2.2.1
  have hc := hC r hr0
  show EX M M' (xbI (m_P_changeDemand 9 (zi x) (zi r) (gi M 24 i 4) M) (fun r A => rI (xnar 1 r) A)) _ b
  unfold rSt
  rw [if_neg (by decide : ¬ (1 : Nat) = 0), if_pos (rfl : (1 : Nat) = 1), h4, s_chU hP (fun r hr => by have := hC r hr; omega) (by omega) (by omega) (by omega) (by omega) (by omega) (by omega), zi_m1, zife (by omega) (by omega) (by decide) (by decide)]
  by_cases c : x = -1
  · rw [if_pos c, r_setIf0, if_neg (fun z => by omega), xbI_r, xnar_b]
    exact EX_no (fz_refl _) hP hB hw
  · obtain ⟨t, rfl⟩ : ∃ t : Nat, x = (t : Int) := ⟨x.toNat, by omega⟩
    have ht : t < nT b := by omega
    rw [if_neg c, r_cap hB (by omega), xbI_r, zif (by omega) (by omega) (by omega) (by omega), Int.toNat_natCast, Int.toNat_natCast]
    by_cases q : bC b r < v
    · rw [if_pos q, r_setIf0, if_neg (fun z => by omega), xbI_r, xnar_b]
      exact EX_no (fz_refl _) hP hB hw
    · rw [if_neg q, r_setIf1 (w := 9 + r) (by omega) (by omega) _ (by rw [zi_09, zi_add]; congr 1), if_pos (show (((0 : Int) ≤ (t : Int) ∧ (t : Int) < nT b) ∧ (0 : Int) ≤ (r : Int) ∧ (r : Int) < nR b) ∧ 0 ≤ v ∧ v ≤ bC b r by omega), xbI_r, xnar_b]
      refine ⟨true, _, _, upI b (37 + 12 * t + r) v, rfl, rfl, fr_st rfl, onEx_8 (fz_st (on280_t (by omega))), CP_upU hP hw ht hr0 v, ?_, wF_up hw ⟨by omega, by omega⟩ (by omega) (fun q => by omega) (fun s hs => by omega) (fun r hr => by omega) (fun s hs q => by omega) (fun s hs q => by omega) (fun s r2 hs hr2 q2 => ?_) (fun r hr q => by omega), RN_up (by omega)⟩
      · rw [show 28 + 12 * t + (9 + r) = 37 + 12 * t + r by omega]
        exact RB_st hB
      · have : r2 = r := by omega
        subst this
        omega
theorem ex_L {M M' : xM} {b : Nat → Int} (hP : CP M 9 b) (hB : RB M' b) (hw : wF b) {x y : Int} (hx : -1 ≤ x ∧ x < nT b) (hy : -1 ≤ y ∧ y < nT b) {i : Nat} (z : Int32) : EX M M' (sEx 3 (zi x) (zi y) z i M) (rLk 3 (zi x) (zi y) M') b := by
  have hn := CP_n hP
  have hr := CP_r hP
  show EX M M' (xbI (m_P_link 9 (zi x) (zi y) M) (fun r A => rI (xnar 1 r) A)) _ b
  unfold rLk
  rw [if_pos (rfl : (3 : Nat) = 3), s_link hP hw.1.2.2.2.2.2.2.2 (by omega) (by omega) (by omega) (by omega), zi_m1, zife (by omega) (by omega) (by decide) (by decide), zife (by omega) (by omega) (by decide) (by decide)]
  by_cases c : x = -1
  · rw [if_pos c, r_lnkIf0, if_neg (fun z => by omega), xbI_r, xnar_b]
    exact EX_no (fz_refl _) hP hB hw
  rw [if_neg c]
  by_cases d : y = -1
  · rw [if_pos d, r_lnkIf0, if_neg (fun z => by omega), xbI_r, xnar_b]
    exact EX_no (fz_refl _) hP hB hw
  rw [if_neg d]
  obtain ⟨f, rfl⟩ : ∃ t : Nat, x = (t : Int) := ⟨x.toNat, by omega⟩
  obtain ⟨t, rfl⟩ : ∃ t : Nat, y = (t : Int) := ⟨y.toNat, by omega⟩
  have hf : f < nT b := by omega
  have ht : t < nT b := by omega
  obtain ⟨N, e, fN⟩ := r_canLink hB hw.1 hw.2.1 hf ht
  have hB' : RB N b := RB_32 hB fN
  rw [e, xbI_r, ite_b, Int.toNat_natCast, Int.toNat_natCast]
  by_cases q : (!bL b f t && decide (dF (nT b) (bL b) t (nT b) f = -1)) = true
  · rw [if_pos q, if_pos ⟨⟨⟨by omega, by omega⟩, by omega, by omega⟩, q⟩, r_lnkIf1 (by omega) (by omega), xbI_r, xnar_b]
    refine ⟨true, _, _, upI b (172 + 12 * f + t) (if true = true then 1 else 0), rfl, rfl, fr_st rfl, fz_step (onEx_2 fN) (by unfold onEx; rw [on280_t (by omega)]; rfl), CP_upL hP hw (by omega) ht true, RB_st (v := 1) hB', wF_upL hw hf ht true (fun _ => ?_), RN_up (by omega)⟩
    rw [Bool.and_eq_true] at q
    exact of_decide_eq_true q.2
  · rw [if_neg q, if_neg (fun z => q z.2), r_lnkIf0, xbI_r, xnar_b]
    exact EX_no (onEx_2 fN) hP hB' hw
theorem ex_K {M M' : xM} {b : Nat → Int} (hP : CP M 9 b) (hB : RB M' b) (hw : wF b) {x y : Int} (hx : -1 ≤ x ∧ x < nT b) (hy : -1 ≤ y ∧ y < nT b) {i : Nat} (z : Int32) : EX M M' (sEx 4 (zi x) (zi y) z i M) (rLk 4 (zi x) (zi y) M') b := by
  have hn := CP_n hP
  have hr := CP_r hP
  show EX M M' (xbI (m_P_unlink 9 (zi x) (zi y) M) (fun r A => rI (xnar 1 r) A)) _ b
  unfold rLk
  rw [if_neg (by decide : ¬ (4 : Nat) = 3), s_unlink hP (by omega) (by omega) (by omega) (by omega), zi_m1, zife (by omega) (by omega) (by decide) (by decide), zife (by omega) (by omega) (by decide) (by decide)]
  by_cases c : x = -1
  · rw [if_pos c, r_lnkIf0, if_neg (fun z => by omega), xbI_r, xnar_b]
    exact EX_no (fz_refl _) hP hB hw
  rw [if_neg c]
  by_cases d : y = -1
  · rw [if_pos d, r_lnkIf0, if_neg (fun z => by omega), xbI_r, xnar_b]
    exact EX_no (fz_refl _) hP hB hw
  rw [if_neg d]
  obtain ⟨f, rfl⟩ : ∃ t : Nat, x = (t : Int) := ⟨x.toNat, by omega⟩
  obtain ⟨t, rfl⟩ : ∃ t : Nat, y = (t : Int) := ⟨y.toNat, by omega⟩
  have hf : f < nT b := by omega
  have ht : t < nT b := by omega
  rw [r_link hB hw.2.1 (by omega) (by omega), xbI_r, ite_b, Int.toNat_natCast, Int.toNat_natCast]
  by_cases q : bL b f t = true
  · rw [if_pos q, if_pos ⟨⟨⟨by omega, by omega⟩, by omega, by omega⟩, q⟩, r_lnkIf1 (by omega) (by omega), xbI_r, xnar_b]
    exact ⟨true, _, _, upI b (172 + 12 * f + t) (if false = true then 1 else 0), rfl, rfl, fr_st rfl, onEx_8 (fz_st (on280_t (by omega))), CP_upL hP hw (by omega) ht false, RB_st (v := 0) hB, wF_upL hw hf ht false (fun q => nomatch q), RN_up (by omega)⟩
  · rw [if_neg q, if_neg (fun z => q z.2), r_lnkIf0, xbI_r, xnar_b]
    exact EX_no (fz_refl _) hP hB hw
theorem ex_C {M M' : xM} {b : Nat → Int} (hP : CP M 9 b) (hB : RB M' b) (hw : wF b) {r : Nat} (hr0 : r < nR b) {v : Int} (hv : 0 ≤ v ∧ v ≤ 999) {i : Nat} (h4 : gi M 24 i 4 = zi v) (x y x' : Int32) : EX M M' (sEx 5 x y (zi r) i M) (rRs 5 x' (zi r) (zi v) M') b := by
  have hn := CP_n hP
  have hr := CP_r hP
  have hU := hw.1.2.2.2.2.2.1
  have hC := hw.1.2.2.2.2.2.2.1
  show EX M M' (xbI (m_P_changeCapacity 9 (zi r) (gi M 24 i 4) M) (fun r A => rI (xnar 1 r) A)) _ b
  unfold rRs
  rw [if_pos (rfl : (5 : Nat) = 5), h4, s_chC hP (fun t r ht hr => by have := hU t r ht hr; have := hC r hr; omega) (by omega) (by omega) (by omega) (by omega), zi_01, zi_09, r_inr (by omega) (by omega) (by decide) (by decide) (by decide) (by decide), xbI_r, ite_b, ← zi_01, xnar_0, xnar_1, Int.toNat_natCast]
  by_cases q : 1 ≤ v ∧ v ≤ 9
  · rw [decide_eq_true q, if_pos rfl, r_capOk hB hw.1 hr0 (by omega) (by omega), xbI_r, ite_b]
    by_cases q2 : mxF (fun _ => true) (fun t => bU b t r) 0 (nT b) ≤ v
    · rw [decide_eq_true q2, if_pos rfl, if_pos ⟨⟨by omega, by omega⟩, q, q2⟩, xbI_r, xnar_b, e_m_M_setCapacityOf, zi_04, zi_08, zi_07, zi_mul, zi_add, zi_add, xck_z (by omega) (by omega) (by decide), zixz (by omega) (by omega), xbV_r, show ((4 : Int) + (r : Int) * 8 + 7).toNat = 11 + 8 * r by omega]
      refine ⟨true, _, _, upI b (11 + 8 * r) v, rfl, rfl, fr_st rfl, onEx_8 (fz_st (on280_t (by omega))), CP_upC hP hw hr0 v, RB_st hB, wF_up hw ⟨by omega, by omega⟩ (by omega) (fun q => by omega) (fun s hs => by omega) (fun r hr => by omega) (fun s hs q => by omega) (fun s hs q => by omega) (fun s r2 hs hr2 q2 => by omega) (fun r2 hr2 q3 => ?_), RN_up (by omega)⟩
      have : r2 = r := by omega
      subst this
      refine ⟨q.1, q.2, fun t ht => ?_⟩
      have := mxF_g (P := fun _ => true) (g := fun t => bU b t r2) (a := 0) ht rfl
      omega
    · rw [decide_eq_false q2, if_neg (by decide : ¬ false = true), if_neg (fun z => q2 z.2.2), xbI_r, xnar_b]
      exact EX_no (fz_refl _) hP hB hw
  · rw [decide_eq_false q, if_neg (by decide : ¬ false = true), if_neg (fun z => q z.2.1), xbI_r, xnar_b]
    exact EX_no (fz_refl _) hP hB hw
theorem ex_R {M M' : xM} {b : Nat → Int} (hP : CP M 9 b) (hB : RB M' b) (hw : wF b) {v : Int} (hv : 0 ≤ v ∧ v ≤ 999) {i : Nat} (h4 : gi M 24 i 4 = zi v) (x y z x' z' : Int32) : EX M M' (sEx 6 x y z i M) (rRs 6 x' z' (zi v) M') b := by
  have hn := CP_n hP
  have hr := CP_r hP
  show EX M M' (xbI (m_P_changeRule 9 (gi M 24 i 4) M) (fun r A => rI (xnar 1 r) A)) _ b
  unfold rRs
  rw [if_neg (by decide : ¬ (6 : Nat) = 5), if_pos (rfl : (6 : Nat) = 6), h4, s_chR (by omega) (by omega), zi_03, zif (by decide) (by decide) (by omega) (by omega), xnar_0, xnar_1]
  by_cases q : 3 < v
  · rw [if_pos q, if_neg (fun z => by omega), xbI_r, xnar_b]
    exact EX_no (fz_refl _) hP hB hw
  · rw [if_neg q, if_pos (show 0 ≤ v ∧ v ≤ 3 by omega), xbI_r, xnar_b]
    exact ⟨true, _, _, upI b 0 v, rfl, rfl, fr_st rfl, onEx_8 (fz_st (on280_t (by omega))), CP_up0 hP hw v, RB_st hB, wF_up hw ⟨by omega, by omega⟩ (by omega) (fun q => by omega) (fun s hs => by omega) (fun r hr => by omega) (fun s hs q => by omega) (fun s hs q => by omega) (fun s r2 hs hr2 q2 => by omega) (fun r2 hr2 q3 => by omega), RN_up (by omega)⟩
theorem ex_T {M M' : xM} {b : Nat → Int} (hP : CP M 9 b) (hB : RB M' b) (hw : wF b) {x : Int} (hx : -1 ≤ x ∧ x < nT b) {i : Nat} (y z z' v : Int32) : EX M M' (sEx 7 (zi x) y z i M) (rRs 7 (zi x) z' v M') b := by
  have hn := CP_n hP
  have hr := CP_r hP
  show EX M M' (xbI (m_P_removeTask 9 (zi x) M) (fun r A => rI (xnar 1 r) A)) _ b
  unfold rRs
  have e2 : gi M' 28 0 2 = zi (nT b) := RB_T hB hw.1
  rw [if_neg (by decide : ¬ (7 : Nat) = 5), if_neg (by decide : ¬ (7 : Nat) = 6), zi_m1, zife (by omega) (by omega) (by decide) (by decide), e2, xnar_0, xnar_1]
  by_cases c : x = -1
  · rw [if_pos c, s_remove hP (by omega) (by omega) (by omega), xbI_r, xnar_b]
    exact EX_no (fz_refl _) hP hB hw
  rw [if_neg c, zi_01, zife (by omega) (by omega) (by decide) (by decide)]
  by_cases q : (nT b : Int) = 1
  · rw [if_pos q, s_remove hP (by omega) (by omega) (by omega), xbI_r, xnar_b]
    exact EX_no (fz_refl _) hP hB hw
  obtain ⟨t, rfl⟩ : ∃ t : Nat, x = (t : Int) := ⟨x.toNat, by omega⟩
  obtain ⟨N, e, f, g⟩ := s_removeT hP hw (show t < nT b by omega) (by omega)
  obtain ⟨N', e', f', g'⟩ := r_drop hB hw (show t < nT b by omega) (by omega)
  rw [if_neg q, e, e', xbI_r, xbI_r, xnar_b]
  exact ⟨true, _, _, dpB b t, rfl, rfl, f, onEx_8 f', g, g', wF_dp hw (by omega) (by omega), RN_dp⟩
