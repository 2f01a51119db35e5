/-! the class's half of the part 41 of the proof of whole (wip/p65/mkhalf.py) -/
def allT (b : Nat → Int) : Nat → Bool := fun t => decide (t < nT b)
def fsB (b : Nat → Int) (t : Nat) : Int := mnF (fun s => bL b t s) (esB b) (etB b) (nT b) - esB b t - bD b t
def ovB (b : Nat → Int) (r : Nat) : Nat := cnt (fun x => decide (bC b r < ldS b (allT b) (esB b) r x)) (etB b).toNat
def dwB (b : Nat → Int) (r : Nat) : Int := (wkB b r + bC b r - 1) / bC b r
def lbB (b : Nat → Int) : Int := mxF (fun _ => true) (dwB b) (etB b) (nR b)
def pkB (b : Nat → Int) (r : Nat) : Int := mxF (fun _ => true) (fun x => ldS b (allT b) (stB b) r x) 0 (mkB b).toNat
def whyB (b : Nat → Int) (t : Nat) (x : Int) : Int := if x < bE b t then 1 else if x < mxF (fun f => bL b f t) (fun f => stB b f + bD b f) 0 (nT b) then 2 else if anyN (nT b) (fun s => bL b t s && decide (stB b s < x + bD b t)) = true then 3 else if fitS b (allT b) (stB b) t x = true then 0 else 4
def brB (b : Nat → Int) : Int := sm (fun f => (cnt (fun t => bL b f t && decide (stB b t < stB b f + bD b f)) (nT b) : Nat)) (nT b)
def ouB (b : Nat → Int) : Nat := cnt (fun r => decide (bC b r < pkB b r)) (nR b)
theorem wkB_bd {b : Nat → Int} (hw : wS b) {r : Nat} (hr : r < nR b) : 0 ≤ wkB b r ∧ wkB b r ≤ 3600 := by
  have hn := (wS_n hw).2.1
  obtain ⟨_, _, _, h4, _, h6, h7, _⟩ := hw
  have hc := h7 r hr
  have h1 : 0 ≤ wkB b r := sm_nn (fun i hi => Int.mul_nonneg (h6 i r hi hr).1 (by have := h4 i hi; omega))
  have h2 : wkB b r ≤ nT b * 300 := sm_le (fun i hi => by
    have a1 := h6 i r hi hr
    have a2 := h4 i hi
    calc bU b i r * bD b i ≤ 10 * bD b i := Int.mul_le_mul_of_nonneg_right (by omega) (by omega)
      _ ≤ 300 := by omega)
  omega
theorem dwB_bd {b : Nat → Int} (hw : wS b) {r : Nat} (hr : r < nR b) : 0 ≤ dwB b r ∧ dwB b r ≤ 3610 := by
  have h1 := wkB_bd hw hr
  have h2 := hw.2.2.2.2.2.2.1 r hr
  unfold dwB
  exact ⟨Int.ediv_nonneg (by omega) (by omega), Int.le_trans (Int.ediv_le_self _ (by omega)) (by omega)⟩
theorem s_slack {M : xM} {p : Nat} {b : Nat → Int} (h : CP M p b) (hd : DT M b) {t : Nat} (ht : t < nT b) : m_D_slackOf 0 (zi t) M = rI (zi (lsB b t - esB b t)) M := by
  have hn := CP_n h
  rw [e_m_D_slackOf, xck_n (by omega) (by decide), xck_n (by omega) (by decide), zix (by omega), (hd.2 t ht).2.2.2, (hd.2 t ht).2.2.1, zi_sub]
theorem s_least {M : xM} {p : Nat} {b : Nat → Int} (h : CP M p b) (hw : wS b) (hd : DT M b) : m_D_leastMakespan 0 p M = rI (zi (lbB b)) M := by
  have hn := CP_r h
  have t1 := etB_lo b
  have t2 := etB_hi hw
  rw [e_m_D_leastMakespan, hd.1]
  refine lp (B := fun i => b_D_leastMakespan_6 p (zi (mxF (fun _ => true) (dwB b) (etB b) i)) (zi (i : Nat)) M) (n := nR b) (fun i hi => ?_) ?_ 0 (Nat.zero_le _)
  · show b_D_leastMakespan_6 p (zi (mxF _ _ (etB b) i)) (zi (i : Nat)) M = _
    have b1 : mxF (fun _ => true) (dwB b) (etB b) i ≤ 4000 := mxF_le (by omega) (fun j hj _ => by have := dwB_bd hw (show j < nR b by omega); omega)
    have b2 := mxF_a (fun _ => true) (dwB b) (etB b) i
    have b3 := dwB_bd hw hi
    have e : m_P_daysOfWork p (zi i) M = rI (zi (dwB b i)) M := s_daysOfWork h hi hw
    rw [e_b_D_leastMakespan_6, CP_R h, if_pos (zi_ltn hi (by omega)), e, xbI_r, s_max _ _ (by omega) (by omega) (by omega) (by omega), xret_I, xbI_r, zi_suc]
    rfl
  · show b_D_leastMakespan_6 p (zi (mxF _ _ (etB b) _)) (zi (nR b : Nat)) M = _
    rw [e_b_D_leastMakespan_6, CP_R h, if_neg (zi_irr _)]
    rfl
theorem s_usage {M : xM} {p : Nat} {b : Nat → Int} (h : CP M p b) (hw : wS b) (hs : SD M b) {r : Nat} (hr : r < nR b) {x : Int} (h3 : -1000000 ≤ x) (h4 : x < 1000000) : m_S_usageOn 0 p (zi r) (zi x) M = rI (zi (ldS b (allT b) (stB b) r x)) M := by
  have e : m_P_loadOn p 16 0 (mk (allT b)) (zi r) (zi x) M = rI (zi (ldS b (allT b) (stB b) r x)) M := s_loadOn h rfl rfl (fun i hi _ => by
    have := (SD_PL hs hw).2 i hi (decide_eq_true hi)
    exact ⟨this.1, by omega, by omega⟩) (fun x hx => by have := hw.2.2.2.1 x hx; omega) hr h3 h4
  have e2 : gi M 15 0 2 = mk (allT b) := hs.2.1
  rw [e_m_S_usageOn, e2, e, xbI_r]
theorem s_peak {M : xM} {p : Nat} {b : Nat → Int} (h : CP M p b) (hw : wS b) (hs : SD M b) {r : Nat} (hr : r < nR b) : m_S_peakOf 0 p (zi r) M = rI (zi (pkB b r)) M := by
  have t := mkB_ok hw
  have tn : ((mkB b).toNat : Int) = mkB b := by omega
  rw [e_m_S_peakOf]
  refine lp (B := fun i => b_S_peakOf_5 0 p (zi r) (zi (mxF (fun _ => true) (fun x => ldS b (allT b) (stB b) r x) 0 i)) (zi (i : Nat)) M) (n := (mkB b).toNat) (fun i hi => ?_) ?_ 0 (Nat.zero_le _)
  · show b_S_peakOf_5 0 p (zi r) (zi (mxF _ _ 0 i)) (zi (i : Nat)) M = _
    have b1 : mxF (fun _ => true) (fun x => ldS b (allT b) (stB b) r x) 0 i ≤ 200 := mxF_le (by decide) (fun j hj _ => (ldS_bd h hw hr (allT b) j).2)
    have b2 := mxF_a (fun _ => true) (fun x => ldS b (allT b) (stB b) r x) 0 i
    have b3 := ldS_bd h hw hr (s := stB b) (allT b) i
    rw [e_b_S_peakOf_5, hs.2.2.2, if_pos (zi_ltz (by omega) (by omega) (by omega)), s_usage h hw hs hr (by omega) (by omega), xbI_r, s_max _ _ (by omega) (by omega) (by omega) (by omega), xret_I, xbI_r, zi_suc]
    rfl
  · show b_S_peakOf_5 0 p (zi r) (zi (mxF _ _ 0 _)) (zi ((mkB b).toNat : Nat)) M = _
    rw [e_b_S_peakOf_5, hs.2.2.2, tn, if_neg (zi_irr _)]
    rfl
theorem pkB_bd {M : xM} {p : Nat} {b : Nat → Int} (h : CP M p b) (hw : wS b) {r : Nat} (hr : r < nR b) : 0 ≤ pkB b r ∧ pkB b r ≤ 200 := ⟨mxF_a _ _ _ _, mxF_le (by decide) (fun j hj _ => (ldS_bd h hw hr (allT b) j).2)⟩
theorem s_overu {M : xM} {p : Nat} {b : Nat → Int} (h : CP M p b) (hw : wS b) (hs : SD M b) : m_S_countOverusedResources 0 p M = rI (zi (ouB b : Nat)) M := by
  have hn := CP_r h
  rw [e_m_S_countOverusedResources]
  refine lp (B := fun i => b_S_countOverusedResources_5 0 p (zi (cnt (fun r => decide (bC b r < pkB b r)) i : Nat)) (zi (i : Nat)) M) (n := nR b) (fun i hi => ?_) ?_ 0 (Nat.zero_le _)
  · show b_S_countOverusedResources_5 0 p (zi (cnt _ i : Nat)) (zi (i : Nat)) M = b_S_countOverusedResources_5 0 p (zi ((cnt (fun r => decide (bC b r < pkB b r)) i + (if decide (bC b i < pkB b i) then 1 else 0) : Nat))) (zi ((i + 1 : Nat) : Int)) M
    have h7 := hw.2.2.2.2.2.2.1 i hi
    have h8 := pkB_bd h hw hi
    rw [e_b_S_countOverusedResources_5, CP_R h, if_pos (zi_ltn hi (by omega)), s_peak h hw hs hi, xbI_r, xck_n (by omega) (by decide), zix (by omega), CP_C h hi, zif (by omega) (by omega) (by omega) (by omega), zi_suc, zi_suc]
    by_cases c : bC b i < pkB b i
    · rw [if_pos c, decide_eq_true c]; rfl
    · rw [if_neg c, decide_eq_false c]; rfl
  · show b_S_countOverusedResources_5 0 p (zi (cnt _ _ : Nat)) (zi (nR b : Nat)) M = _
    rw [e_b_S_countOverusedResources_5, CP_R h, if_neg (zi_irr _)]
    rfl
theorem s_broken {M : xM} {p : Nat} {b : Nat → Int} (h : CP M p b) (hw : wS b) (hs : SD M b) : m_S_countBrokenLinks 0 p M = rI (zi (brB b)) M := by
  have hn := CP_n h
  have sb : ∀ t, t < nT b → 0 ≤ stB b t ∧ stB b t ≤ 500 := fun t ht => ((SD_PL hs hw).2 t ht (decide_eq_true ht)).2
  rw [e_m_S_countBrokenLinks]
  refine lp (B := fun i => b_S_countBrokenLinks_5 0 p (zi (sm (fun f => (cnt (fun t => bL b f t && decide (stB b t < stB b f + bD b f)) (nT b) : Nat)) i)) (zi (i : Nat)) M) (n := nT b) (fun i hi => ?_) ?_ 0 (Nat.zero_le _)
  · show b_S_countBrokenLinks_5 0 p (zi (sm _ i)) (zi (i : Nat)) M = b_S_countBrokenLinks_5 0 p (zi (sm _ i + (cnt (fun t => bL b i t && decide (stB b t < stB b i + bD b i)) (nT b) : Nat))) (zi ((i + 1 : Nat) : Int)) M
    have h3 := hw.2.2.2.1 i hi
    have h4 := sb i hi
    rw [e_b_S_countBrokenLinks_5, CP_T h, if_pos (zi_ltn hi (by omega))]
    generalize sm (fun f => (cnt (fun t => bL b f t && decide (stB b t < stB b f + bD b f)) (nT b) : Nat)) i = a
    have := lp (B := fun j => b_S_countBrokenLinks_12 0 p (zi (a + (cnt (fun t => bL b i t && decide (stB b t < stB b i + bD b i)) j : Nat))) (zi (i : Nat)) (zi (j : Nat)) M) (n := nT b) (R := b_S_countBrokenLinks_5 0 p (zi (a + (cnt (fun t => bL b i t && decide (stB b t < stB b i + bD b i)) (nT b) : Nat))) (zi ((i + 1 : Nat) : Int)) M) (fun j hj => ?_) ?_ 0 (Nat.zero_le _)
    · have e0 : a + ((cnt (fun t => bL b i t && decide (stB b t < stB b i + bD b i)) 0 : Nat) : Int) = a := by show a + 0 = a; omega
      have this : b_S_countBrokenLinks_12 0 p (zi (a + ((cnt (fun t => bL b i t && decide (stB b t < stB b i + bD b i)) 0 : Nat) : Int))) (zi (i : Nat)) (zi ((0 : Nat) : Int)) M = _ := this
      rw [e0] at this
      exact this
    · show b_S_countBrokenLinks_12 0 p (zi (a + (cnt _ j : Nat))) (zi (i : Nat)) (zi (j : Nat)) M = b_S_countBrokenLinks_12 0 p (zi (a + ((cnt (fun t => bL b i t && decide (stB b t < stB b i + bD b i)) j + (if bL b i j && decide (stB b j < stB b i + bD b i) then 1 else 0) : Nat) : Int))) (zi (i : Nat)) (zi ((j + 1 : Nat) : Int)) M
      have h5 := sb j hj
      rw [e_b_S_countBrokenLinks_12, CP_T h, if_pos (zi_ltn hj (by omega)), s_isLinked h (by omega) hj, xbI_r, ite_b, xck_n (by omega) (by decide), xck_n (by omega) (by decide), xck_n (by omega) (by decide), zix (by omega), zix (by omega), hs.2.2.1 j hj, hs.2.2.1 i hi, CP_D h hi, zi_add, zif (by omega) (by omega) (by omega) (by omega), zi_suc]
      cases hb : bL b i j with
      | false => rfl
      | true =>
        rw [if_pos rfl]
        by_cases c : stB b j < stB b i + bD b i
        · rw [if_pos c, decide_eq_true c, zi_01, zi_add, Bool.and_self, if_pos rfl]
          have e9 : ∀ q : Nat, a + (q : Int) + 1 = a + ((q + 1 : Nat) : Int) := fun q => by omega
          rw [e9]
        · rw [if_neg c, decide_eq_false c]; rfl
    · show b_S_countBrokenLinks_12 0 p (zi (a + (cnt _ _ : Nat))) (zi (i : Nat)) (zi (nT b : Nat)) M = _
      rw [e_b_S_countBrokenLinks_12, CP_T h, if_neg (zi_irr _), zi_suc]
  · show b_S_countBrokenLinks_5 0 p (zi (sm _ _)) (zi (nT b : Nat)) M = _
    rw [e_b_S_countBrokenLinks_5, CP_T h, if_neg (zi_irr _)]
    rfl
