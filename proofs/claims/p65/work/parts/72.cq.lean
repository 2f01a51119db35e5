/-! what the class answers, plan by plan -/
/-- the class between two calls: its plan is b -/
def CI (M : xM) (b : Nat → Int) : Prop := wF b ∧ CP M 9 b ∧ xgood (xsl 0) M = true ∧ ∃ c w : Nat, c ≤ 6 ∧ w < 6 ∧ gi M 17 0 2 = zi c ∧ gi M 17 0 1 = zi w
theorem Yc_no {k o : Nat} (h : o ≠ 0 ∨ k < 2 ∨ 16 < k) : onYc k o = false := by
  cases e : onYc k o with
  | false => rfl
  | true => have := onYc_i e; omega
theorem good_fr {K : Nat → Nat → Bool} {M M' : xM} (L : List (Nat × Nat)) (f : fr K M M') (hK : ∀ k o, 100 ≤ k → K k o = false) (h : xgood L M = true) : xgood L M' = true := by
  rw [xgood_eq L (fun k => fr_gn f (hK 101 k (by omega)) 0) (fun k o s q => fr_gn f (hK k o (by omega)) s)]
  exact h
theorem CI_Yc {M M' : xM} {b : Nat → Int} (h : CI M b) (f : fr onYc M M') : CI M' b := by
  obtain ⟨h1, h2, h3, c, w, h4, h5, h6, h7⟩ := h
  exact ⟨h1, CP_Yc h2 f, good_fr _ f (fun k o q => Yc_no (by omega)) h3, c, w, h4, h5, (fr_gi f (Yc_no (by omega)) 2).trans h6, (fr_gi f (Yc_no (by omega)) 1).trans h7⟩
theorem CI_n {M : xM} {b : Nat → Int} (h : CI M b) : 1 ≤ nT b ∧ nT b ≤ 12 := ⟨(wS_n h.1.1).1, (wS_n h.1.1).2.1⟩
/-- a call's guard -/
theorem gdc {M : xM} {b : Nat → Int} (h : CI M b) {as : List xV} (ha : xain (xsl 0) as = true) (k : xR) : xgd (xgood (xsl 0) M && xain (xsl 0) as) k = k := xgd_t (by rw [h.2.2.1, ha]; rfl) k
theorem gd4 {M : xM} {as : List xV} (h : xain (xsl 4) as = true) (k : xR) : xgd (xgood (xsl 4) M && xain (xsl 4) as) k = k := xgd_t (by rw [h]; rfl) k
theorem c_req {M : xM} {b : Nat → Int} (h : CI M b) {t : Nat} (ht : t < nT b) : m_C_requireTask 0 (zi (t : Nat)) M = rV M := by
  have := (CI_n h).2
  rw [s_reqT h.2.1 (by omega) (by omega), if_pos ⟨by omega, by omega⟩]
theorem c_reqR {M : xM} {b : Nat → Int} (h : CI M b) {r : Nat} (hr : r < nR b) : m_C_requireResource 0 (zi (r : Nat)) M = rV M := by
  have := CP_r h.2.1
  rw [s_reqR h.2.1 (by omega) (by omega), if_pos ⟨by omega, by omega⟩]
theorem c_tc {M : xM} {b : Nat → Int} (h : CI M b) : m_C_taskCount 0 M = rI (zi (nT b)) M := by rw [e_m_C_taskCount, CP_T h.2.1]
theorem c_rc {M : xM} {b : Nat → Int} (h : CI M b) : m_C_resourceCount 0 M = rI (zi (nR b)) M := by rw [e_m_C_resourceCount, CP_R h.2.1]
theorem c_rule {M : xM} {b : Nat → Int} (h : CI M b) : m_C_rule 0 M = rI (zi (b 0)) M := by rw [e_m_C_rule, CP_0 h.2.1]
theorem c_dur {M : xM} {b : Nat → Int} (h : CI M b) {t : Nat} (ht : t < nT b) : m_C_duration 0 (zi (t : Nat)) M = rI (zi (bD b t)) M := by
  have := (CI_n h).2
  rw [e_m_C_duration, c_req h ht, xbV_r, xck_n (by omega) (by decide), zix (by omega), CP_D h.2.1 ht]
theorem c_rel {M : xM} {b : Nat → Int} (h : CI M b) {t : Nat} (ht : t < nT b) : m_C_release 0 (zi (t : Nat)) M = rI (zi (bE b t)) M := by
  have := (CI_n h).2
  rw [e_m_C_release, c_req h ht, xbV_r, xck_n (by omega) (by decide), zix (by omega), CP_E h.2.1 ht]
theorem c_cap {M : xM} {b : Nat → Int} (h : CI M b) {r : Nat} (hr : r < nR b) : m_C_capacity 0 (zi (r : Nat)) M = rI (zi (bC b r)) M := by
  have := CP_r h.2.1
  rw [e_m_C_capacity, c_reqR h hr, xbV_r, xck_n (by omega) (by decide), zix (by omega), CP_C h.2.1 hr]
theorem c_dem {M : xM} {b : Nat → Int} (h : CI M b) {t r : Nat} (ht : t < nT b) (hr : r < nR b) : m_C_demand 0 (zi (t : Nat)) (zi (r : Nat)) M = rI (zi (bU b t r)) M := by
  rw [e_m_C_demand, c_req h ht, xbV_r, c_reqR h hr, xbV_r, s_demandOf h.2.1 ht hr, xbI_r]
theorem c_link {M : xM} {b : Nat → Int} (h : CI M b) {f t : Nat} (hf : f < nT b) (ht : t < nT b) : m_C_hasLink 0 (zi (f : Nat)) (zi (t : Nat)) M = rI (bz (bL b f t)) M := by
  have := (CI_n h).2
  rw [e_m_C_hasLink, c_req h hf, xbV_r, c_req h ht, xbV_r, s_isLinked h.2.1 (by omega) ht, xbI_r, xnar_b]
theorem c_cyc {M : xM} {b : Nat → Int} (h : CI M b) {f t : Nat} (hf : f < nT b) (ht : t < nT b) : m_C_closedCycleLength 0 (zi (f : Nat)) (zi (t : Nat)) M = rI (zi (if dF (nT b) (bL b) t (nT b) f = -1 then -1 else dF (nT b) (bL b) t (nT b) f + 1)) M := by
  rw [e_m_C_closedCycleLength, c_req h hf, xbV_r, c_req h ht, xbV_r, s_cycle h.2.1 hf ht h.1.1.2.2.2.2.2.2.2, xbI_r]
theorem c_D {M : xM} {b : Nat → Int} (h : CI M b) : ∃ M1, m_C_currentDates 0 M = some (.inl (some (10, .ref 0)), M1) ∧ fr onYc M M1 ∧ DT M1 b ∧ CP M1 9 b := by
  obtain ⟨M1, e1, f1, d1⟩ := s_dates h.2.1 h.1.1 h.1.2.1
  exact ⟨M1, by rw [e_m_C_currentDates, e1, xbV_r], Yc_D f1, d1, CP_Yc h.2.1 (Yc_D f1)⟩
theorem c_S {M : xM} {b : Nat → Int} (h : CI M b) : ∃ M1, m_C_currentSchedule 0 M = some (.inl (some (15, .ref 0)), M1) ∧ fr onYc M M1 ∧ SD M1 b ∧ CP M1 9 b := by
  obtain ⟨M1, e1, f1, d1⟩ := s_build h.2.1 h.1.1 h.1.2.1
  exact ⟨M1, by rw [e_m_C_currentSchedule, e1, xbV_r], Yc_S f1, d1, CP_Yc h.2.1 (Yc_S f1)⟩
theorem c_es {M : xM} {b : Nat → Int} (h : CI M b) {t : Nat} (ht : t < nT b) : ∃ M1, m_C_earliestStart 0 (zi (t : Nat)) M = rI (zi (esB b t)) M1 ∧ fr onYc M M1 := by
  have := (CI_n h).2
  obtain ⟨M1, e1, f1, d1, c1⟩ := c_D h
  exact ⟨M1, by rw [e_m_C_earliestStart, c_req h ht, xbV_r, e1, xbR_r, xck_n (by omega) (by decide), zix (by omega), (d1.2 t ht).2.2.1], f1⟩
theorem c_ls {M : xM} {b : Nat → Int} (h : CI M b) {t : Nat} (ht : t < nT b) : ∃ M1, m_C_latestStart 0 (zi (t : Nat)) M = rI (zi (lsB b t)) M1 ∧ fr onYc M M1 := by
  have := (CI_n h).2
  obtain ⟨M1, e1, f1, d1, c1⟩ := c_D h
  exact ⟨M1, by rw [e_m_C_latestStart, c_req h ht, xbV_r, e1, xbR_r, xck_n (by omega) (by decide), zix (by omega), (d1.2 t ht).2.2.2], f1⟩
theorem c_slack {M : xM} {b : Nat → Int} (h : CI M b) {t : Nat} (ht : t < nT b) : ∃ M1, m_C_slack 0 (zi (t : Nat)) M = rI (zi (lsB b t - esB b t)) M1 ∧ fr onYc M M1 := by
  obtain ⟨M1, e1, f1, d1, c1⟩ := c_D h
  exact ⟨M1, by rw [e_m_C_slack, c_req h ht, xbV_r, e1, xbR_r, s_slack c1 d1 ht, xbI_r], f1⟩
theorem c_len {M : xM} {b : Nat → Int} (h : CI M b) : ∃ M1, m_C_projectLength 0 M = rI (zi (etB b)) M1 ∧ fr onYc M M1 := by
  obtain ⟨M1, e1, f1, d1, c1⟩ := c_D h
  exact ⟨M1, by rw [e_m_C_projectLength, e1, xbR_r, d1.1], f1⟩
theorem c_lb {M : xM} {b : Nat → Int} (h : CI M b) : ∃ M1, m_C_lowerBound 0 M = rI (zi (lbB b)) M1 ∧ fr onYc M M1 := by
  obtain ⟨M1, e1, f1, d1, c1⟩ := c_D h
  exact ⟨M1, by rw [e_m_C_lowerBound, e1, xbR_r, s_least c1 h.1.1 d1, xbI_r], f1⟩
theorem c_st {M : xM} {b : Nat → Int} (h : CI M b) {t : Nat} (ht : t < nT b) : ∃ M1, m_C_startDay 0 (zi (t : Nat)) M = rI (zi (stB b t)) M1 ∧ fr onYc M M1 := by
  have := (CI_n h).2
  obtain ⟨M1, e1, f1, d1, c1⟩ := c_S h
  exact ⟨M1, by rw [e_m_C_startDay, c_req h ht, xbV_r, e1, xbR_r, xck_n (by omega) (by decide), zix (by omega), d1.2.2.1 t ht], f1⟩
theorem c_fin {M : xM} {b : Nat → Int} (h : CI M b) {t : Nat} (ht : t < nT b) : ∃ M1, m_C_finishDay 0 (zi (t : Nat)) M = rI (zi (stB b t + bD b t)) M1 ∧ fr onYc M M1 := by
  have := (CI_n h).2
  obtain ⟨M1, e1, f1, d1, c1⟩ := c_S h
  exact ⟨M1, by rw [e_m_C_finishDay, c_req h ht, xbV_r, e1, xbR_r, xck_n (by omega) (by decide), xck_n (by omega) (by decide), zix (by omega), d1.2.2.1 t ht, CP_D c1 ht, zi_add], f1⟩
theorem c_del {M : xM} {b : Nat → Int} (h : CI M b) {t : Nat} (ht : t < nT b) : ∃ M1, m_C_delay 0 (zi (t : Nat)) M = rI (zi (stB b t - esB b t)) M1 ∧ fr onYc M M1 := by
  have := (CI_n h).2
  obtain ⟨M1, e1, f1, d1, c1⟩ := c_S h
  exact ⟨M1, by rw [e_m_C_delay, c_req h ht, xbV_r, e1, xbR_r, xck_n (by omega) (by decide), xck_n (by omega) (by decide), zix (by omega), d1.2.2.1 t ht, (d1.1.2 t ht).2.2.1, zi_sub], f1⟩
theorem c_mk {M : xM} {b : Nat → Int} (h : CI M b) : ∃ M1, m_C_makespan 0 M = rI (zi (mkB b)) M1 ∧ fr onYc M M1 := by
  obtain ⟨M1, e1, f1, d1, c1⟩ := c_S h
  exact ⟨M1, by rw [e_m_C_makespan, e1, xbR_r, d1.2.2.2], f1⟩
theorem c_use {M : xM} {b : Nat → Int} (h : CI M b) {r : Nat} (hr : r < nR b) {x : Int} (h1 : 0 ≤ x) (h2 : x ≤ 999) : ∃ M1, m_C_usage 0 (zi (r : Nat)) (zi x) M = rI (zi (ldS b (allT b) (stB b) r x)) M1 ∧ fr onYc M M1 := by
  obtain ⟨M1, e1, f1, d1, c1⟩ := c_S h
  have e2 : m_C_requireDay (zi x) M = rV M := by rw [e_m_C_requireDay, zi_00, zi_999, zif (by omega) (by omega) (by decide) (by decide), zif (by decide) (by decide) (by omega) (by omega), if_neg (by omega), if_neg (by omega)]
  exact ⟨M1, by rw [e_m_C_usage, c_reqR h hr, xbV_r, e2, xbV_r, e1, xbR_r, s_usage c1 h.1.1 d1 hr (by omega) (by omega), xbI_r], f1⟩
theorem c_peak {M : xM} {b : Nat → Int} (h : CI M b) {r : Nat} (hr : r < nR b) : ∃ M1, m_C_peakUsage 0 (zi (r : Nat)) M = rI (zi (pkB b r)) M1 ∧ fr onYc M M1 := by
  obtain ⟨M1, e1, f1, d1, c1⟩ := c_S h
  exact ⟨M1, by rw [e_m_C_peakUsage, c_reqR h hr, xbV_r, e1, xbR_r, s_peak c1 h.1.1 d1 hr, xbI_r], f1⟩
theorem c_inc {M : xM} {b : Nat → Int} (h : CI M b) : ∃ M1, m_C_inconsistencies 0 M = (if zi (mkB b) < zi (lbB b) then rI (zi (brB b) + zi (ouB b : Nat) + 1) M1 else rI (zi (brB b) + zi (ouB b : Nat)) M1) ∧ fr onYc M M1 := by
  obtain ⟨M1, e1, f1, d1, c1⟩ := c_S h
  exact ⟨M1, by rw [e_m_C_inconsistencies, e1, xbR_r, s_broken c1 h.1.1 d1, xbI_r, s_overu c1 h.1.1 d1, xbI_r, s_least c1 h.1.1 d1.1, xbI_r, d1.2.2.2], f1⟩
theorem c_mw {M : xM} {b : Nat → Int} (h : CI M b) {k : Int} (h1 : 0 ≤ k) (h2 : k ≤ 3) : ∃ M1, m_C_makespanWith 0 (zi k) M = rI (zi (mkB (upI b 0 k))) M1 ∧ fr onYc M M1 := by
  obtain ⟨M1, e1, f1, c1⟩ := s_lenRule h.2.1 h.1 (k := k) (by omega)
  have e2 : m_C_requireRule (zi k) M = rV M := by rw [e_m_C_requireRule, zi_00, zi_03, zif (by omega) (by omega) (by decide) (by decide), zif (by decide) (by decide) (by omega) (by omega), if_neg (by omega), if_neg (by omega)]
  exact ⟨M1, by rw [e_m_C_makespanWith, e2, xbV_r, e1, xbI_r], f1⟩
