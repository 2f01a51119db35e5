/-! what the class's changes do -/
def onG (k _ : Nat) : Bool := Nat.ble 2 k && Nat.ble k 17
theorem G_no {k o : Nat} (h : k < 2 ∨ 17 < k) : onG k o = false := by
  unfold onG
  cases h1 : Nat.ble 2 k with
  | false => rfl
  | true =>
    cases h2 : Nat.ble k 17 with
    | false => rfl
    | true =>
      have := Nat.le_of_ble_eq_true h1
      have := Nat.le_of_ble_eq_true h2
      omega
theorem G_t {k o : Nat} (h1 : 2 ≤ k) (h2 : k ≤ 17) : onG k o = true := by
  unfold onG
  rw [Nat.ble_eq_true_of_le h1, Nat.ble_eq_true_of_le h2]
  rfl
theorem G_Yc {M M' : xM} (f : fr onYc M M') : fr onG M M' := fr_mono (fun k o h => by
  have := onYc_i h
  exact G_t (by omega) (by omega)) f
theorem G_P {p : Nat} {M M' : xM} (f : fr (onP p) M M') : fr onG M M' := fr_mono (fun k o h => by
  unfold onP at h
  obtain ⟨h1, _⟩ := Bool.and_eq_true_iff.mp h
  obtain ⟨h2, h3⟩ := Bool.and_eq_true_iff.mp h1
  have h2 := Nat.le_of_ble_eq_true h2
  have h3 := Nat.le_of_ble_eq_true h3
  exact G_t h2 (by omega)) f
theorem G_CH {M A : xM} (h : CH M A) : fr onG M A := by
  obtain ⟨c, w, _, hw, _, _, _, _, f, _⟩ := h
  intro k o s q
  refine f k o s (onCH_f (fun e => ?_) ?_)
  · subst e
    rw [G_t (by decide) (by decide)] at q
    cases q
  · by_cases e : 2 ≤ k ∧ k ≤ 9
    · rw [G_t e.1 (by omega)] at q
      cases q
    · omega
theorem c_rem {M : xM} {b : Nat → Int} (h : CI M b) : ∃ A, m_H_remember 0 9 M = rV A ∧ CH M A ∧ CP A 9 b := by
  obtain ⟨h1, h2, h3, c, w, h4, h5, h6, h7⟩ := h
  obtain ⟨A, e, f⟩ := s_remember h4 h5 h6 h7
  exact ⟨A, e, f, CH_CP f h2⟩
theorem c_chg {M A A2 : xM} {b b' : Nat → Int} (h : CI M b) (hA : CH M A) (f2 : fr (onP 9) A A2) (hP : CP A2 9 b') (hw : wF b') : CI A2 b' ∧ fr onG M A2 := by
  have g : fr onG M A2 := fr_trans (G_CH hA) (G_P f2)
  refine ⟨⟨hw, hP, good_fr _ g (fun k o q => G_no (by omega)) h.2.2.1, ?_⟩, g⟩
  obtain ⟨c, w, h4, h5, _, _, h6, h7, _⟩ := hA
  have k17 : ∀ s, gi A2 17 0 s = gi A 17 0 s := fun s => fr_gi f2 (by unfold onP; rfl) s
  refine ⟨if c = 6 then 6 else c + 1, (w + 1) % 6, ?_, Nat.mod_lt _ (by decide), (k17 2).trans h6, (k17 1).trans h7⟩
  split <;> omega
theorem c_setD {M : xM} {b : Nat → Int} (h : CI M b) {t : Nat} (ht : t < nT b) {d : Int} (hd : 1 ≤ d ∧ d ≤ 30) : ∃ M1 v, m_C_setDuration 0 (zi (t : Nat)) (zi d) M = rI v M1 ∧ CI M1 (upI b (35 + 12 * t) d) ∧ fr onG M M1 := by
  have hn := CI_n h
  have hr := CP_r h.2.1
  obtain ⟨A, ea, hA, cA⟩ := c_rem h
  obtain ⟨i, g⟩ := c_chg h hA (A2 := xst A 6 9 t (.int (zi d))) (fr_st rfl) (CP_upD cA h.1 ht d) (wF_dur h.1 hr ht hd)
  refine ⟨_, gi A 6 9 (ix (zi (t : Nat))), ?_, i, g⟩
  rw [e_m_C_setDuration, c_req h ht, xbV_r, s_reqDur (by omega) (by omega), if_pos hd, xbV_r, ea, xbV_r, xck_n (by omega) (by decide), s_chD cA (by omega) (by omega) (by omega) (by omega), if_pos ⟨⟨by omega, by omega⟩, hd⟩, xbI_r, Int.toNat_natCast]
theorem c_setE {M : xM} {b : Nat → Int} (h : CI M b) {t : Nat} (ht : t < nT b) {d : Int} (hd : 0 ≤ d ∧ d ≤ 99) : ∃ M1 v, m_C_setRelease 0 (zi (t : Nat)) (zi d) M = rI v M1 ∧ CI M1 (upI b (36 + 12 * t) d) ∧ fr onG M M1 := by
  have hn := CI_n h
  have hr := CP_r h.2.1
  obtain ⟨A, ea, hA, cA⟩ := c_rem h
  obtain ⟨i, g⟩ := c_chg h hA (A2 := xst A 7 9 t (.int (zi d))) (fr_st rfl) (CP_upE cA h.1 ht d) (wF_rel h.1 hr ht hd)
  refine ⟨_, gi A 7 9 (ix (zi (t : Nat))), ?_, i, g⟩
  rw [e_m_C_setRelease, c_req h ht, xbV_r, zi_00, zi_99, zif (by omega) (by omega) (by decide) (by decide), if_neg (by omega), zif (by decide) (by decide) (by omega) (by omega), if_neg (by omega), ea, xbV_r, xck_n (by omega) (by decide), s_chE cA (by omega) (by omega) (by omega) (by omega), if_pos ⟨⟨by omega, by omega⟩, hd⟩, xbI_r, Int.toNat_natCast]
theorem c_setU {M : xM} {b : Nat → Int} (h : CI M b) {t r : Nat} (ht : t < nT b) (hr0 : r < nR b) {d : Int} (hd : 0 ≤ d ∧ d ≤ bC b r) : ∃ M1 v, m_C_setDemand 0 (zi (t : Nat)) (zi (r : Nat)) (zi d) M = rI v M1 ∧ CI M1 (upI b (37 + 12 * t + r) d) ∧ fr onG M M1 := by
  have hn := CI_n h
  have hr := CP_r h.2.1
  have hc := h.1.1.2.2.2.2.2.2.1 r hr0
  obtain ⟨A, ea, hA, cA⟩ := c_rem h
  obtain ⟨i, g⟩ := c_chg h hA (A2 := xst A 9 9 (3 * t + r) (.int (zi d))) (fr_st rfl) (CP_upU cA h.1 ht hr0 d) (wF_dem h.1 hr ht hr0 hd)
  refine ⟨_, zi (bU b t r), ?_, i, g⟩
  rw [e_m_C_setDemand, c_req h ht, xbV_r, c_reqR h hr0, xbV_r, zi_00, zif (by omega) (by omega) (by decide) (by decide), if_neg (by omega), xck_n (by omega) (by decide), zix (by omega), CP_C h.2.1 hr0, zif (by omega) (by omega) (by omega) (by omega), if_neg (by omega), ea, xbV_r, s_demandOf cA ht hr0, xbI_r, s_chU cA (fun q hq => by have := h.1.1.2.2.2.2.2.2.1 q hq; omega) (by omega) (by omega) (by omega) (by omega) (by omega) (by omega), Int.toNat_natCast, Int.toNat_natCast, if_pos ⟨⟨⟨by omega, by omega⟩, by omega, by omega⟩, hd⟩, xbI_r]
theorem c_setC {M : xM} {b : Nat → Int} (h : CI M b) {r : Nat} (hr0 : r < nR b) {d : Int} (hd : 1 ≤ d ∧ d ≤ 9) (hu : ∀ t, t < nT b → bU b t r ≤ d) : ∃ M1 v, m_C_setCapacity 0 (zi (r : Nat)) (zi d) M = rI v M1 ∧ CI M1 (upI b (11 + 8 * r) d) ∧ fr onG M M1 := by
  have hn := CI_n h
  have hr := CP_r h.2.1
  have hU : ∀ t q, t < nT b → q < nR b → 0 ≤ bU b t q ∧ bU b t q < 1000 := fun t q ht hq => by
    have := h.1.1.2.2.2.2.2.1 t q ht hq
    have := h.1.1.2.2.2.2.2.2.1 q hq
    omega
  have hm : mxF (fun _ => true) (fun t => bU b t r) 0 (nT b) ≤ d := mxF_le (by omega) (fun i hi _ => hu i hi)
  have hm0 : 0 ≤ mxF (fun _ => true) (fun t => bU b t r) 0 (nT b) := mxF_a _ _ _ _
  obtain ⟨A, ea, hA, cA⟩ := c_rem h
  have hw2 : wF (upI b (11 + 8 * r) d) := wF_up h.1 ⟨by omega, by omega⟩ (by omega) (fun q => by omega) (fun s hs => by omega) (fun q hq => by omega) (fun s hs q => by omega) (fun s hs q => by omega) (fun s q hs hq e => by omega) (fun q hq e => by
    have : q = r := by omega
    subst this
    exact ⟨hd.1, hd.2, hu⟩)
  obtain ⟨i, g⟩ := c_chg h hA (A2 := xst A 4 9 r (.int (zi d))) (fr_st rfl) (CP_upC cA h.1 hr0 d) hw2
  refine ⟨_, gi A 4 9 (ix (zi (r : Nat))), ?_, i, g⟩
  rw [e_m_C_setCapacity, c_reqR h hr0, xbV_r, zi_01, zi_09, zif (by omega) (by omega) (by decide) (by decide), if_neg (by omega), zif (by decide) (by decide) (by omega) (by omega), if_neg (by omega), s_greatest h.2.1 hr0 (fun t ht => hU t r ht hr0), xbI_r, zif (by omega) (by omega) (by omega) (by omega), if_neg (by omega), ea, xbV_r, xck_n (by omega) (by decide), s_chC cA hU (by omega) (by omega) (by omega) (by omega), Int.toNat_natCast, if_pos ⟨⟨by omega, by omega⟩, hd, hm⟩, xbI_r]
theorem c_set0 {M : xM} {b : Nat → Int} (h : CI M b) {d : Int} (hd : 0 ≤ d ∧ d ≤ 3) : ∃ M1 v, m_C_setRule 0 (zi d) M = rI v M1 ∧ CI M1 (upI b 0 d) ∧ fr onG M M1 := by
  have hr := CP_r h.2.1
  obtain ⟨A, ea, hA, cA⟩ := c_rem h
  obtain ⟨i, g⟩ := c_chg h hA (A2 := xst A 2 9 0 (.int (zi d))) (fr_st rfl) (CP_up0 cA h.1 d) (wF_rule h.1 hr hd)
  have e2 : m_C_requireRule (zi d) M = rV M := by rw [e_m_C_requireRule, zi_00, zi_03, zif (by omega) (by omega) (by decide) (by decide), zif (by decide) (by decide) (by omega) (by omega), if_neg (by omega), if_neg (by omega)]
  refine ⟨_, gi A 2 9 0, ?_, i, g⟩
  rw [e_m_C_setRule, e2, xbV_r, ea, xbV_r, s_chR (by omega) (by omega), if_pos hd, xbI_r]
theorem c_add {M : xM} {b : Nat → Int} (h : CI M b) {f t : Nat} (hf : f < nT b) (ht : t < nT b) (h1 : bL b f t = false) (h2 : dF (nT b) (bL b) t (nT b) f = -1) : ∃ M1 v, m_C_addLink 0 (zi (f : Nat)) (zi (t : Nat)) M = rI v M1 ∧ CI M1 (upI b (172 + 12 * f + t) 1) ∧ fr onG M M1 := by
  have hn := CI_n h
  have ha := h.1.1.2.2.2.2.2.2.2
  have d : (!bL b f t && decide (dF (nT b) (bL b) t (nT b) f = -1)) = true := by rw [h1, h2]; rfl
  obtain ⟨A, ea, hA, cA⟩ := c_rem h
  have c2 := CP_upL cA h.1 (f := f) (by omega) ht true
  obtain ⟨i, g⟩ := c_chg h hA (A2 := xst A 8 9 t (.int (mk (fun g => if g = f then true else bL b g t)))) (fr_st rfl) c2 (wF_upL h.1 hf ht true (fun _ => h2))
  refine ⟨_, zi (sm (fun s => (cnt (fun g => bL (upI b (172 + 12 * f + t) (if true = true then 1 else 0)) g s) 12 : Nat)) (nT (upI b (172 + 12 * f + t) (if true = true then 1 else 0)))), ?_, i, g⟩
  rw [e_m_C_addLink, c_req h hf, xbV_r, c_req h ht, xbV_r, s_canLink h.2.1 hf ht ha, xbI_r, d, ite_bt, ea, xbV_r, s_link cA ha (by omega) (by omega) (by omega) (by omega), Int.toNat_natCast, Int.toNat_natCast, if_pos ⟨⟨⟨by omega, by omega⟩, by omega, by omega⟩, d⟩, xbI_r, s_countLinks c2, xbI_r]
theorem c_unl {M : xM} {b : Nat → Int} (h : CI M b) {f t : Nat} (hf : f < nT b) (ht : t < nT b) (h1 : bL b f t = true) : ∃ M1 v, m_C_removeLink 0 (zi (f : Nat)) (zi (t : Nat)) M = rI v M1 ∧ CI M1 (upI b (172 + 12 * f + t) 0) ∧ fr onG M M1 := by
  have hn := CI_n h
  obtain ⟨A, ea, hA, cA⟩ := c_rem h
  have c2 := CP_upL cA h.1 (f := f) (by omega) ht false
  obtain ⟨i, g⟩ := c_chg h hA (A2 := xst A 8 9 t (.int (mk (fun g => if g = f then false else bL b g t)))) (fr_st rfl) c2 (wF_upL h.1 hf ht false (fun q => nomatch q))
  refine ⟨_, zi (sm (fun s => (cnt (fun g => bL (upI b (172 + 12 * f + t) (if false = true then 1 else 0)) g s) 12 : Nat)) (nT (upI b (172 + 12 * f + t) (if false = true then 1 else 0)))), ?_, i, g⟩
  rw [e_m_C_removeLink, c_req h hf, xbV_r, c_req h ht, xbV_r, s_isLinked h.2.1 (by omega) ht, xbI_r, h1, ite_bt, ea, xbV_r, s_unlink cA (by omega) (by omega) (by omega) (by omega), Int.toNat_natCast, Int.toNat_natCast, if_pos ⟨⟨⟨by omega, by omega⟩, by omega, by omega⟩, h1⟩, xbI_r, s_countLinks c2, xbI_r]
theorem c_drop {M : xM} {b : Nat → Int} (h : CI M b) {t : Nat} (ht : t < nT b) (h2 : 2 ≤ nT b) : ∃ M1 v, m_C_dropTask 0 (zi (t : Nat)) M = rI v M1 ∧ CI M1 (dpB b t) ∧ fr onG M M1 := by
  have hn := CI_n h
  obtain ⟨A, ea, hA, cA⟩ := c_rem h
  obtain ⟨A2, e2, f2, c2⟩ := s_removeT cA h.1 ht h2
  obtain ⟨i, g⟩ := c_chg h hA f2 c2 (wF_dp h.1 ht h2)
  refine ⟨_, gi A2 2 9 2, ?_, i, g⟩
  rw [e_m_C_dropTask, c_req h ht, xbV_r, CP_T h.2.1, zi_01, zife (by omega) (by omega) (by decide) (by decide), if_neg (by omega), ea, xbV_r, e2, xbI_r]
