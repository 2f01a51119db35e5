/-! the law's schedule: what a day holds, whether a task fits, when it is ready -/
/-- the law's start days: placed tasks P on the days s -/
def QP (M : xM) (o : Nat) (b : Nat → Int) (P : Nat → Bool) (s : Nat → Int) : Prop := ∀ t, t < nT b → gi M 28 o t = zi (s t) ∧ (P t = true → 0 ≤ s t ∧ s t ≤ 1000) ∧ (P t = false → s t = -1)
theorem q_isOn {M : xM} {o : Nat} {b : Nat → Int} {P : Nat → Bool} {s : Nat → Int} (h : QS M o b) (hp : QP M o b P s) {t : Nat} (ht : t < nT b) {x : Int} (h1 : -1000000 ≤ x) (h2 : x < 1000000) : m_Q_isOn o (zi (t : Nat)) (zi x) M = rI (bz (P t && (decide (s t ≤ x) && decide (x < s t + bD b t)))) M := by
  have hn := CI_n h.1
  obtain ⟨g1, g2, g3⟩ := hp t ht
  have hd := h.1.1.1.2.2.2.1 t ht
  rw [e_m_Q_isOn, if_pos h.2.1.2, xck_n (by omega) (by decide), zix (by omega), g1, zi_00]
  cases hP : P t with
  | false =>
    have e := g3 hP
    rw [zif (by omega) (by omega) (by decide) (by decide), if_pos (by omega), Bool.false_and, ← zi_00, xnar_0]
  | true =>
    have e := g2 hP
    rw [zif (by omega) (by omega) (by decide) (by decide), if_neg (by omega), if_pos h.2.1.2, xck_n (by omega) (by decide), zif (by omega) (by omega) (by omega) (by omega), Bool.true_and]
    by_cases c1 : x < s t
    · rw [if_pos c1, decide_eq_false (by omega), Bool.false_and, ← zi_00, xnar_0]
    · rw [if_neg c1, if_pos h.2.1.2, xck_n (by omega) (by decide), if_pos h.2.1.1, gdc h.1 (xain1 _), c_dur h.1 ht, xret_I, xbI_r, zi_add, zif (by omega) (by omega) (by omega) (by omega), decide_eq_true (show s t ≤ x by omega), Bool.true_and]
      by_cases c2 : x < s t + bD b t
      · rw [if_pos c2, decide_eq_true c2, xnar_1]
      · rw [if_neg c2, decide_eq_false c2, ← zi_00, xnar_0]
theorem q_usage {M : xM} {o : Nat} {b : Nat → Int} {P : Nat → Bool} {s : Nat → Int} (h : QS M o b) (hp : QP M o b P s) {r : Nat} (hr : r < nR b) {x : Int} (h1 : -1000000 ≤ x) (h2 : x < 1000000) : m_Q_usage o (zi (r : Nat)) (zi x) M = rI (zi (ldS b P s r x)) M := by
  have hn := CI_n h.1
  rw [e_m_Q_usage]
  refine lp (B := fun i => b_Q_usage_5 o (zi (r : Nat)) (zi x) (zi (sm (ldU b P s r x) i)) (zi (i : Nat)) M) (n := nT b) (fun i hi => ?_) ?_ 0 (Nat.zero_le _)
  · show b_Q_usage_5 o (zi (r : Nat)) (zi x) (zi (sm (ldU b P s r x) i)) (zi (i : Nat)) M = b_Q_usage_5 o (zi (r : Nat)) (zi x) (zi (sm (ldU b P s r x) i + ldU b P s r x i)) (zi ((i + 1 : Nat) : Int)) M
    rw [e_b_Q_usage_5, h.2.2.1, if_pos (zi_ltn hi (by omega)), q_isOn h hp hi h1 h2, xret_I, xbI_r, ite_b, zi_suc]
    have lu : ldU b P s r x i = if (P i && (decide (s i ≤ x) && decide (x < s i + bD b i))) = true then bU b i r else 0 := rfl
    rw [lu]
    cases (P i && (decide (s i ≤ x) && decide (x < s i + bD b i))) with
    | false => rw [if_neg (by decide), if_neg (by decide), zi_00, zi_add]
    | true => rw [if_pos rfl, if_pos rfl, if_pos h.2.1.1, gdc h.1 (xain2 _ _), c_dem h.1 hi hr, xret_I, xbI_r, zi_add]
  · show b_Q_usage_5 o (zi (r : Nat)) (zi x) (zi (ldS b P s r x)) (zi (nT b : Nat)) M = _
    rw [e_b_Q_usage_5, h.2.2.1, if_neg (zi_irr _)]
theorem q_fits {M : xM} {o : Nat} {b : Nat → Int} {P : Nat → Bool} {s : Nat → Int} (h : QS M o b) (hp : QP M o b P s) {t : Nat} (ht : t < nT b) (hP : P t = false) {x : Int} (h1 : 0 ≤ x) (h2 : x < 100000) : m_Q_fits o (zi (t : Nat)) (zi x) M = rI (bz (fitS b P s t x)) M := by
  have hw := h.1.1.1
  have hn := CI_n h.1
  have hr3 := CP_r h.1.2.1
  have hd := hw.2.2.2.1 t ht
  have inner : ∀ j : Nat, j < (bD b t).toNat → b_Q_fits_14 o (zi (t : Nat)) (zi x) (zi (x + (j : Nat))) 0 M = if freeS b P s t (x + (j : Nat)) = true then b_Q_fits_3 o (zi (t : Nat)) (zi x) (zi (x + ((j + 1 : Nat) : Int))) M else rI (bz false) M := fun j hj => by
    unfold freeS
    refine lpa (B := fun r => b_Q_fits_14 o (zi (t : Nat)) (zi x) (zi (x + (j : Nat))) (zi (r : Nat)) M) (n := nR b) (fun r => decide (ldS b (but P t) s r (x + (j : Nat)) + bU b t r ≤ bC b r)) (fun r hr hok => ?_) (fun r hr hok => ?_) ?_
    · have b3 := ldS_rg hw hr P s (x + (j : Nat))
      have b4 := hw.2.2.2.2.2.2.1 r hr
      have b5 := hw.2.2.2.2.2.1 t r ht hr
      have hok := of_decide_eq_true hok
      rw [ldS_but0 hP] at hok
      show b_Q_fits_14 o (zi (t : Nat)) (zi x) (zi (x + (j : Nat))) (zi (r : Nat)) M = b_Q_fits_14 o (zi (t : Nat)) (zi x) (zi (x + (j : Nat))) (zi ((r + 1 : Nat) : Int)) M
      rw [e_b_Q_fits_14, if_pos h.2.1.1, gdc h.1 xain0, c_rc h.1, xret_I, xbI_r, if_pos (zi_ltn hr (by omega)), q_usage h hp hr (by omega) (by omega), xret_I, xbI_r, if_pos h.2.1.1, gdc h.1 (xain2 _ _), c_dem h.1 ht hr, xret_I, xbI_r, if_pos h.2.1.1, gdc h.1 (xain1 _), c_cap h.1 hr, xret_I, xbI_r, zi_add, zif (by omega) (by omega) (by omega) (by omega), if_neg (by omega), zi_suc]
    · have b3 := ldS_rg hw hr P s (x + (j : Nat))
      have b4 := hw.2.2.2.2.2.2.1 r hr
      have b5 := hw.2.2.2.2.2.1 t r ht hr
      have hok := of_decide_eq_false hok
      rw [ldS_but0 hP] at hok
      show b_Q_fits_14 o (zi (t : Nat)) (zi x) (zi (x + (j : Nat))) (zi (r : Nat)) M = _
      rw [e_b_Q_fits_14, if_pos h.2.1.1, gdc h.1 xain0, c_rc h.1, xret_I, xbI_r, if_pos (zi_ltn hr (by omega)), q_usage h hp hr (by omega) (by omega), xret_I, xbI_r, if_pos h.2.1.1, gdc h.1 (xain2 _ _), c_dem h.1 ht hr, xret_I, xbI_r, if_pos h.2.1.1, gdc h.1 (xain1 _), c_cap h.1 hr, xret_I, xbI_r, zi_add, zif (by omega) (by omega) (by omega) (by omega), if_pos (by omega), xnar_0]
    · show b_Q_fits_14 o (zi (t : Nat)) (zi x) (zi (x + (j : Nat))) (zi (nR b : Nat)) M = _
      rw [e_b_Q_fits_14, if_pos h.2.1.1, gdc h.1 xain0, c_rc h.1, xret_I, xbI_r, if_neg (zi_irr _), zi_01, zi_add]
      refine congrArg (fun z => b_Q_fits_3 o (zi (t : Nat)) (zi x) (zi z) M) ?_
      omega
  rw [e_m_Q_fits]
  have key : b_Q_fits_3 o (zi (t : Nat)) (zi x) (zi (x + ((0 : Nat) : Int))) M = if allN (bD b t).toNat (fun j => freeS b P s t (x + (j : Nat))) = true then rI (bz true) M else rI (bz false) M := by
    refine lpa (B := fun j => b_Q_fits_3 o (zi (t : Nat)) (zi x) (zi (x + (j : Nat))) M) (n := (bD b t).toNat) (fun j => freeS b P s t (x + (j : Nat))) (fun j hj hok => ?_) (fun j hj hok => ?_) ?_
    · show b_Q_fits_3 o (zi (t : Nat)) (zi x) (zi (x + (j : Nat))) M = b_Q_fits_3 o (zi (t : Nat)) (zi x) (zi (x + ((j + 1 : Nat) : Int))) M
      rw [e_b_Q_fits_3, if_pos h.2.1.1, gdc h.1 (xain1 _), c_dur h.1 ht, xret_I, xbI_r, zi_add, zif (by omega) (by omega) (by omega) (by omega), if_pos (by omega), inner j hj, if_pos hok]
    · show b_Q_fits_3 o (zi (t : Nat)) (zi x) (zi (x + (j : Nat))) M = _
      rw [e_b_Q_fits_3, if_pos h.2.1.1, gdc h.1 (xain1 _), c_dur h.1 ht, xret_I, xbI_r, zi_add, zif (by omega) (by omega) (by omega) (by omega), if_pos (by omega), inner j hj, if_neg (by rw [hok]; decide)]
    · show b_Q_fits_3 o (zi (t : Nat)) (zi x) (zi (x + ((bD b t).toNat : Nat))) M = _
      rw [e_b_Q_fits_3, if_pos h.2.1.1, gdc h.1 (xain1 _), c_dur h.1 ht, xret_I, xbI_r, zi_add, zif (by omega) (by omega) (by omega) (by omega), if_neg (by omega), xnar_1]
  rw [show x + ((0 : Nat) : Int) = x by omega] at key
  rw [key]
  unfold fitS
  cases allN (bD b t).toNat (fun j => freeS b P s t (x + (j : Nat))) with
  | false => rw [if_neg (by decide)]
  | true => rw [if_pos rfl]
theorem q_ready {M : xM} {o : Nat} {b : Nat → Int} {P : Nat → Bool} {s : Nat → Int} (h : QS M o b) (hp : QP M o b P s) {t : Nat} (ht : t < nT b) : m_Q_ready o (zi (t : Nat)) M = rI (zi (if allN (nT b) (fun f => !bL b f t || P f) = true then rdS b s t else -1)) M := by
  have hw := h.1.1.1
  have hn := CI_n h.1
  have he := hw.2.2.2.2.1 t ht
  rw [e_m_Q_ready, if_pos h.2.1.1, gdc h.1 (xain1 _), c_rel h.1 ht, xret_I, xbI_r]
  have bd : ∀ i, i ≤ nT b → bE b t ≤ mxF (fun f => bL b f t) (fun f => s f + bD b f) (bE b t) i ∧ mxF (fun f => bL b f t) (fun f => s f + bD b f) (bE b t) i ≤ 1030 := fun i hi => ⟨mxF_a _ _ _ _, mxF_le (by omega) (fun q hq _ => by
    have := hw.2.2.2.1 q (by omega)
    obtain ⟨_, g2, g3⟩ := hp q (by omega)
    cases hP : P q with
    | false => have := g3 hP; omega
    | true => have := g2 hP; omega)⟩
  have key : b_Q_ready_8 o (zi (t : Nat)) (zi (bE b t)) 0 M = if allN (nT b) (fun f => !bL b f t || P f) = true then rI (zi (rdS b s t)) M else rI (zi (-1)) M := by
    refine lpa (B := fun i => b_Q_ready_8 o (zi (t : Nat)) (zi (mxF (fun f => bL b f t) (fun f => s f + bD b f) (bE b t) i)) (zi (i : Nat)) M) (n := nT b) (fun f => !bL b f t || P f) (fun i hi hok => ?_) (fun i hi hok => ?_) ?_
    · show b_Q_ready_8 o (zi (t : Nat)) (zi (mxF (fun f => bL b f t) (fun f => s f + bD b f) (bE b t) i)) (zi (i : Nat)) M = b_Q_ready_8 o (zi (t : Nat)) (zi (if bL b i t = true then imx (mxF (fun f => bL b f t) (fun f => s f + bD b f) (bE b t) i) (s i + bD b i) else mxF (fun f => bL b f t) (fun f => s f + bD b f) (bE b t) i)) (zi ((i + 1 : Nat) : Int)) M
      have b1 := bd i (by omega)
      have b2 := hw.2.2.2.1 i hi
      obtain ⟨g1, g2, g3⟩ := hp i hi
      rw [e_b_Q_ready_8, h.2.2.1, if_pos (zi_ltn hi (by omega)), if_pos h.2.1.1, gdc h.1 (xain2 _ _), c_link h.1 hi ht, xret_I, xbI_r, ite_b, zi_suc]
      cases hb : bL b i t with
      | false => rw [if_neg (by decide), if_neg (by decide)]
      | true =>
        rw [hb] at hok
        have hP : P i = true := by simpa using hok
        have q := g2 hP
        rw [if_pos rfl, if_pos rfl, if_pos h.2.1.2, xck_n (by omega) (by decide), zix (by omega), g1, zi_00, zif (by omega) (by omega) (by decide) (by decide), if_neg (by omega), if_pos h.2.1.2, xck_n (by omega) (by decide), if_pos h.2.1.1, gdc h.1 (xain1 _), c_dur h.1 hi, xret_I, xbI_r, zi_add, gd4 (xain4 _ _), s_max _ _ (by omega) (by omega) (by omega) (by omega), xret_I, xbI_r]
    · show b_Q_ready_8 o (zi (t : Nat)) _ (zi (i : Nat)) M = _
      obtain ⟨g1, g2, g3⟩ := hp i hi
      have hok : bL b i t = true ∧ P i = false := by simpa using hok
      have q := g3 hok.2
      rw [e_b_Q_ready_8, h.2.2.1, if_pos (zi_ltn hi (by omega)), if_pos h.2.1.1, gdc h.1 (xain2 _ _), c_link h.1 hi ht, xret_I, xbI_r, ite_b, if_pos hok.1, if_pos h.2.1.2, xck_n (by omega) (by decide), zix (by omega), g1, zi_00, zif (by omega) (by omega) (by decide) (by decide), if_pos (by omega), zi_m1]
    · show b_Q_ready_8 o (zi (t : Nat)) (zi (rdS b s t)) (zi (nT b : Nat)) M = _
      rw [e_b_Q_ready_8, h.2.2.1, if_neg (zi_irr _)]
  rw [key]
  cases allN (nT b) (fun f => !bL b f t || P f) with
  | false => rw [if_neg (by decide), if_neg (by decide)]
  | true => rw [if_pos rfl, if_pos rfl]
