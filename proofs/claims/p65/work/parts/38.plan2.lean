/-! the class's half of the part 38 of the proof of whole (wip/p65/mkhalf.py) -/
theorem s_loadOn {M : xM} {p : Nat} {b : Nat → Int} (h : CP M p b) {k o r : Nat} {P : Nat → Bool} {s : Nat → Int} {x : Int} (hk : Nat.beq (xtc k) 1 = true) (hlen : xlen k o M = 12) (ha : ∀ t, t < nT b → P t = true → gi M k o t = zi (s t) ∧ -1000000 ≤ s t ∧ s t < 1000000) (hd : ∀ t, t < nT b → 0 ≤ bD b t ∧ bD b t < 1000) (hr : r < nR b) (h3 : -1000000 ≤ x) (h4 : x < 1000000) : m_P_loadOn p k o (mk P) (zi r) (zi x) M = rI (zi (ldS b P s r x)) M := by
  have hn := CP_n h
  rw [e_m_P_loadOn]
  refine lp (B := fun i => b_P_loadOn_5 p k o (mk P) (zi r) (zi x) (zi (sm (ldU b P s r x) i)) (zi (i : Nat)) M) (n := nT b) (fun i hi => ?_) ?_ 0 (Nat.zero_le _)
  · show b_P_loadOn_5 p k o (mk P) (zi r) (zi x) (zi (sm _ i)) (zi (i : Nat)) M = b_P_loadOn_5 p k o (mk P) (zi r) (zi x) (zi (sm _ i + ldU b P s r x i)) (zi ((i + 1 : Nat) : Int)) M
    rw [e_b_P_loadOn_5, CP_T h, if_pos (zi_ltn hi (by omega)), s_contains _ (by omega), xret_I, xbI_r, ite_b, zi_suc]
    cases hp : P i with
    | false =>
      have e : ldU b P s r x i = 0 := by unfold ldU; rw [hp]; rfl
      rw [if_neg (by decide), e, Int.add_zero]
    | true =>
      obtain ⟨g1, g2, g3⟩ := ha i hi hp
      rw [if_pos rfl, hk, hlen]
      show xck _ _ _ = _
      rw [xck_n (by omega) (by decide), zix (by omega), g1, s_runsOn h hi g2 g3 h3 h4 (hd i hi), xbI_r, ite_b]
      by_cases c : (decide (s i ≤ x) && decide (x < s i + bD b i)) = true
      · have e : ldU b P s r x i = bU b i r := by unfold ldU; rw [hp, c]; rfl
        rw [if_pos c, s_demandOf h hi hr, xbI_r, zi_add, e]
      · have e : ldU b P s r x i = 0 := by
          unfold ldU; rw [hp, Bool.true_and, if_neg c]
        rw [if_neg c, e, Int.add_zero]
  · show b_P_loadOn_5 p k o (mk P) (zi r) (zi x) (zi (sm _ _)) (zi (nT b : Nat)) M = _
    rw [e_b_P_loadOn_5, CP_T h, if_neg (zi_irr _)]
    rfl
theorem s_greatest {M : xM} {p : Nat} {b : Nat → Int} (h : CP M p b) {r : Nat} (hr : r < nR b) (hu : ∀ t, t < nT b → 0 ≤ bU b t r ∧ bU b t r < 1000) : m_P_greatestDemand p (zi r) M = rI (zi (mxF (fun _ => true) (fun t => bU b t r) 0 (nT b))) M := by
  have hn := CP_n h
  have hb : ∀ i, i ≤ nT b → mxF (fun _ => true) (fun t => bU b t r) 0 i ≤ 1000 := fun i hi => mxF_le (by decide) (fun j hj _ => by have := hu j (by omega); omega)
  have hb0 : ∀ i, 0 ≤ mxF (fun _ => true) (fun t => bU b t r) 0 i := fun i => mxF_a _ _ _ _
  rw [e_m_P_greatestDemand]
  refine lp (B := fun i => b_P_greatestDemand_5 p (zi r) (zi (mxF (fun _ => true) (fun t => bU b t r) 0 i)) (zi (i : Nat)) M) (n := nT b) (fun i hi => ?_) ?_ 0 (Nat.zero_le _)
  · show b_P_greatestDemand_5 p (zi r) (zi (mxF _ _ 0 i)) (zi (i : Nat)) M = _
    have := hb i (by omega)
    have := hb0 i
    have := hu i hi
    rw [e_b_P_greatestDemand_5, CP_T h, if_pos (zi_ltn hi (by omega)), s_demandOf h hi hr, xbI_r, s_max _ _ (by omega) (by omega) (by omega) (by omega), xret_I, xbI_r, zi_suc]
    rfl
  · show b_P_greatestDemand_5 p (zi r) (zi (mxF _ _ 0 _)) (zi (nT b : Nat)) M = _
    rw [e_b_P_greatestDemand_5, CP_T h, if_neg (zi_irr _)]
theorem s_daysOfWork {M : xM} {p : Nat} {b : Nat → Int} (h : CP M p b) {r : Nat} (hr : r < nR b) (hw : wS b) : m_P_daysOfWork p (zi r) M = rI (zi ((wkB b r + bC b r - 1) / bC b r)) M := by
  have hn := CP_r h
  obtain ⟨_, _, _, h4, _, h6, h7, _⟩ := hw
  have hc := h7 r hr
  have h1 : 0 ≤ wkB b r := sm_nn (fun i hi => Int.mul_nonneg (h6 i r hi hr).1 (by have := h4 i hi; omega))
  have h2 : wkB b r ≤ nT b * 300 := sm_le (fun i hi => by
    have a1 := h6 i r hi hr
    have a2 := h4 i hi
    calc bU b i r * bD b i ≤ 10 * bD b i := Int.mul_le_mul_of_nonneg_right (by omega) (by omega)
      _ ≤ 300 := by omega)
  have hn1 := CP_n h
  rw [e_m_P_daysOfWork, xck_n (by omega) (by decide), zix (by omega), CP_C h hr, zi_00, zif (by omega) (by omega) (by omega) (by omega), if_pos (by omega), s_workFor h hr, xbI_r, zife (by omega) (by omega) (by omega) (by omega), if_neg (by omega), zi_01, zi_add, zi_sub, zi_div (by omega) (by omega) (by omega) (by omega)]
theorem s_countLinks {M : xM} {p : Nat} {b : Nat → Int} (h : CP M p b) : m_P_countLinks p M = rI (zi (sm (fun t => (cnt (fun f => bL b f t) 12 : Nat)) (nT b))) M := by
  have hn := CP_n h
  rw [e_m_P_countLinks]
  refine lp (B := fun i => b_P_countLinks_5 p (zi (sm (fun t => (cnt (fun f => bL b f t) 12 : Nat)) i)) (zi (i : Nat)) M) (n := nT b) (fun i hi => ?_) ?_ 0 (Nat.zero_le _)
  · show b_P_countLinks_5 p (zi (sm _ i)) (zi (i : Nat)) M = _
    rw [e_b_P_countLinks_5, CP_T h, if_pos (zi_ltn hi (by omega)), xck_n (by omega) (by decide), zix (by omega), CP_L h hi, s_bits, xret_I, xbI_r, zi_add, zi_suc]
    rfl
  · show b_P_countLinks_5 p (zi (sm _ _)) (zi (nT b : Nat)) M = _
    rw [e_b_P_countLinks_5, CP_T h, if_neg (zi_irr _)]
theorem s_predsOf {M : xM} {p : Nat} {b : Nat → Int} (h : CP M p b) (P : Nat → Bool) : m_P_predecessorsOf p (mk P) M = rI (mk (fun c => anyN (nT b) (fun x => P x && bL b c x))) M := by
  have hn := CP_n h
  rw [e_m_P_predecessorsOf]
  refine lp (B := fun i => b_P_predecessorsOf_5 p (mk P) (mk (fun c => anyN i (fun x => P x && bL b c x))) (zi (i : Nat)) M) (n := nT b) (fun i hi => ?_) ?_ 0 (Nat.zero_le _)
  · show b_P_predecessorsOf_5 p (mk P) (mk _) (zi (i : Nat)) M = b_P_predecessorsOf_5 p (mk P) (mk (fun c => anyN i (fun x => P x && bL b c x) || (P i && bL b c i))) (zi ((i + 1 : Nat) : Int)) M
    rw [e_b_P_predecessorsOf_5, CP_T h, if_pos (zi_ltn hi (by omega)), s_contains _ (by omega), xret_I, xbI_r, ite_b, zi_suc]
    cases hp : P i with
    | false => simp only [Bool.false_eq_true, if_false, Bool.false_and, Bool.or_false]
    | true => rw [if_pos rfl, xck_n (by omega) (by decide), zix (by omega), CP_L h hi, mk_or]; simp only [Bool.true_and]
  · show b_P_predecessorsOf_5 p (mk P) (mk _) (zi (nT b : Nat)) M = _
    rw [e_b_P_predecessorsOf_5, CP_T h, if_neg (zi_irr _)]
/-- a ring's length, or -1 -/
theorem s_cycle {M : xM} {p : Nat} {b : Nat → Int} (h : CP M p b) {f t : Nat} (hf : f < nT b) (ht : t < nT b) (ha : acy (nT b) (bL b)) : m_P_cycleLength p (zi f) (zi t) M = rI (zi (if dF (nT b) (bL b) t (nT b) f = -1 then -1 else dF (nT b) (bL b) t (nT b) f + 1)) M := by
  have hn := CP_n h
  rw [e_m_P_cycleLength, mk_shl (by omega)]
  have step : ∀ i, i < nT b → bch (nT b) (bL b) f i t = false → b_P_cycleLength_7 p (zi t) (mk (bch (nT b) (bL b) f i)) (zi ((i + 1 : Nat) : Int)) M = b_P_cycleLength_7 p (zi t) (mk (bch (nT b) (bL b) f (i + 1))) (zi ((i + 1 + 1 : Nat) : Int)) M := by
    intro i hi hc
    rw [e_b_P_cycleLength_7, CP_T h, zif (by omega) (by omega) (by omega) (by omega), if_neg (by omega), s_contains _ (by omega), xret_I, xbI_r, ite_b, hc, if_neg (by decide), s_predsOf h, xbI_r, mk_or, zi_suc]
    rfl
  have hit : ∀ i, i < nT b → bch (nT b) (bL b) f i t = true → b_P_cycleLength_7 p (zi t) (mk (bch (nT b) (bL b) f i)) (zi ((i + 1 : Nat) : Int)) M = rI (zi ((i + 1 : Nat) : Int)) M := by
    intro i hi hc
    rw [e_b_P_cycleLength_7, CP_T h, zif (by omega) (by omega) (by omega) (by omega), if_neg (by omega), s_contains _ (by omega), xret_I, xbI_r, ite_b, hc, if_pos rfl]
  have fin : b_P_cycleLength_7 p (zi t) (mk (bch (nT b) (bL b) f (nT b))) (zi ((nT b + 1 : Nat) : Int)) M = rI (zi (-1)) M := by
    rw [e_b_P_cycleLength_7, CP_T h, zif (by omega) (by omega) (by omega) (by omega), if_pos (by omega)]
    rfl
  have no : ∀ i, rch (nT b) (bL b) t i f = false → bch (nT b) (bL b) f i t = false := fun i hi => by
    cases e : bch (nT b) (bL b) f i t with
    | false => rfl
    | true => rw [(bch_rch hf i t ht).mp e] at hi; cases hi
  show b_P_cycleLength_7 p (zi t) (mk (bch (nT b) (bL b) f 0)) (zi ((0 + 1 : Nat) : Int)) M = _
  rcases dF_least ha ht hf with ⟨h1, h2⟩ | ⟨j, h1, h2, h3, h4⟩
  · rw [if_pos h1]
    exact lp (B := fun i => b_P_cycleLength_7 p (zi t) (mk (bch (nT b) (bL b) f i)) (zi ((i + 1 : Nat) : Int)) M) (n := nT b) (fun i hi => step i hi (no i (h2 i))) fin 0 (Nat.zero_le _)
  · rw [if_neg (by rw [h2]; omega), h2]
    exact lp (B := fun i => b_P_cycleLength_7 p (zi t) (mk (bch (nT b) (bL b) f i)) (zi ((i + 1 : Nat) : Int)) M) (n := j) (fun i hi => step i (by omega) (no i (h4 i hi))) (hit j h1 ((bch_rch hf j t ht).mpr h3)) 0 (Nat.zero_le _)
theorem s_canLink {M : xM} {p : Nat} {b : Nat → Int} (h : CP M p b) {f t : Nat} (hf : f < nT b) (ht : t < nT b) (ha : acy (nT b) (bL b)) : m_P_canLink p (zi f) (zi t) M = rI (bz (!bL b f t && decide (dF (nT b) (bL b) t (nT b) f = -1))) M := by
  have hn := CP_n h
  rw [e_m_P_canLink, s_isLinked h (by omega) ht, xbI_r, ite_b, xnar_0, xnar_1]
  cases hl : bL b f t with
  | true => rfl
  | false =>
    have hbd := dF_bd (n := nT b) (L := bL b) (a := t) (k := nT b) (b := f)
    rw [if_neg (by decide), s_cycle h hf ht ha, xbI_r]
    by_cases c : dF (nT b) (bL b) t (nT b) f = -1
    · rw [if_pos c, if_pos zi_m1.symm, decide_eq_true c]; rfl
    · rw [if_neg c, zi_m1, zife (by omega) (by omega) (by omega) (by omega), if_neg (by omega), decide_eq_false c]; rfl
