/-! what the reference reads out of dates and schedule -/
theorem r_pred {M : xM} {b : Nat → Int} (h : RB M b) (hw : wS b) (hl : wL b) {t : Nat} (ht : t < nT b) : b_M_predecessorCount_19 0 (zi t) 0 0 M = rI (zi (cnt (fun f => bL b f t) (nT b) : Nat)) M := by
  have hn := wS_n hw
  refine lp (B := fun i => b_M_predecessorCount_19 0 (zi t) (zi (cnt (fun f => bL b f t) i : Nat)) (zi (i : Nat)) M) (n := nT b) (fun i hi => ?_) ?_ 0 (Nat.zero_le _)
  · show b_M_predecessorCount_19 0 (zi t) (zi (cnt (fun f => bL b f t) i : Nat)) (zi (i : Nat)) M = b_M_predecessorCount_19 0 (zi t) (zi ((cnt (fun f => bL b f t) i + (if bL b i t then 1 else 0) : Nat) : Int)) (zi ((i + 1 : Nat) : Int)) M
    rw [e_b_M_predecessorCount_19, xck_2, RB_T h hw, if_pos (zi_ltn hi (by omega)), r_link h hl (by omega) (by omega), xbI_r, ite_b, zi_suc i]
    cases bL b i t with
    | true => rw [if_pos rfl, if_pos rfl, zi_suc]
    | false =>
      rw [if_neg (by decide), if_neg (by decide), zi_00, zi_add, Int.add_zero]
      rfl
  · show b_M_predecessorCount_19 0 (zi t) (zi (cnt (fun f => bL b f t) (nT b) : Nat)) (zi (nT b : Nat)) M = _
    rw [e_b_M_predecessorCount_19, xck_2, RB_T h hw, if_neg (zi_irr _)]
theorem r_workFor {M : xM} {b : Nat → Int} (h : RB M b) (hw : wS b) {r : Nat} (hr : r < nR b) : m_M_workFor 0 (zi r) M = rI (zi (wkB b r)) M := by
  have hn := wS_n hw
  have r3 : nR b ≤ 3 := by unfold nR; have := hw.2.1; omega
  rw [e_m_M_workFor]
  refine lp (B := fun i => b_M_workFor_5 0 (zi r) (zi (sm (fun t => bU b t r * bD b t) i)) (zi (i : Nat)) M) (n := nT b) (fun i hi => ?_) ?_ 0 (Nat.zero_le _)
  · show b_M_workFor_5 0 (zi r) (zi (sm (fun t => bU b t r * bD b t) i)) (zi (i : Nat)) M = b_M_workFor_5 0 (zi r) (zi (sm (fun t => bU b t r * bD b t) i + bU b i r * bD b i)) (zi ((i + 1 : Nat) : Int)) M
    rw [e_b_M_workFor_5, xck_2, RB_T h hw, if_pos (zi_ltn hi (by omega)), r_U h (by omega) (by omega), xbI_r, r_D h (by omega), xbI_r, zi_suc, zi_mul, zi_add]
  · show b_M_workFor_5 0 (zi r) (zi (sm (fun t => bU b t r * bD b t) (nT b))) (zi (nT b : Nat)) M = _
    rw [e_b_M_workFor_5, xck_2, RB_T h hw, if_neg (zi_irr _)]
    rfl
theorem r_bound {M : xM} {b : Nat → Int} (h : RB M b) (hw : wS b) (hd : RD M b) : m_M_bound 0 M = rI (zi (lbB b)) M := by
  have r3 : nR b ≤ 3 := by unfold nR; have := hw.2.1; omega
  have t1 := etB_lo b
  have t2 := etB_hi hw
  rw [e_m_M_bound, hd.1]
  refine lp (B := fun i => b_M_bound_6 0 (zi (mxF (fun _ => true) (dwB b) (etB b) i)) (zi (i : Nat)) M) (n := nR b) (fun i hi => ?_) ?_ 0 (Nat.zero_le _)
  · show b_M_bound_6 0 (zi (mxF _ _ (etB b) i)) (zi (i : Nat)) M = b_M_bound_6 0 (zi (imx (mxF (fun _ => true) (dwB b) (etB b) i) (dwB b i))) (zi ((i + 1 : Nat) : Int)) M
    have b1 : mxF (fun _ => true) (dwB b) (etB b) i ≤ 4000 := mxF_le (by omega) (fun j hj _ => by have := dwB_bd hw (show j < nR b by omega); omega)
    have b2 := mxF_a (fun _ => true) (dwB b) (etB b) i
    have b3 := dwB_bd hw hi
    have b4 := hw.2.2.2.2.2.2.1 i hi
    have b5 := wkB_bd hw hi
    have hv : gi M 28 0 (ix 1) = zi (nR b) := RB_R h hw
    rw [e_b_M_bound_6, xck_1, hv, if_pos (zi_ltn hi (by omega)), r_workFor h hw hi, xbI_r, r_cap h (by omega), xbI_r, r_cap h (by omega), xbI_r, zi_00, zife (by omega) (by omega) (by omega) (by omega), if_neg (by omega), zi_01, zi_add, zi_sub, zi_div (by omega) (by omega) (by omega) (by omega), show (wkB b i + bC b i - 1) / bC b i = dwB b i from rfl, zif (by omega) (by omega) (by omega) (by omega), ← zi_01, zi_suc]
    unfold imx
    split <;> rfl
  · show b_M_bound_6 0 (zi (mxF _ _ (etB b) _)) (zi (nR b : Nat)) M = _
    have hv : gi M 28 0 (ix 1) = zi (nR b) := RB_R h hw
    rw [e_b_M_bound_6, xck_1, hv, if_neg (zi_irr _)]
    rfl
theorem r_usage {M : xM} {b : Nat → Int} (hw : wS b) (hs : RS M b) {r : Nat} (hr : r < nR b) {x : Int} (h1 : 0 ≤ x) (h2 : x < 1000) : m_M_usageOn 0 (zi r) (zi x) M = rI (zi (ldS b (allT b) (stB b) r x)) M := by
  have r3 : nR b ≤ 3 := by unfold nR; have := hw.2.1; omega
  rw [e_m_M_usageOn, zi_480, zif (by omega) (by omega) (by decide) (by decide)]
  by_cases c : x < 480
  · rw [if_pos c, zi_mul, zi_add, xck_z (by omega) (by omega) (by decide), zixz (by omega) (by omega), show ((r : Int) * 480 + x).toNat = 480 * r + x.toNat by omega, hs.2.2 r x.toNat hr (by omega)]
    dsimp only
    rw [show ((x.toNat : Nat) : Int) = x by omega]
  · rw [if_neg c, ldS_0 (fun t ht _ => by have := stB_480 hw ht; omega)]
    rfl
theorem r_peak {M : xM} {b : Nat → Int} (hw : wS b) (hs : RS M b) {r : Nat} (hr : r < nR b) : m_M_peak 0 (zi r) M = rI (zi (pkB b r)) M := by
  have mk1 := mkB_ok hw
  have e : pkB b r = mxF (fun _ => true) (fun x => ldS b (allT b) (stB b) r x) 0 480 := by
    unfold pkB
    symm
    refine mxF_eq (mxF_a _ _ _ _) (fun i hi _ => ?_) ?_
    · by_cases c : i < (mkB b).toNat
      · exact mxF_g (P := fun _ => true) (g := fun x => ldS b (allT b) (stB b) r x) c rfl
      · rw [ldS_0 (fun t ht _ => by have := stB_ok hw ht; omega)]
        exact mxF_a _ _ _ _
    · rcases mxF_at (fun _ => true) (fun x : Nat => ldS b (allT b) (stB b) r x) 0 (mkB b).toNat with q | ⟨i, hi, _, q⟩
      · exact Or.inl q
      · exact Or.inr ⟨i, by omega, rfl, q⟩
  rw [e_m_M_peak, e]
  refine lp (B := fun i => b_M_peak_5 0 (zi r) (zi (mxF (fun _ => true) (fun x => ldS b (allT b) (stB b) r x) 0 i)) (zi (i : Nat)) M) (n := 480) (fun i hi => ?_) ?_ 0 (Nat.zero_le _)
  · show b_M_peak_5 0 (zi r) (zi (mxF _ (fun x => ldS b (allT b) (stB b) r x) 0 i)) (zi (i : Nat)) M = b_M_peak_5 0 (zi r) (zi (imx (mxF (fun _ => true) (fun x => ldS b (allT b) (stB b) r x) 0 i) (ldS b (allT b) (stB b) r i))) (zi ((i + 1 : Nat) : Int)) M
    have b1 : mxF (fun _ => true) (fun x : Nat => ldS b (allT b) (stB b) r x) 0 i ≤ 4000 := mxF_le (by omega) (fun j hj _ => by have := ldS_rg hw hr (allT b) (stB b) j; omega)
    have b2 := mxF_a (fun _ => true) (fun x : Nat => ldS b (allT b) (stB b) r x) 0 i
    have b3 := ldS_rg hw hr (allT b) (stB b) i
    rw [e_b_M_peak_5, zi_480, zif (by omega) (by omega) (by decide) (by decide), if_pos (by omega), r_usage hw hs hr (by omega) (by omega), xbI_r, zif (by omega) (by omega) (by omega) (by omega), r_usage hw hs hr (by omega) (by omega), xbI_r, zi_suc]
    unfold imx
    split <;> rfl
  · show b_M_peak_5 0 (zi r) (zi (mxF _ _ 0 480)) (zi ((480 : Nat) : Int)) M = _
    rw [e_b_M_peak_5, zi_480, zif (by omega) (by omega) (by omega) (by omega), if_neg (by omega)]
theorem r_overl {M : xM} {b : Nat → Int} (h : RB M b) (hw : wS b) (hd : RD M b) {r : Nat} (hr : r < nR b) : b_M_overloadedDays_21 0 (zi r) 0 0 M = rI (zi (ovB b r : Nat)) M := by
  have hn := wS_n hw
  have r3 : nR b ≤ 3 := by unfold nR; have := hw.2.1; omega
  have t1 := etB_lo b
  have t2 := etB_hi hw
  refine lp (B := fun i => b_M_overloadedDays_21 0 (zi r) (zi (cnt (fun x => decide (bC b r < ldS b (allT b) (esB b) r x)) i : Nat)) (zi (i : Nat)) M) (n := (etB b).toNat) (fun i hi => ?_) ?_ 0 (Nat.zero_le _)
  · show b_M_overloadedDays_21 0 (zi r) (zi (cnt (fun x => decide (bC b r < ldS b (allT b) (esB b) r x)) i : Nat)) (zi (i : Nat)) M = b_M_overloadedDays_21 0 (zi r) (zi ((cnt (fun x => decide (bC b r < ldS b (allT b) (esB b) r x)) i + (if decide (bC b r < ldS b (allT b) (esB b) r i) then 1 else 0) : Nat) : Int)) (zi ((i + 1 : Nat) : Int)) M
    rw [e_b_M_overloadedDays_21, hd.1, zif (by omega) (by omega) (by omega) (by omega), if_pos (by omega)]
    refine lp (B := fun j => b_M_overloadedDays_30 0 (zi r) (zi (cnt (fun x => decide (bC b r < ldS b (allT b) (esB b) r x)) i : Nat)) (zi (i : Nat)) (zi (sm (ldU b (allT b) (esB b) r i) j)) (zi (j : Nat)) M) (n := nT b) (fun j hj => ?_) ?_ 0 (Nat.zero_le _)
    · show b_M_overloadedDays_30 0 (zi r) _ (zi (i : Nat)) (zi (sm (ldU b (allT b) (esB b) r i) j)) (zi (j : Nat)) M = b_M_overloadedDays_30 0 (zi r) _ (zi (i : Nat)) (zi (sm (ldU b (allT b) (esB b) r i) j + ldU b (allT b) (esB b) r i j)) (zi ((j + 1 : Nat) : Int)) M
      have e1 := esB_lo hw hj
      have e2 := esB_hi hw hj
      have e3 := hw.2.2.2.1 j hj
      have lu : ldU b (allT b) (esB b) r i j = if esB b j ≤ (i : Int) ∧ (i : Int) < esB b j + bD b j then bU b j r else 0 := by
        unfold ldU allT
        rw [decide_eq_true hj, Bool.true_and]
        by_cases c : esB b j ≤ (i : Int) ∧ (i : Int) < esB b j + bD b j
        · rw [if_pos c, decide_eq_true c.1, decide_eq_true c.2]; rfl
        · rw [if_neg c, if_neg]
          rw [Bool.and_eq_true, decide_eq_true_iff, decide_eq_true_iff]; exact c
      rw [e_b_M_overloadedDays_30, xck_2, RB_T h hw, if_pos (zi_ltn hj (by omega)), xck_n (by omega) (by decide), zix (by omega), (hd.2 j hj).1, zif (by omega) (by omega) (by omega) (by omega), xck_n (by omega) (by decide), r_D h (by omega), xbI_r, zi_add, zif (by omega) (by omega) (by omega) (by omega), r_U h (by omega) (by omega), xbI_r, zi_suc, zi_00, zi_add, zi_add, lu]
      by_cases c : (i : Int) < esB b j
      · rw [if_pos c, if_neg (fun q => by omega)]
      · rw [if_neg c]
        by_cases c2 : (i : Int) < esB b j + bD b j
        · rw [if_pos c2, if_pos (show esB b j ≤ (i : Int) ∧ (i : Int) < esB b j + bD b j by omega)]
        · rw [if_neg c2, if_neg (fun q => c2 q.2)]
    · show b_M_overloadedDays_30 0 (zi r) _ (zi (i : Nat)) (zi (ldS b (allT b) (esB b) r i)) (zi (nT b : Nat)) M = _
      have b3 := ldS_rg hw hr (allT b) (esB b) i
      have b4 := hw.2.2.2.2.2.2.1 r hr
      rw [e_b_M_overloadedDays_30, xck_2, RB_T h hw, if_neg (zi_irr _), r_cap h (by omega), xbI_r, zif (by omega) (by omega) (by omega) (by omega), zi_suc i]
      by_cases c : bC b r < ldS b (allT b) (esB b) r i
      · rw [if_pos c, decide_eq_true c, if_pos rfl, zi_suc]
      · rw [if_neg c, decide_eq_false c, if_neg (by decide), zi_00, zi_add, Int.add_zero]
        rfl
  · show b_M_overloadedDays_21 0 (zi r) (zi (cnt _ (etB b).toNat : Nat)) (zi ((etB b).toNat : Nat)) M = _
    rw [e_b_M_overloadedDays_21, hd.1, show (((etB b).toNat : Nat) : Int) = etB b by omega, if_neg (zi_irr _)]
    rfl
theorem r_fslack {M : xM} {b : Nat → Int} (h : RB M b) (hw : wS b) (hl : wL b) (hd : RD M b) {t : Nat} (ht : t < nT b) : b_M_freeSlack_21 0 (zi t) (-1) 0 M = rI (zi (fsB b t)) M := by
  have hn := wS_n hw
  have t1 := etB_lo b
  have t2 := etB_hi hw
  have none_mn : ∀ i, anyN i (fun s => bL b t s) = false → mnF (fun s => bL b t s) (esB b) (etB b) i = etB b := fun i q => by
    rcases mnF_at (fun s => bL b t s) (esB b) (etB b) i with e | ⟨j, hj, hp, _⟩
    · exact e
    · rw [anyN_no.mp q j hj] at hp; cases hp
  have mn_lo : ∀ i, i ≤ nT b → 0 ≤ mnF (fun s => bL b t s) (esB b) (etB b) i := fun i hi => le_mnF t1 (fun j hj _ => esB_lo hw (by omega))
  have acc : ∀ i, i ≤ nT b → b_M_freeSlack_21 0 (zi t) (-1) 0 M = b_M_freeSlack_21 0 (zi t) (zi (if anyN i (fun s => bL b t s) = true then mnF (fun s => bL b t s) (esB b) (etB b) i else -1)) (zi (i : Nat)) M := by
    intro i
    induction i with
    | zero => intro _; rfl
    | succ i ih =>
      intro hi
      have e1 := esB_lo hw (show i < nT b by omega)
      have e2 := esB_hi hw (show i < nT b by omega)
      have e3 := etB_t (b := b) (show i < nT b by omega)
      have e4 := hw.2.2.2.1 i (by omega)
      have m1 := mn_lo i (by omega)
      have m2 := mnF_a (fun s => bL b t s) (esB b) (etB b) i
      rw [ih (by omega), e_b_M_freeSlack_21, xck_2, RB_T h hw, if_pos (zi_ltn (by omega) (by omega)), r_link h hl (by omega) (by omega), xbI_r, ite_b, xck_n (by omega) (by decide), xck_n (by omega) (by decide), zix (by omega), (hd.2 i (by omega)).1, zi_suc i, show anyN (i + 1) (fun s => bL b t s) = (anyN i (fun s => bL b t s) || bL b t i) from rfl, show mnF (fun s => bL b t s) (esB b) (etB b) (i + 1) = if bL b t i = true then imn (mnF (fun s => bL b t s) (esB b) (etB b) i) (esB b i) else mnF (fun s => bL b t s) (esB b) (etB b) i from rfl]
      cases hb : bL b t i with
      | false => rw [if_neg (show ¬ (false = true) by decide), if_neg (show ¬ (false = true) by decide), Bool.or_false]
      | true =>
        rw [if_pos rfl, if_pos rfl, Bool.or_true, if_pos rfl]
        cases ha : anyN i (fun s => bL b t s) with
        | false =>
          rw [if_neg (show ¬ (false = true) by decide), if_pos (show zi (-1) = (-1 : Int32) from rfl), none_mn i ha, show imn (etB b) (esB b i) = esB b i from by unfold imn; rw [if_pos (by omega)]]
        | true =>
          rw [if_pos rfl, if_neg (fun q => by rw [zi_m1, zi_eq (by omega) (by omega) (by omega) (by omega)] at q; omega), zif (by omega) (by omega) (by omega) (by omega)]
          unfold imn
          split <;> rfl
  have m1 := mn_lo (nT b) (Nat.le_refl _)
  have m2 := mnF_a (fun s => bL b t s) (esB b) (etB b) (nT b)
  rw [acc (nT b) (Nat.le_refl _), e_b_M_freeSlack_21, xck_2, RB_T h hw, if_neg (zi_irr _), xck_n (by omega) (by decide), xck_n (by omega) (by decide), zix (by omega), r_D h (by omega), xbI_r, xbI_r, (hd.2 t ht).1, hd.1, zi_sub, zi_sub, zi_sub, zi_sub]
  cases ha : anyN (nT b) (fun s => bL b t s) with
  | false =>
    rw [if_neg (show ¬ (false = true) by decide), if_pos (show zi (-1) = (-1 : Int32) from rfl)]
    unfold fsB
    rw [none_mn _ ha]
  | true =>
    rw [if_pos rfl, if_neg (fun q => by rw [zi_m1, zi_eq (by omega) (by omega) (by omega) (by omega)] at q; omega)]
    rfl
