/-! calls about days -/
theorem lpAny {α : Type} {B : Nat → α} {n : Nat} (P : Nat → Bool) {R1 R2 : α} (no : ∀ i, i < n → P i = false → B i = B (i + 1)) (yes : ∀ i, i < n → P i = true → B i = R1) (fin : B n = R2) : B 0 = if anyN n P = true then R1 else R2 := by
  have := lpx (B := B) (n := n) (fun i => !P i) (fun _ => R1) (R2 := R2) (fun i hi h => no i hi (by simpa using h)) (fun i hi h => yes i hi (by simpa using h)) fin
  rw [this]
  by_cases c : anyN n P = true
  · obtain ⟨i, hi, hp⟩ := anyN_iff.mp c
    rw [if_pos c, if_pos (fstN_ex hi (by simpa using hp))]
  · rw [if_neg c, if_neg]
    intro q
    have := fstN_yes q
    exact c (anyN_iff.mpr ⟨_, q, by simpa using this⟩)
theorem s_reqDay {M : xM} {x : Int} (h1 : -2147483648 ≤ x) (h2 : x < 2147483648) : m_C_requireDay (zi x) M = if 0 ≤ x ∧ x ≤ 999 then rV M else rE 1 (xbump M 1 6) := by
  rw [e_m_C_requireDay, zi_00, zi_999, zif h1 h2 (by decide) (by decide), zif (by decide) (by decide) h1 h2]
  by_cases c1 : x < 0
  · rw [if_pos c1, if_neg (by omega)]
  · rw [if_neg c1]
    by_cases c2 : 999 < x
    · rw [if_pos c2, if_neg (by omega)]
    · rw [if_neg c2, if_pos (by omega)]
theorem s_reqDur {M : xM} {x : Int} (h1 : -2147483648 ≤ x) (h2 : x < 2147483648) : m_C_requireDuration (zi x) M = if 1 ≤ x ∧ x ≤ 30 then rV M else rE 1 (xbump M 1 6) := by
  rw [e_m_C_requireDuration, zi_01, zi_30, zif h1 h2 (by decide) (by decide), zif (by decide) (by decide) h1 h2]
  by_cases c1 : x < 1
  · rw [if_pos c1, if_neg (by omega)]
  · rw [if_neg c1]
    by_cases c2 : 30 < x
    · rw [if_pos c2, if_neg (by omega)]
    · rw [if_neg c2, if_pos (by omega)]
theorem r_day {N : xM} {x : Int} (h1 : -2147483648 ≤ x) (h2 : x < 2147483648) : m_M_in (zi x) 0 999 N = rI (bz (decide (0 ≤ x ∧ x ≤ 999))) N := r_inr (a := 0) (c := 999) h1 h2 (by decide) (by decide) (by decide) (by decide)
theorem r_dur {N : xM} {x : Int} (h1 : -2147483648 ≤ x) (h2 : x < 2147483648) : m_M_in (zi x) 1 30 N = rI (bz (decide (1 ≤ x ∧ x ≤ 30))) N := r_inr (a := 1) (c := 30) h1 h2 (by decide) (by decide) (by decide) (by decide)
theorem RB_bmp {M : xM} {b : Nat → Int} (h : RB M b) : RB (xbump M 1 6) b := fun k hk => (bump_gi (by decide)).trans (h k hk)
theorem RB_out {M M1 : xM} {b : Nat → Int} {v : Value} (h : RB M b) (f : fr onYc M M1) : RB (xst M1 39 0 0 v) b := fun k hk => (gi_k (by decide)).trans (RB_Yc h f k hk)
theorem q_usage {M : xM} (hI : Inv M) (x y : Int32) : QR PT M (m_L_usage 0 x y 0 M) (m_M_usage 0 x y) := by
  obtain ⟨x, rfl, h1, h2⟩ := zi_ex x
  obtain ⟨y, rfl, h3, h4⟩ := zi_ex y
  have hw := hI.1.1
  have hBb := RB_bmp (RB_bk M)
  by_cases c : 0 ≤ x ∧ x < nR (bk M 0)
  · by_cases d : 0 ≤ y ∧ y ≤ 999
    · obtain ⟨r, rfl⟩ : ∃ t : Nat, x = (t : Int) := ⟨x.toNat, by omega⟩
      have hr : r < nR (bk M 0) := by omega
      obtain ⟨M1, e1, f1, d1, c1⟩ := cls_S hI
      have hB := RB_out (v := .long (Int32.toInt64 (zi (ldS (bk M 0) (allT (bk M 0)) (stB (bk M 0)) r y)))) (RB_bk M) f1
      obtain ⟨M2, e2, f2, d2⟩ := r_build (RB_9 (v := .int 0) hB) hw.1 hw.2.1
      refine QR_q (y := zi (ldS (bk M 0) (allT (bk M 0)) (stB (bk M 0)) r y)) (M2 := M2) hI f1 ?_ ?_ f2 trivial
      · rw [e_m_L_usage, e_m_C_usage, s_reqR hI.1.2 h1 h2, if_pos c, xbV_r, s_reqDay h3 h4, if_pos d, xbV_r, e1, xbR_r, s_usage c1 hw.1 d1 hr (by omega) (by omega), xbI_r, xhI_r, xck_01]
        rfl
      · rw [e_m_M_usage, r_isRes hB hw.1 h1 h2, xbI_r, decide_eq_true c, ite_bt, r_day h3 h4, xbI_r, decide_eq_true d, ite_bt, r_F0, e2, xbI_r, r_usage hw.1 d2 hr (by omega) (by omega), xbI_r]
    · refine QR_f (c := 2) (v := 0) hI (by decide) ?_ ?_ (fz_refl _)
      · rw [e_m_L_usage, e_m_C_usage, s_reqR hI.1.2 h1 h2, if_pos c, xbV_r, s_reqDay h3 h4, if_neg d, xbV_e, xhI_e, if_neg (by decide), if_pos rfl]
      · rw [e_m_M_usage, r_isRes hBb hw.1 h1 h2, xbI_r, decide_eq_true c, ite_bt, r_day h3 h4, xbI_r, decide_eq_false d, ite_bf, r_F2]
  · refine QR_f (c := 1) (v := 0) hI (by decide) ?_ ?_ (fz_refl _)
    · rw [e_m_L_usage, e_m_C_usage, s_reqR hI.1.2 h1 h2, if_neg c, xbV_e, xhI_e, if_pos rfl]
    · rw [e_m_M_usage, r_isRes hBb hw.1 h1 h2, xbI_r, decide_eq_false c, ite_bf, r_day h3 h4, xbI_r]
      by_cases d : 0 ≤ y ∧ y ≤ 999
      · rw [decide_eq_true d, ite_bt, r_F1]
      · rw [decide_eq_false d, ite_bf, r_F1]
def runP (b : Nat → Int) (x : Int) (t : Nat) : Bool := decide (stB b t ≤ x) && decide (x < stB b t + bD b t)
theorem q_runningCount {M : xM} (hI : Inv M) (x : Int32) : QR PT M (m_L_runningCount 0 x 0 M) (m_M_runningCount 0 x) := by
  obtain ⟨x, rfl, h1, h2⟩ := zi_ex x
  have hw := hI.1.1
  have hn := CP_n hI.1.2
  by_cases c : 0 ≤ x ∧ x ≤ 999
  · obtain ⟨M1, e1, f1, d1, c1⟩ := cls_S hI
    have hB := RB_out (v := .long (Int32.toInt64 (zi (cnt (runP (bk M 0) x) (nT (bk M 0)) : Nat)))) (RB_bk M) f1
    obtain ⟨M2, e2, f2, d2⟩ := r_build (RB_9 (v := .int 0) hB) hw.1 hw.2.1
    have hB2 := RB_B (RB_9 (v := .int 0) hB) f2
    have bd : ∀ t, t < nT (bk M 0) → 0 ≤ stB (bk M 0) t ∧ stB (bk M 0) t + bD (bk M 0) t ≤ 459 ∧ 1 ≤ bD (bk M 0) t ∧ bD (bk M 0) t ≤ 30 := fun t ht => by
      have a1 := stB_ok hw.1 ht
      have a2 := stB_480 hw.1 ht
      have a3 := hw.1.2.2.2.1 t ht
      omega
    refine QR_q (y := zi (cnt (runP (bk M 0) x) (nT (bk M 0)) : Nat)) (M2 := M2) hI f1 ?_ ?_ f2 trivial
    · rw [e_m_L_runningCount, e_m_C_runningCount, s_reqDay h1 h2, if_pos c, xbV_r, e1, xbR_r]
      have key : b_C_runningCount_10 0 (zi x) 0 0 0 M1 = rI (zi (cnt (runP (bk M 0) x) (nT (bk M 0)) : Nat)) M1 := by
        refine lp (B := fun i => b_C_runningCount_10 0 (zi x) 0 (zi (cnt (runP (bk M 0) x) i : Nat)) (zi (i : Nat)) M1) (n := nT (bk M 0)) (fun i hi => ?_) ?_ 0 (Nat.zero_le _)
        · show b_C_runningCount_10 0 (zi x) 0 (zi (cnt (runP (bk M 0) x) i : Nat)) (zi (i : Nat)) M1 = b_C_runningCount_10 0 (zi x) 0 (zi ((cnt (runP (bk M 0) x) i + (if runP (bk M 0) x i then 1 else 0) : Nat) : Int)) (zi ((i + 1 : Nat) : Int)) M1
          have := bd i hi
          rw [e_b_C_runningCount_10, CP_T c1, if_pos (zi_ltn hi (by omega)), xck_n (by omega) (by decide), zix (by omega), d1.2.2.1 i hi, s_runsOn c1 hi (by omega) (by omega) (by omega) (by omega) (by omega), xbI_r, ite_b, zi_suc i]
          show (if runP (bk M 0) x i = true then _ else _) = _
          cases runP (bk M 0) x i with
          | true => rw [if_pos rfl, if_pos rfl, zi_suc]
          | false => rw [if_neg (by decide), if_neg (by decide)]; rfl
        · show b_C_runningCount_10 0 (zi x) 0 (zi (cnt _ (nT (bk M 0)) : Nat)) (zi (nT (bk M 0) : Nat)) M1 = _
          rw [e_b_C_runningCount_10, CP_T c1, if_neg (zi_irr _)]
      rw [key, xhI_r, xck_01]
      rfl
    · rw [e_m_M_runningCount, r_day h1 h2, xbI_r, decide_eq_true c, ite_bt, r_F0, e2, xbI_r]
      refine lp (B := fun i => b_M_runningCount_23 0 (zi x) (zi (cnt (runP (bk M 0) x) i : Nat)) (zi (i : Nat)) M2) (n := nT (bk M 0)) (fun i hi => ?_) ?_ 0 (Nat.zero_le _)
      · show b_M_runningCount_23 0 (zi x) (zi (cnt (runP (bk M 0) x) i : Nat)) (zi (i : Nat)) M2 = b_M_runningCount_23 0 (zi x) (zi ((cnt (runP (bk M 0) x) i + (if runP (bk M 0) x i then 1 else 0) : Nat) : Int)) (zi ((i + 1 : Nat) : Int)) M2
        have := bd i hi
        rw [e_b_M_runningCount_23, xck_2, RB_T hB2 hw.1, if_pos (zi_ltn hi (by omega)), xck_n (by omega) (by decide), zix (by omega), (d2.2.1 i hi).1, zif (by omega) (by omega) (by omega) (by omega), r_fin hB2 hw.1 d2.2.1 hi, xbI_r, zif (by omega) (by omega) (by omega) (by omega), zi_suc i]
        unfold runP
        by_cases q : x < stB (bk M 0) i
        · rw [if_pos q, decide_eq_false (show ¬ stB (bk M 0) i ≤ x by omega), Bool.false_and, if_neg (by decide), zi_00, zi_add, Int.add_zero]; rfl
        · rw [if_neg q, decide_eq_true (show stB (bk M 0) i ≤ x by omega), Bool.true_and]
          by_cases q2 : x < stB (bk M 0) i + bD (bk M 0) i
          · rw [if_pos q2, decide_eq_true q2, if_pos rfl, zi_suc]
          · rw [if_neg q2, decide_eq_false q2, if_neg (by decide), zi_00, zi_add, Int.add_zero]; rfl
      · show b_M_runningCount_23 0 (zi x) (zi (cnt _ (nT (bk M 0)) : Nat)) (zi (nT (bk M 0) : Nat)) M2 = _
        rw [e_b_M_runningCount_23, xck_2, RB_T hB2 hw.1, if_neg (zi_irr _)]
  · refine QR_f (c := 1) (v := 0) hI (by decide) ?_ ?_ (fz_refl _)
    · rw [e_m_L_runningCount, e_m_C_runningCount, s_reqDay h1 h2, if_neg c, xbV_e, xhI_e, if_pos rfl]
    · rw [e_m_M_runningCount, r_day h1 h2, xbI_r, decide_eq_false c, ite_bf, r_F1]
theorem r_soon {M : xM} {b : Nat → Int} (h : RB M b) (hw : wS b) (hl : wL b) (hp : SP M b (allT b) (stB b)) {t : Nat} (ht : t < nT b) {x : Int} (h1 : 0 ≤ x) (h2 : x < 10000) : m_M_startsTooSoon 0 (zi t) (zi x) M = rI (bz (anyN (nT b) (fun f => bL b f t && decide (x < stB b f + bD b f)))) M := by
  have hn := wS_n hw
  rw [e_m_M_startsTooSoon]
  have step : ∀ i, i < nT b → b_M_startsTooSoon_3 0 (zi t) (zi x) (zi (i : Nat)) M = if (bL b i t && decide (x < stB b i + bD b i)) = true then rI (bz true) M else b_M_startsTooSoon_3 0 (zi t) (zi x) (zi ((i + 1 : Nat) : Int)) M := fun i hi => by
    have a1 := stB_ok hw hi
    have a2 := stB_480 hw hi
    have a3 := hw.2.2.2.1 i hi
    rw [e_b_M_startsTooSoon_3, xck_2, RB_T h hw, if_pos (zi_ltn hi (by omega)), r_link h hl (by omega) (by omega), xbI_r, ite_b, r_fin h hw hp hi, xbI_r, zif (by omega) (by omega) (by omega) (by omega), zi_suc, xnar_1]
    cases bL b i t with
    | false => rw [if_neg (by decide), Bool.false_and, if_neg (by decide)]
    | true =>
      rw [if_pos rfl, Bool.true_and]
      by_cases c : x < stB b i + bD b i
      · rw [if_pos c, decide_eq_true c, if_pos rfl]
      · rw [if_neg c, decide_eq_false c, if_neg (by decide)]
  have := lpAny (B := fun i : Nat => b_M_startsTooSoon_3 0 (zi t) (zi x) (zi (i : Nat)) M) (n := nT b) (fun f => bL b f t && decide (x < stB b f + bD b f)) (R1 := rI (bz true) M) (R2 := rI (bz false) M) (fun i hi q => (step i hi).trans (if_neg (by rw [q]; decide))) (fun i hi q => (step i hi).trans (if_pos q)) (by
    show b_M_startsTooSoon_3 0 (zi t) (zi x) (zi (nT b : Nat)) M = _
    rw [e_b_M_startsTooSoon_3, xck_2, RB_T h hw, if_neg (zi_irr _), xnar_0])
  refine Eq.trans this ?_
  cases anyN (nT b) (fun f => bL b f t && decide (x < stB b f + bD b f)) <;> rfl
theorem r_into {M : xM} {b : Nat → Int} (h : RB M b) (hw : wS b) (hl : wL b) (hp : SP M b (allT b) (stB b)) {t : Nat} (ht : t < nT b) {x : Int} (h1 : 0 ≤ x) (h2 : x < 10000) : m_M_runsInto 0 (zi t) (zi x) M = rI (bz (anyN (nT b) (fun s => bL b t s && decide (stB b s < x + bD b t)))) M := by
  have hn := wS_n hw
  have a4 := hw.2.2.2.1 t ht
  rw [e_m_M_runsInto]
  have step : ∀ i, i < nT b → b_M_runsInto_3 0 (zi t) (zi x) (zi (i : Nat)) M = if (bL b t i && decide (stB b i < x + bD b t)) = true then rI (bz true) M else b_M_runsInto_3 0 (zi t) (zi x) (zi ((i + 1 : Nat) : Int)) M := fun i hi => by
    have a1 := stB_ok hw hi
    have a2 := stB_480 hw hi
    have a3 := hw.2.2.2.1 i hi
    rw [e_b_M_runsInto_3, xck_2, RB_T h hw, if_pos (zi_ltn hi (by omega)), r_link h hl (by omega) (by omega), xbI_r, ite_b, r_D h (by omega), xbI_r, xck_n (by omega) (by decide), zix (by omega), (hp i hi).1, zi_add, zif (by omega) (by omega) (by omega) (by omega), zi_suc, xnar_1]
    cases bL b t i with
    | false => rw [if_neg (by decide), Bool.false_and, if_neg (by decide)]
    | true =>
      rw [if_pos rfl, Bool.true_and]
      by_cases c : stB b i < x + bD b t
      · rw [if_pos c, decide_eq_true c, if_pos rfl]
      · rw [if_neg c, decide_eq_false c, if_neg (by decide)]
  have := lpAny (B := fun i : Nat => b_M_runsInto_3 0 (zi t) (zi x) (zi (i : Nat)) M) (n := nT b) (fun s => bL b t s && decide (stB b s < x + bD b t)) (R1 := rI (bz true) M) (R2 := rI (bz false) M) (fun i hi q => (step i hi).trans (if_neg (by rw [q]; decide))) (fun i hi q => (step i hi).trans (if_pos q)) (by
    show b_M_runsInto_3 0 (zi t) (zi x) (zi (nT b : Nat)) M = _
    rw [e_b_M_runsInto_3, xck_2, RB_T h hw, if_neg (zi_irr _), xnar_0])
  refine Eq.trans this ?_
  cases anyN (nT b) (fun s => bL b t s && decide (stB b s < x + bD b t)) <;> rfl
theorem r_why {M : xM} {b : Nat → Int} (h : RB M b) (hw : wS b) (hl : wL b) (hs : RS M b) {t : Nat} (ht : t < nT b) {x : Int} (h1 : 0 ≤ x) (h2 : x < 10000) {k : xM → xR} : ∃ M', fz on36 M M' ∧ xbV (m_M_occupy 0 (zi t) (-1) M) (fun M50 => (xbI (m_M_of 0 (zi t) 8 M50) (fun r52 M51 => (if (zi x) < r52 then (rI 1 M51) else (xbI (m_M_startsTooSoon 0 (zi t) (zi x) M51) (fun r54 M53 => (if r54 = 0 then (xbI (m_M_runsInto 0 (zi t) (zi x) M53) (fun r56 M55 => (if r56 = 0 then (xbI (m_M_fits 0 (zi t) (zi x) M55) (fun r58 M57 => (if r58 = 0 then (rI 4 M57) else (rI 0 M57)))) else (rI 3 M55)))) else (rI 2 M53)))))))) = rI (zi (whyB b t x)) M' := by
  have hn := wS_n hw
  have a1 := stB_ok hw ht
  have a2 := stB_480 hw ht
  have a3 := hw.2.2.2.1 t ht
  have a5 := hw.2.2.2.2.1 t ht
  obtain ⟨M', e, f, u⟩ := r_occ h hw hs.2.1 ht (-1) hs.2.2 a1.1 (by omega)
  have h' := RB_36 h f
  have sp : SP M' b (allT b) (stB b) := fun t ht => ⟨(fz_gi f rfl).trans (hs.2.1 t ht).1, (hs.2.1 t ht).2⟩
  have at1 : allT b t = true := decide_eq_true ht
  have u2 : US M' b (fun r d => ldS b (but (allT b) t) (stB b) r d) := fun r d hr hd => by
    refine (u r d hr hd).trans (congrArg zi ?_)
    have := ldS_but ht at1 r (d : Int) (s := stB b)
    dsimp only
    rw [this]
    split <;> omega
  have fit := r_fits h' hw (P := allT b) (s := stB b) ht u2 (fun r hr y => ⟨fun hy => ldS_0 (fun s hs _ => by have := stB_480 hw hs; omega), ldS_rg hw hr _ _ y⟩) h1 (show x < 1000000 by omega)
  refine ⟨M', f, ?_⟩
  have e : m_M_occupy 0 (zi t) (-1) M = rV M' := e
  have mx : (x < mxF (fun f => bL b f t) (fun f => stB b f + bD b f) 0 (nT b)) = (anyN (nT b) (fun f => bL b f t && decide (x < stB b f + bD b f)) = true) := by
    rw [anyN_iff]
    apply propext
    constructor
    · intro q
      rcases mxF_at (fun f => bL b f t) (fun f => stB b f + bD b f) 0 (nT b) with e | ⟨i, hi, hp, e⟩
      · omega
      · exact ⟨i, hi, by rw [hp, Bool.true_and]; exact decide_eq_true (by omega)⟩
    · rintro ⟨i, hi, hp⟩
      rw [Bool.and_eq_true, decide_eq_true_iff] at hp
      have := mxF_g (P := fun f => bL b f t) (g := fun f => stB b f + bD b f) (a := 0) hi hp.1
      omega
  rw [e, xbV_r, r_E h' (by omega), xbI_r, zif (by omega) (by omega) (by omega) (by omega), r_soon h' hw hl sp ht h1 h2, xbI_r, ite_b, r_into h' hw hl sp ht h1 h2, xbI_r, ite_b, fit, xbI_r, ite_b]
  unfold whyB
  by_cases c1 : x < bE b t
  · rw [if_pos c1, if_pos c1]; rfl
  · rw [if_neg c1, if_neg c1]
    by_cases q : anyN (nT b) (fun f => bL b f t && decide (x < stB b f + bD b f)) = true
    · rw [if_pos q, if_pos (Eq.mpr mx q)]; rfl
    · rw [if_neg q, if_neg (fun z => q (Eq.mp mx z))]
      split
      · rfl
      · split <;> rfl
theorem q_whyNotOn {M : xM} (hI : Inv M) (x y : Int32) : QR PT M (m_L_whyNotOn 0 x y 0 M) (m_M_whyNotOn 0 x y) := by
  obtain ⟨x, rfl, h1, h2⟩ := zi_ex x
  obtain ⟨y, rfl, h3, h4⟩ := zi_ex y
  have hw := hI.1.1
  have hBb := RB_bmp (RB_bk M)
  by_cases c : 0 ≤ x ∧ x < nT (bk M 0)
  · by_cases d : 0 ≤ y ∧ y ≤ 999
    · obtain ⟨t, rfl⟩ : ∃ t : Nat, x = (t : Int) := ⟨x.toNat, by omega⟩
      have ht : t < nT (bk M 0) := by omega
      obtain ⟨M1, e1, f1, d1, c1⟩ := cls_S hI
      have hB := RB_out (v := .long (Int32.toInt64 (zi (whyB (bk M 0) t y)))) (RB_bk M) f1
      obtain ⟨M2, e2, f2, d2⟩ := r_build (RB_9 (v := .int 0) hB) hw.1 hw.2.1
      obtain ⟨M3, f3, e3⟩ := r_why (k := fun A => rV A) (RB_B (RB_9 (v := .int 0) hB) f2) hw.1 hw.2.1 d2 ht d.1 (show y < 10000 by omega)
      refine QR_q (y := zi (whyB (bk M 0) t y)) (M2 := M3) hI f1 ?_ ?_ (fz_trans f2 (fz_mono (fun k o s h => by
        unfold on36 at h
        rw [Bool.and_eq_true] at h
        unfold onB
        rw [h.1, Nat.eq_of_beq_eq_true h.2]; rfl) f3)) trivial
      · rw [e_m_L_whyNotOn, e_m_C_whyNotOn, s_reqT hI.1.2 h1 h2, if_pos c, xbV_r, s_reqDay h3 h4, if_pos d, xbV_r, e1, xbR_r, s_obst c1 hw.1 d1 ht (by omega) (by omega), xbI_r, xhI_r, xck_01]
        rfl
      · rw [e_m_M_whyNotOn, r_isTask hB hw.1 h1 h2, xbI_r, decide_eq_true c, ite_bt, r_day h3 h4, xbI_r, decide_eq_true d, ite_bt, r_F0, e2, xbI_r, e3]
    · refine QR_f (c := 2) (v := 0) hI (by decide) ?_ ?_ (fz_refl _)
      · rw [e_m_L_whyNotOn, e_m_C_whyNotOn, s_reqT hI.1.2 h1 h2, if_pos c, xbV_r, s_reqDay h3 h4, if_neg d, xbV_e, xhI_e, if_neg (by decide), if_pos rfl]
      · rw [e_m_M_whyNotOn, r_isTask hBb hw.1 h1 h2, xbI_r, decide_eq_true c, ite_bt, r_day h3 h4, xbI_r, decide_eq_false d, ite_bf, r_F2]
  · refine QR_f (c := 1) (v := 0) hI (by decide) ?_ ?_ (fz_refl _)
    · rw [e_m_L_whyNotOn, e_m_C_whyNotOn, s_reqT hI.1.2 h1 h2, if_neg c, xbV_e, xhI_e, if_pos rfl]
    · rw [e_m_M_whyNotOn, r_isTask hBb hw.1 h1 h2, xbI_r, decide_eq_false c, ite_bf, r_day h3 h4, xbI_r]
      by_cases d : 0 ≤ y ∧ y ≤ 999
      · rw [decide_eq_true d, ite_bt, r_F1]
      · rw [decide_eq_false d, ite_bf, r_F1]
