/-! the law's own dates: by recursion along links -/
/-- a plan of the law, its number o, over the class's plan b -/
def QS (M : xM) (o : Nat) (b : Nat → Int) : Prop := CI M b ∧ (gn M 227 o 0 = 1 ∧ gn M 227 o 2 = 1) ∧ gi M 27 o 1 = zi (nT b) ∧ nT b ≤ 8
theorem xain1 (x : Int32) : xain (xsl 0) [(1, .ref 0), (0, .int x)] = true := rfl
theorem xain0 : xain (xsl 0) [(1, .ref 0)] = true := rfl
theorem xain2 (x y : Int32) : xain (xsl 0) [(1, .ref 0), (0, .int x), (0, .int y)] = true := rfl
theorem xain3 (x y z : Int32) : xain (xsl 0) [(1, .ref 0), (0, .int x), (0, .int y), (0, .int z)] = true := rfl
theorem xain4 (x y : Int32) : xain (xsl 4) [(0, .int x), (0, .int y)] = true := rfl
theorem acy_rk {b : Nat → Int} (h : wF b) (h8 : nT b ≤ 8) : ∃ rk : Nat → Nat, (∀ t, t < nT b → rk t ≤ 7) ∧ ∀ f t, f < nT b → t < nT b → bL b f t = true → rk f < rk t := by
  obtain ⟨rk, h1, h2⟩ := h.1.2.2.2.2.2.2.2
  exact ⟨rk, fun t ht => by have := h1 t ht; omega, h2⟩
theorem esB_eq {b : Nat → Int} (h : wF b) {t : Nat} (ht : t < nT b) : mxF (fun f => bL b f t) (fun f => esB b f + bD b f) (bE b t) (nT b) = esB b t := eS_eq h.1.2.2.2.2.2.2.2 ht
theorem lsB_eq {b : Nat → Int} (h : wF b) {t : Nat} (ht : t < nT b) : mnF (fun s => bL b t s) (lsB b) (etB b) (nT b) - bD b t = lsB b t := lS_eq h.1.2.2.2.2.2.2.2 ht
theorem q_earlyL {M : xM} {o j t : Nat} {b : Nat → Int} (hj : j ≤ 7) (h : QS M o b) (ht : t < nT b) (hrec : ∀ f, f < nT b → bL b f t = true → mEa (j + 1) o (zi (f : Nat)) M = rI (zi (esB b f)) M) : mEa j o (zi (t : Nat)) M = rI (zi (esB b t)) M := by
  have hw := h.1.1.1
  have hn := CI_n h.1
  have be := hw.2.2.2.2.1 t ht
  rw [eq_mEa hj, if_pos h.2.1.1, gdc h.1 (xain1 _), c_rel h.1 ht, xret_I, xbI_r]
  refine lp (B := fun i => bEa j o (zi (t : Nat)) (zi (mxF (fun f => bL b f t) (fun f => esB b f + bD b f) (bE b t) i)) (zi (i : Nat)) M) (n := nT b) (fun i hi => ?_) ?_ 0 (Nat.zero_le _)
  · show bEa j o (zi (t : Nat)) (zi (mxF (fun f => bL b f t) (fun f => esB b f + bD b f) (bE b t) i)) (zi (i : Nat)) M = bEa j o (zi (t : Nat)) (zi (if bL b i t = true then imx (mxF (fun f => bL b f t) (fun f => esB b f + bD b f) (bE b t) i) (esB b i + bD b i) else mxF (fun f => bL b f t) (fun f => esB b f + bD b f) (bE b t) i)) (zi ((i + 1 : Nat) : Int)) M
    have m1 := mxF_a (fun f => bL b f t) (fun f => esB b f + bD b f) (bE b t) i
    have m2 : mxF (fun f => bL b f t) (fun f => esB b f + bD b f) (bE b t) i ≤ 489 := mxF_le (by omega) (fun q hq _ => by
      have := esB_hi hw (show q < nT b by omega)
      have := hw.2.2.2.1 q (by omega)
      omega)
    have e1 := esB_lo hw hi
    have e2 := esB_hi hw hi
    have e3 := hw.2.2.2.1 i hi
    rw [eq_bEa hj]
    unfold bodyEa
    rw [h.2.2.1, if_pos (zi_ltn hi (by omega)), if_pos h.2.1.1, gdc h.1 (xain2 _ _), c_link h.1 hi ht, xret_I, xbI_r, ite_b, zi_suc]
    cases hb : bL b i t with
    | false => rw [if_neg (by decide), if_neg (by decide)]
    | true => rw [if_pos rfl, if_pos rfl, hrec i hi hb, xret_I, xbI_r, if_pos h.2.1.1, gdc h.1 (xain1 _), c_dur h.1 hi, xret_I, xbI_r, zi_add, gd4 (xain4 _ _), s_max _ _ (by omega) (by omega) (by omega) (by omega), xret_I, xbI_r]
  · show bEa j o (zi (t : Nat)) (zi (mxF (fun f => bL b f t) (fun f => esB b f + bD b f) (bE b t) (nT b))) (zi (nT b : Nat)) M = _
    rw [eq_bEa hj]
    unfold bodyEa
    rw [h.2.2.1, if_neg (zi_irr _), esB_eq h.1.1 ht]
theorem q_earlyA {b : Nat → Int} {o : Nat} {M : xM} {rk : Nat → Nat} (h : QS M o b) (hrk : ∀ f t, f < nT b → t < nT b → bL b f t = true → rk f < rk t) : ∀ k j t, j + k = 7 → rk t ≤ k → t < nT b → mEa j o (zi (t : Nat)) M = rI (zi (esB b t)) M := by
  intro k
  induction k with
  | zero =>
    intro j t hj hk ht
    refine q_earlyL (by omega) h ht (fun f hf hl => ?_)
    have := hrk f t hf ht hl
    omega
  | succ k ih =>
    intro j t hj hk ht
    refine q_earlyL (by omega) h ht (fun f hf hl => ih (j + 1) f (by omega) ?_ hf)
    have := hrk f t hf ht hl
    omega
theorem q_early {b : Nat → Int} {o : Nat} {M : xM} (h : QS M o b) {t : Nat} (ht : t < nT b) : m_Q_early_0 o (zi (t : Nat)) M = rI (zi (esB b t)) M := by
  obtain ⟨rk, h1, h2⟩ := acy_rk h.1.1 h.2.2.2
  exact q_earlyA h h2 7 0 t rfl (h1 t ht) ht
/-- .. with its length -/
def QL (M : xM) (o : Nat) (b : Nat → Int) : Prop := QS M o b ∧ gi M 27 o 3 = zi (etB b)
theorem q_lateL {M : xM} {o j t : Nat} {b : Nat → Int} (hj : j ≤ 7) (h : QL M o b) (ht : t < nT b) (hrec : ∀ f, f < nT b → bL b t f = true → mLa (j + 1) o (zi (f : Nat)) M = rI (zi (lsB b f)) M) : mLa j o (zi (t : Nat)) M = rI (zi (lsB b t)) M := by
  have hw := h.1.1.1.1
  have hn := CI_n h.1.1
  have t1 := etB_lo b
  have t2 := etB_hi hw
  rw [eq_mLa hj, h.2]
  refine lp (B := fun i => bLa j o (zi (t : Nat)) (zi (mnF (fun s => bL b t s) (lsB b) (etB b) i)) (zi (i : Nat)) M) (n := nT b) (fun i hi => ?_) ?_ 0 (Nat.zero_le _)
  · show bLa j o (zi (t : Nat)) (zi (mnF (fun s => bL b t s) (lsB b) (etB b) i)) (zi (i : Nat)) M = bLa j o (zi (t : Nat)) (zi (if bL b t i = true then imn (mnF (fun s => bL b t s) (lsB b) (etB b) i) (lsB b i) else mnF (fun s => bL b t s) (lsB b) (etB b) i)) (zi ((i + 1 : Nat) : Int)) M
    have m1 := mnF_a (fun s => bL b t s) (lsB b) (etB b) i
    have m2 : 0 ≤ mnF (fun s => bL b t s) (lsB b) (etB b) i := le_mnF t1 (fun q hq _ => Int.le_trans (esB_lo hw (show q < nT b by omega)) (lsB_lo hw (by omega)))
    have e1 := esB_lo hw hi
    have e2 := lsB_lo hw hi
    have e3 := lsB_hi hw hi
    have e4 := hw.2.2.2.1 i hi
    rw [eq_bLa hj]
    unfold bodyLa
    rw [h.1.2.2.1, if_pos (zi_ltn hi (by omega)), if_pos h.1.2.1.1, gdc h.1.1 (xain2 _ _), c_link h.1.1 ht hi, xret_I, xbI_r, ite_b, zi_suc]
    cases hb : bL b t i with
    | false => rw [if_neg (by decide), if_neg (by decide)]
    | true => rw [if_pos rfl, if_pos rfl, hrec i hi hb, xret_I, xbI_r, gd4 (xain4 _ _), s_min _ _ (by omega) (by omega) (by omega) (by omega), xret_I, xbI_r]
  · show bLa j o (zi (t : Nat)) (zi (mnF (fun s => bL b t s) (lsB b) (etB b) (nT b))) (zi (nT b : Nat)) M = _
    rw [eq_bLa hj]
    unfold bodyLa
    rw [h.1.2.2.1, if_neg (zi_irr _), if_pos h.1.2.1.1, gdc h.1.1 (xain1 _), c_dur h.1.1 ht, xret_I, xbI_r, zi_sub, lsB_eq h.1.1.1 ht]
theorem q_lateA {b : Nat → Int} {o : Nat} {M : xM} {rk : Nat → Nat} (h : QL M o b) (h7 : ∀ t, t < nT b → rk t ≤ 7) (hrk : ∀ f t, f < nT b → t < nT b → bL b f t = true → rk f < rk t) : ∀ k j t, j + k = 7 → j ≤ rk t → t < nT b → mLa j o (zi (t : Nat)) M = rI (zi (lsB b t)) M := by
  intro k
  induction k with
  | zero =>
    intro j t hj hk ht
    refine q_lateL (by omega) h ht (fun f hf hl => ?_)
    have := hrk t f ht hf hl
    have := h7 f hf
    omega
  | succ k ih =>
    intro j t hj hk ht
    refine q_lateL (by omega) h ht (fun f hf hl => ih (j + 1) f (by omega) ?_ hf)
    have := hrk t f ht hf hl
    omega
theorem q_late {b : Nat → Int} {o : Nat} {M : xM} (h : QL M o b) {t : Nat} (ht : t < nT b) : m_Q_late_0 o (zi (t : Nat)) M = rI (zi (lsB b t)) M := by
  obtain ⟨rk, h1, h2⟩ := acy_rk h.1.1.1 h.1.2.2.2
  exact q_lateA h h1 h2 7 0 t rfl (Nat.zero_le _) ht
