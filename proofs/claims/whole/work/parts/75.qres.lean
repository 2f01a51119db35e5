/-! calls about resources, calls without a number -/
def onIB (k o s : Nat) : Bool := onI k o s || (Nat.beq k 28 && Nat.beq o 0 && Nat.blt s 316) || (Nat.ble 2 k && Nat.ble k 9 && Nat.beq o 9)
theorem IB_I {M M' : xM} (f : fz onI M M') : fz onIB M M' := fz_mono (fun k o s h => by unfold onIB; rw [h]; rfl) f
theorem IB_P {M M' : xM} (f : fr (onP 9) M M') : fz onIB M M' := fz_mono (fun k o s h => by
  have h : onP 9 k o = true := h
  unfold onP at h
  unfold onIB
  rw [h, Bool.or_true]) (fr_fz f)
theorem IB_280 {M M' : xM} (f : fz on280 M M') : fz onIB M M' := fz_mono (fun k o s h => by
  unfold on280 at h
  unfold onIB
  rw [Bool.and_comm (Nat.beq k 28), h, Bool.or_true]; rfl) f
theorem onIB_28 {i k : Nat} (h : 1 ≤ i) : onIB 28 0 (316 * i + k) = false := by
  unfold onIB
  have : Nat.blt (316 * i + k) 316 = false := by
    cases e : Nat.blt (316 * i + k) 316 with
    | false => rfl
    | true =>
      have : 316 * i + k < 316 := Nat.le_of_ble_eq_true e
      omega
  rw [this]; rfl
theorem onIB_p {k o s : Nat} (h1 : 2 ≤ k) (h2 : k ≤ 9) (h3 : 1 ≤ o) (h4 : o ≠ 9) : onIB k o s = false := by
  unfold onIB
  rw [onI_p h1 h2 h3]
  have a : Nat.beq o 9 = false := by
    cases e : Nat.beq o 9 with
    | false => rfl
    | true => exact absurd (Nat.eq_of_beq_eq_true e) h4
  have c : Nat.beq k 28 = false := by
    cases e : Nat.beq k 28 with
    | false => rfl
    | true => have := Nat.eq_of_beq_eq_true e; omega
  rw [a, c, Bool.and_false]; rfl
theorem PLN_B {M M' : xM} {p i : Nat} (h : PLN M p i) (f : fz onIB M M') (hi : 1 ≤ i) (hp : 1 ≤ p) (hp9 : p ≠ 9) : PLN M' p i := by
  have e := bk_fz f (i := i) (fun k _ => onIB_28 hi)
  unfold PLN
  rw [e]
  exact ⟨h.1, CP_fz h.2 f (fun k s a b => onIB_p a b hp hp9)⟩
/-- the plan may change, all else stays -/
theorem Inv_B {M M' : xM} (h : Inv M) (f : fz onIB M M') (hP : PLN M' 9 0) : Inv M' := by
  obtain ⟨h1, ⟨c, w, g1, g2, g3, g4, g5, g6⟩, h3, ⟨n, i1, i2⟩, ⟨e1, e2⟩, ⟨len, t, t1, ⟨x1, x2, x3, x4⟩, t3, t4⟩, h7, h8⟩ := h
  have eo : gn M' 1 0 8 = gn M 1 0 8 := fz_gn f rfl
  refine ⟨hP, ⟨c, w, g1, g2, (fz_gi f rfl).trans g3, (fz_gi f rfl).trans g4, (fz_gi f rfl).trans g5, fun j hj => PLN_B (g6 j hj) f (by omega) (by omega) (by omega)⟩, fun s hs => ?_, ⟨n, ?_, ?_⟩, ⟨?_, ?_⟩, ⟨len, t, t1, ⟨?_, ?_, ?_, fun i => ?_⟩, (fz_gi f rfl).trans t3, fun i hi => (fz_gi f rfl).trans (t4 i hi)⟩, KC_fz h7 f (fun k o s q => ?_), GB_eq h8 (fun s => fz_gi f rfl)⟩
  · obtain ⟨fl, s1, s2, s3⟩ := h3 s hs
    exact ⟨fl, (fz_gi f rfl).trans s1, (fz_gi f rfl).trans s2, fun q => PLN_B (s3 q) f (by omega) (by omega) (by omega)⟩
  · rw [BB_fz f (fun _ => rfl)]; exact IN_fz i1 f rfl (fun _ => rfl)
  · rw [BB_fz f (fun _ => rfl)]; exact IR_fz i2 f rfl (fun _ => rfl)
  · rw [fz_gi f rfl, fz_gi f rfl]; exact e1
  · rw [fz_gi f rfl, fz_gi f rfl]; exact e2
  · rw [eo, fz_gn f rfl]; exact x1
  · rw [eo, fz_gn f rfl]; exact x2
  · rw [eo, fz_gi f rfl]; exact x3
  · rw [eo, fz_gi f rfl]; exact x4 i
  · rcases q with rfl | rfl | rfl | rfl | rfl | rfl | ⟨rfl | rfl | rfl | rfl, _⟩ <;> rfl
theorem onJ_280 {M M' : xM} (f : fz on280 M M') : fz onJ M M' := fz_mono (fun k o s h => by
  unfold on280 at h
  rw [Bool.and_eq_true, Bool.and_eq_true] at h
  rw [Nat.eq_of_beq_eq_true h.1.2]; rfl) f
theorem onJ_P9 {M M' : xM} {p : Nat} (f : fr (onP p) M M') : fz onJ M M' := fz_mono (fun k o s h => by
  have h : onP p k o = true := h
  unfold onP at h
  rw [Bool.and_eq_true, Bool.and_eq_true, Nat.ble_eq, Nat.ble_eq] at h
  exact onJ_t (by omega) (by omega)) (fr_fz f)
/-- both answer the same number -/
def QN (M : xM) (r : xR) (r' : xM → xR) : Prop := ∃ (v : Int32) (M1 M2 : xM), r = rI v M1 ∧ r' M1 = rI v M2 ∧ SF M M1 ∧ SF M1 M2 ∧ Inv M2 ∧ RM M M2 1 6
theorem QN_ext {M : xM} {r : xR} {r' r2 : xM → xR} (h : ∀ N, r' N = r2 N) (q : QN M r r2) : QN M r r' := by
  obtain ⟨v, M1, M2, h1, h2, h3⟩ := q
  exact ⟨v, M1, M2, h1, (h M1).trans h2, h3⟩
theorem QN_q {M M1 M2 : xM} {y : Int32} {r : xR} {r' : xM → xR} (hI : Inv M) (f : fr onYc M M1) (e : r = rI y M1) (e' : r' M1 = rI y M2) (g : fz onI M1 M2) (j : fz onJ M1 M2) : QN M r r' :=
  ⟨y, M1, M2, e, e', SF_J (onJ_Yc f), SF_J j, Inv_I hI (fz_trans (onI_Yc f) g), RM_le (RM_J (fz_trans (onJ_Yc f) j)) (by decide) (by decide)⟩
theorem QN_p {M M1 : xM} {y : Int32} {r : xR} {r' : xM → xR} (hI : Inv M) (f : fr onYc M M1) (e : r = rI y M1) (e' : r' M1 = rI y (xst M1 27 0 9 (.int 0))) : QN M r r' := QN_q hI f e e' (fz_st rfl) (fz_st rfl)
theorem QN_b {M M1 M2 : xM} {y : Int32} {r : xR} {r' : xM → xR} (hI : Inv M) (f : fr onYc M M1) (e : r = rI y M1) (e' : r' M1 = rI y M2) (g : fz onB (xst M1 27 0 9 (.int 0)) M2) : QN M r r' := QN_q hI f e e' (fz_trans (fz_st rfl) (onI_B g)) (fz_trans (fz_st rfl) (onJ_B g))
theorem RB_9 {M : xM} {b : Nat → Int} {v : Value} (h : RB M b) : RB (xst M 27 0 9 v) b := fun k hk => (gi_k (by decide)).trans (h k hk)
theorem q_rule {M : xM} (hI : Inv M) : QN M (m_C_rule 0 M) (m_M_rule 0) := by
  refine QN_p (y := zi (bk M 0 0)) hI (fr_refl M) ?_ ?_
  · rw [e_m_C_rule, CP_0 hI.1.2]
  · rw [e_m_M_rule, xck_0, RB_0 (RB_bk M), e_m_M_plain, xbI_r]
theorem q_resourceCount {M : xM} (hI : Inv M) : QN M (m_C_resourceCount 0 M) (m_M_resourceCount 0) := by
  refine QN_p (y := zi (nR (bk M 0))) hI (fr_refl M) ?_ ?_
  · rw [e_m_C_resourceCount, CP_R hI.1.2]
  · rw [e_m_M_resourceCount, xck_1, RB_R (RB_bk M) hI.1.1.1, e_m_M_plain, xbI_r]
theorem q_taskCount {M : xM} (hI : Inv M) : QN M (m_C_taskCount 0 M) (m_M_taskCount 0) := by
  refine QN_p (y := zi (nT (bk M 0))) hI (fr_refl M) ?_ ?_
  · rw [e_m_C_taskCount, CP_T hI.1.2]
  · rw [e_m_M_taskCount, xck_2, RB_T (RB_bk M) hI.1.1.1, e_m_M_plain, xbI_r]
theorem q_errorCode {M : xM} (hI : Inv M) : QN M (m_C_errorCode 0 M) (m_M_errorCode 0) := by
  refine QN_p (y := gi M 27 0 5) hI (fr_refl M) ?_ ?_
  · rw [e_m_C_errorCode, hI.2.2.2.2.1.1]
  · rw [e_m_M_errorCode, gi_s (by decide)]
theorem q_errorPosition {M : xM} (hI : Inv M) : QN M (m_C_errorPosition 0 M) (m_M_errorPosition 0) := by
  refine QN_p (y := gi M 27 0 6) hI (fr_refl M) ?_ ?_
  · rw [e_m_C_errorPosition, hI.2.2.2.2.1.2]
  · rw [e_m_M_errorPosition, gi_s (by decide)]
/-- sums by rows and by columns -/
theorem sm_add (f g : Nat → Int) (n : Nat) : sm (fun i => f i + g i) n = sm f n + sm g n := by
  induction n with
  | zero => rfl
  | succ n ih =>
    show sm _ n + (f n + g n) = (sm f n + f n) + (sm g n + g n)
    rw [ih]; omega
theorem sm_z (n : Nat) : sm (fun _ => 0) n = 0 := by
  induction n with
  | zero => rfl
  | succ n ih =>
    show sm _ n + 0 = 0
    rw [ih]; rfl
theorem sm_swap (h : Nat → Nat → Int) (n m : Nat) : sm (fun f => sm (fun t => h f t) m) n = sm (fun t => sm (fun f => h f t) n) m := by
  induction n with
  | zero => exact (sm_z m).symm
  | succ n ih =>
    show sm _ n + sm (fun t => h n t) m = sm (fun t => sm (fun f => h f t) n + h n t) m
    rw [sm_add, ih]
theorem sm_app (g : Nat → Int) (a : Nat) : ∀ n, sm g (a + n) = sm g a + sm (fun i => g (a + i)) n := by
  intro n
  induction n with
  | zero => show sm g a = sm g a + 0; omega
  | succ n ih =>
    show sm g (a + n) + g (a + n) = sm g a + (sm (fun i => g (a + i)) n + g (a + n))
    rw [ih]; omega
theorem sm_blk (g : Nat → Int) (k : Nat) : sm g (12 * k) = sm (fun f => sm (fun t => g (12 * f + t)) 12) k := by
  induction k with
  | zero => rfl
  | succ k ih =>
    rw [show 12 * (k + 1) = 12 * k + 12 by omega, sm_app, ih]
    rfl
theorem cnt_sm (P : Nat → Bool) (n : Nat) : ((cnt P n : Nat) : Int) = sm (fun i => if P i = true then 1 else 0) n := by
  induction n with
  | zero => rfl
  | succ n ih =>
    show ((cnt P n + (if P n then 1 else 0) : Nat) : Int) = sm _ n + (if P n = true then 1 else 0)
    rw [← ih]
    cases P n <;> simp
theorem sm_cut {f : Nat → Int} {n : Nat} : ∀ m, n ≤ m → (∀ i, n ≤ i → i < m → f i = 0) → sm f m = sm f n := by
  intro m
  induction m with
  | zero => intro h _; rw [show n = 0 by omega]
  | succ m ih =>
    intro h q
    by_cases e : n = m + 1
    · rw [e]
    · show sm f m + f m = _
      rw [ih (by omega) (fun i h1 h2 => q i h1 (by omega)), q m (by omega) (by omega)]
      omega
theorem lnk_sum {b : Nat → Int} (hn : nT b ≤ 12) (hl : wL b) : sm (fun j => b (172 + j)) 144 = sm (fun t => (cnt (fun f => bL b f t) 12 : Nat)) (nT b) := by
  rw [show 144 = 12 * 12 from rfl, sm_blk, sm_swap]
  have e : sm (fun t => sm (fun f => b (172 + (12 * f + t))) 12) 12 = sm (fun t => (cnt (fun f => bL b f t) 12 : Nat)) 12 := sm_congr (fun t ht => by
    rw [cnt_sm]
    refine sm_congr (fun f hf => ?_)
    rw [show 172 + (12 * f + t) = 172 + 12 * f + t by omega]
    unfold bL
    rcases (hl f t hf ht).1 with q | q
    · rw [q]; rfl
    · rw [q]; rfl)
  rw [e]
  exact sm_cut 12 hn (fun t h1 h2 => by
    have : cnt (fun f => bL b f t) 12 = cnt (fun f => bL b f t) 0 := cnt_cut 12 (by decide) (fun i _ g => bL_out hl g h2 (Or.inr h1))
    rw [this]; rfl)
theorem r_links {M : xM} {b : Nat → Int} (h : RB M b) : m_M_links 0 M = rI (zi (sm (fun j => b (172 + j)) 144)) M := by
  rw [e_m_M_links]
  refine lp (B := fun i => b_M_links_5 0 (zi (sm (fun j => b (172 + j)) i)) (zi (i : Nat)) M) (n := 144) (fun i hi => ?_) ?_ 0 (Nat.zero_le _)
  · show b_M_links_5 0 (zi (sm (fun j => b (172 + j)) i)) (zi (i : Nat)) M = b_M_links_5 0 (zi (sm (fun j => b (172 + j)) i + b (172 + i))) (zi ((i + 1 : Nat) : Int)) M
    rw [e_b_M_links_5, zi_144, zif (by omega) (by omega) (by decide) (by decide), if_pos (by omega), zi_172, zi_add, xck_z (by omega) (by omega) (by decide), zixz (by omega) (by omega), show ((172 : Int) + (i : Int)).toNat = 172 + i by omega, h _ (by omega), zi_suc, zi_add]
  · show b_M_links_5 0 (zi (sm (fun j => b (172 + j)) 144)) (zi ((144 : Nat) : Int)) M = _
    rw [e_b_M_links_5, zi_144, zif (by omega) (by omega) (by decide) (by decide), if_neg (by omega)]
theorem q_linkCount {M : xM} (hI : Inv M) : QN M (m_C_linkCount 0 M) (m_M_linkCount 0) := by
  refine QN_p (y := zi (sm (fun t => (cnt (fun f => bL (bk M 0) f t) 12 : Nat)) (nT (bk M 0)))) hI (fr_refl M) ?_ ?_
  · rw [e_m_C_linkCount, s_countLinks hI.1.2, xbI_r]
  · rw [e_m_M_linkCount, r_links (RB_bk M), xbI_r, e_m_M_plain, xbI_r, lnk_sum (CP_n hI.1.2) hI.1.1.2.1]
theorem q_projectLength {M : xM} (hI : Inv M) : QN M (m_C_projectLength 0 M) (m_M_projectLength 0) := by
  obtain ⟨M1, e1, f1, d1, c1⟩ := cls_D hI
  obtain ⟨M2, e2, f2, d2⟩ := r_dates (RB_9 (v := .int 0) (RB_Yc (RB_bk M) f1)) hI.1.1.1 hI.1.1.2.1
  refine QN_b (y := zi (etB (bk M 0))) (M2 := M2) hI f1 ?_ ?_ (B_E f2)
  · rw [e_m_C_projectLength, e1, xbR_r, d1.1]
  · rw [e_m_M_projectLength, e2, xbV_r, d2.1]
theorem q_makespan {M : xM} (hI : Inv M) : QN M (m_C_makespan 0 M) (m_M_makespan 0) := by
  obtain ⟨M1, e1, f1, d1, c1⟩ := cls_S hI
  obtain ⟨M2, e2, f2, d2⟩ := r_build (RB_Yc (RB_bk M) f1) hI.1.1.1 hI.1.1.2.1
  refine QN_q (y := zi (mkB (bk M 0))) (M2 := xst M2 27 0 9 (.int 0)) hI f1 ?_ ?_ (fz_step (onI_B f2) rfl) (fz_step (onJ_B f2) rfl)
  · rw [e_m_C_makespan, e1, xbR_r, d1.2.2.2]
  · rw [e_m_M_makespan, e2, xbI_r, e_m_M_plain, xbI_r]
theorem q_lowerBound {M : xM} (hI : Inv M) : QN M (m_C_lowerBound 0 M) (m_M_lowerBound 0) := by
  obtain ⟨M1, e1, f1, d1, c1⟩ := cls_D hI
  have hB := RB_9 (v := .int 0) (RB_Yc (RB_bk M) f1)
  obtain ⟨M2, e2, f2, d2⟩ := r_dates hB hI.1.1.1 hI.1.1.2.1
  refine QN_b (y := zi (lbB (bk M 0))) (M2 := M2) hI f1 ?_ ?_ (B_E f2)
  · rw [e_m_C_lowerBound, e1, xbR_r, s_least c1 hI.1.1.1 d1, xbI_r]
  · rw [e_m_M_lowerBound, e2, xbV_r, r_bound (RB_E hB f2) hI.1.1.1 d2, xbI_r]
theorem q_criticalCount {M : xM} (hI : Inv M) : QN M (m_C_criticalCount 0 M) (m_M_criticalCount 0) := by
  have hw := hI.1.1.1
  have hn := CP_n hI.1.2
  obtain ⟨M1, e1, f1, d1, c1⟩ := cls_D hI
  have hB := RB_9 (v := .int 0) (RB_Yc (RB_bk M) f1)
  obtain ⟨M2, e2, f2, d2⟩ := r_dates hB hI.1.1.1 hI.1.1.2.1
  have bd : ∀ t, t < nT (bk M 0) → 0 ≤ esB (bk M 0) t ∧ esB (bk M 0) t ≤ 459 ∧ esB (bk M 0) t ≤ lsB (bk M 0) t ∧ lsB (bk M 0) t ≤ 489 := fun t ht => by
    have b1 := esB_lo hw ht
    have b2 := esB_hi hw ht
    have b3 := lsB_lo hw ht
    have b4 := lsB_hi hw ht
    have b5 := etB_hi hw
    have b6 := hw.2.2.2.1 t ht
    omega
  refine QN_b (y := zi (cnt (fun t => decide (lsB (bk M 0) t = esB (bk M 0) t)) (nT (bk M 0)) : Nat)) (M2 := M2) hI f1 ?_ ?_ (B_E f2)
  · rw [e_m_C_criticalCount, e1, xbR_r]
    refine lp (B := fun i => b_C_criticalCount_8 0 0 (zi (cnt (fun t => decide (lsB (bk M 0) t = esB (bk M 0) t)) i : Nat)) (zi (i : Nat)) M1) (n := nT (bk M 0)) (fun i hi => ?_) ?_ 0 (Nat.zero_le _)
    · show b_C_criticalCount_8 0 0 (zi (cnt (fun t => decide (lsB (bk M 0) t = esB (bk M 0) t)) i : Nat)) (zi (i : Nat)) M1 = b_C_criticalCount_8 0 0 (zi ((cnt (fun t => decide (lsB (bk M 0) t = esB (bk M 0) t)) i + (if decide (lsB (bk M 0) i = esB (bk M 0) i) then 1 else 0) : Nat) : Int)) (zi ((i + 1 : Nat) : Int)) M1
      have := bd i hi
      rw [e_b_C_criticalCount_8, CP_T c1, if_pos (zi_ltn hi (by omega)), s_slack c1 d1 hi, xbI_r, zi_00, zife (by omega) (by omega) (by decide) (by decide), zi_suc i]
      by_cases c : lsB (bk M 0) i = esB (bk M 0) i
      · rw [if_pos (by omega), decide_eq_true c, if_pos rfl, zi_suc]
      · rw [if_neg (by omega), decide_eq_false c, if_neg (by decide)]; rfl
    · show b_C_criticalCount_8 0 0 (zi (cnt _ (nT (bk M 0)) : Nat)) (zi (nT (bk M 0) : Nat)) M1 = _
      rw [e_b_C_criticalCount_8, CP_T c1, if_neg (zi_irr _)]
  · rw [e_m_M_criticalCount, e2, xbV_r]
    refine lp (B := fun i => b_M_criticalCount_10 0 (zi (cnt (fun t => decide (lsB (bk M 0) t = esB (bk M 0) t)) i : Nat)) (zi (i : Nat)) M2) (n := nT (bk M 0)) (fun i hi => ?_) ?_ 0 (Nat.zero_le _)
    · show b_M_criticalCount_10 0 (zi (cnt (fun t => decide (lsB (bk M 0) t = esB (bk M 0) t)) i : Nat)) (zi (i : Nat)) M2 = b_M_criticalCount_10 0 (zi ((cnt (fun t => decide (lsB (bk M 0) t = esB (bk M 0) t)) i + (if decide (lsB (bk M 0) i = esB (bk M 0) i) then 1 else 0) : Nat) : Int)) (zi ((i + 1 : Nat) : Int)) M2
      have := bd i hi
      rw [e_b_M_criticalCount_10, xck_2, RB_T (RB_E hB f2) hw, if_pos (zi_ltn hi (by omega)), xck_n (by omega) (by decide), xck_n (by omega) (by decide), zix (by omega), (d2.2 i hi).1, (d2.2 i hi).2, zife (by omega) (by omega) (by omega) (by omega), zi_suc i]
      by_cases c : lsB (bk M 0) i = esB (bk M 0) i
      · rw [if_pos c, decide_eq_true c, if_pos rfl, zi_suc]
      · rw [if_neg c, decide_eq_false c, if_neg (by decide), zi_00, zi_add, Int.add_zero]; rfl
    · show b_M_criticalCount_10 0 (zi (cnt _ (nT (bk M 0)) : Nat)) (zi (nT (bk M 0) : Nat)) M2 = _
      rw [e_b_M_criticalCount_10, xck_2, RB_T (RB_E hB f2) hw, if_neg (zi_irr _)]
theorem q_capacity {M : xM} (hI : Inv M) (x : Int32) : QR PT M (m_L_capacity 0 x 0 M) (m_M_capacity 0 x) := by
  obtain ⟨x, rfl, h1, h2⟩ := zi_ex x
  refine QR_ext (fun N => e_m_M_capacity _ _ _) ?_
  rw [e_m_L_capacity, e_m_C_capacity]
  refine QU hI h1 h2 (fun t ht hx => ?_)
  subst hx
  have hr := CP_r hI.1.2
  refine ⟨zi (bC (bk M 0) t), M, ?_, fr_refl M, trivial, xck_01 _, fun N hN => ⟨N, ?_, fz_refl N⟩⟩
  · show xck _ _ _ = _
    rw [xck_n (by omega) (by decide), zix (by omega), CP_C hI.1.2 ht]
  · show xbI _ _ = _
    rw [r_cap hN (by omega), xbI_r]
theorem q_work {M : xM} (hI : Inv M) (x : Int32) : QR PT M (m_L_work 0 x 0 M) (m_M_work 0 x) := by
  obtain ⟨x, rfl, h1, h2⟩ := zi_ex x
  refine QR_ext (fun N => e_m_M_work _ _ _) ?_
  rw [e_m_L_work, e_m_C_work]
  refine QU hI h1 h2 (fun t ht hx => ?_)
  subst hx
  refine ⟨zi (wkB (bk M 0) t), M, ?_, fr_refl M, trivial, xck_01 _, fun N hN => ⟨N, ?_, fz_refl N⟩⟩
  · show xbI _ _ = _
    rw [s_workFor hI.1.2 ht, xbI_r]
  · show xbI _ _ = _
    rw [r_workFor hN hI.1.1.1 ht, xbI_r]
theorem q_overloadedDays {M : xM} (hI : Inv M) (x : Int32) : QR PT M (m_L_overloadedDays 0 x 0 M) (m_M_overloadedDays 0 x) := by
  obtain ⟨x, rfl, h1, h2⟩ := zi_ex x
  refine QR_ext (fun N => e_m_M_overloadedDays _ _ _) ?_
  rw [e_m_L_overloadedDays, e_m_C_overloadedDays]
  refine QU hI h1 h2 (fun t ht hx => ?_)
  subst hx
  obtain ⟨M1, e1, f1, d1, c1⟩ := cls_D hI
  refine ⟨zi (ovB (bk M 0) t : Nat), M1, ?_, f1, trivial, xck_01 _, fun N hN => ?_⟩
  · show xbR _ _ _ = _
    rw [e1, xbR_r, s_overl c1 hI.1.1.1 d1 ht, xbI_r]
  · obtain ⟨M2, e2, f2, d2⟩ := r_dates hN hI.1.1.1 hI.1.1.2.1
    refine ⟨M2, ?_, B_E f2⟩
    show xbV _ _ = _
    rw [e2, xbV_r, r_overl (RB_E hN f2) hI.1.1.1 d2 ht]
theorem q_peakUsage {M : xM} (hI : Inv M) (x : Int32) : QR PT M (m_L_peakUsage 0 x 0 M) (m_M_peakUsage 0 x) := by
  obtain ⟨x, rfl, h1, h2⟩ := zi_ex x
  refine QR_ext (fun N => e_m_M_peakUsage _ _ _) ?_
  rw [e_m_L_peakUsage, e_m_C_peakUsage]
  refine QU hI h1 h2 (fun t ht hx => ?_)
  subst hx
  obtain ⟨M1, e1, f1, d1, c1⟩ := cls_S hI
  refine ⟨zi (pkB (bk M 0) t), M1, ?_, f1, trivial, xck_01 _, fun N hN => ?_⟩
  · show xbR _ _ _ = _
    rw [e1, xbR_r, s_peak c1 hI.1.1.1 d1 ht, xbI_r]
  · obtain ⟨M2, e2, f2, d2⟩ := r_build hN hI.1.1.1 hI.1.1.2.1
    refine ⟨M2, ?_, f2⟩
    show xbI _ _ = _
    rw [e2, xbI_r, r_peak hI.1.1.1 d2 ht, xbI_r]
theorem q_demand {M : xM} (hI : Inv M) (x y : Int32) : QR PT M (m_L_demand 0 x y 0 M) (m_M_demand 0 x y) := by
  obtain ⟨x, rfl, h1, h2⟩ := zi_ex x
  obtain ⟨y, rfl, h3, h4⟩ := zi_ex y
  have hw := hI.1.1
  have hn := CP_n hI.1.2
  have hr := CP_r hI.1.2
  have hBb : RB (xbump M 1 6) (bk M 0) := fun k hk => (bump_gi (by decide)).trans (RB_bk M k hk)
  by_cases c : 0 ≤ x ∧ x < nT (bk M 0)
  · by_cases d : 0 ≤ y ∧ y < nR (bk M 0)
    · obtain ⟨t, rfl⟩ : ∃ t : Nat, x = (t : Int) := ⟨x.toNat, by omega⟩
      obtain ⟨r, rfl⟩ : ∃ t : Nat, y = (t : Int) := ⟨y.toNat, by omega⟩
      have hB : RB (xst M 39 0 0 (.long (Int32.toInt64 (zi (bU (bk M 0) t r))))) (bk M 0) := fun k hk => (gi_k (by decide)).trans (RB_bk M k hk)
      refine QR_q (y := zi (bU (bk M 0) t r)) hI (fr_refl M) ?_ ?_ (fz_refl _) trivial
      · rw [e_m_L_demand, e_m_C_demand, s_reqT hI.1.2 h1 h2, if_pos c, xbV_r, s_reqR hI.1.2 h3 h4, if_pos d, xbV_r, s_demandOf hI.1.2 (by omega) (by omega), xbI_r, xhI_r, xck_01]
        rfl
      · rw [e_m_M_demand, r_isTask hB hw.1 h1 h2, xbI_r, decide_eq_true c, ite_bt, r_isRes hB hw.1 h3 h4, xbI_r, decide_eq_true d, ite_bt, r_F0, r_U (RB_9 hB) (by omega) (by omega), xbI_r]
    · refine QR_f (c := 1) (v := 0) hI (by decide) ?_ ?_ (fz_refl _)
      · rw [e_m_L_demand, e_m_C_demand, s_reqT hI.1.2 h1 h2, if_pos c, xbV_r, s_reqR hI.1.2 h3 h4, if_neg d, xbV_e, xhI_e, if_pos rfl]
      · rw [e_m_M_demand, r_isTask hBb hw.1 h1 h2, xbI_r, decide_eq_true c, ite_bt, r_isRes hBb hw.1 h3 h4, xbI_r, decide_eq_false d, ite_bf, r_F1]
  · refine QR_f (c := 1) (v := 0) hI (by decide) ?_ ?_ (fz_refl _)
    · rw [e_m_L_demand, e_m_C_demand, s_reqT hI.1.2 h1 h2, if_neg c, xbV_e, xhI_e, if_pos rfl]
    · rw [e_m_M_demand, r_isTask hBb hw.1 h1 h2, xbI_r, decide_eq_false c, ite_bf, r_F1]
