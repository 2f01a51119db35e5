/-! the class's half of the part 39 of the proof of whole (wip/p65/mkhalf.py) -/
/-- links only between tasks -/
def wL (b : Nat → Int) : Prop := ∀ f t, f < 12 → t < 12 → (b (172 + 12 * f + t) = 0 ∨ b (172 + 12 * f + t) = 1) ∧ (b (172 + 12 * f + t) = 1 → f < nT b ∧ t < nT b)
def onK (k0 : Nat) : Nat → Nat → Bool := fun k _ => Nat.beq k k0
def onD : Nat → Nat → Bool := fun k o => (decide (10 ≤ k) && decide (k ≤ 14)) && Nat.beq o 0
theorem onD_k (k : Nat) (h : k < 10 ∨ 14 < k) (o : Nat) : onD k o = false := by
  unfold onD
  rcases h with h | h
  · rw [decide_eq_false (by omega : ¬ 10 ≤ k)]; rfl
  · rw [decide_eq_false (by omega : ¬ k ≤ 14), Bool.and_false]; rfl
theorem kP_lt {k : Nat} (h : kP k = true) : 2 ≤ k ∧ k ≤ 9 := by
  unfold kP at h
  rw [Bool.and_eq_true] at h
  exact ⟨of_decide_eq_true h.1, of_decide_eq_true h.2⟩
theorem CP_D0 {M M' : xM} {p : Nat} {b : Nat → Int} (h : CP M p b) (f : fr onD M M') : CP M' p b :=
  CP_fr h f (fun k hk => onD_k k (Or.inl (by have := kP_lt hk; omega)) p)
theorem s_isReady' {M : xM} {p : Nat} {b : Nat → Int} (h : CP M p b) (hl : wL b) {P : Nat → Bool} {t : Nat} (ht : t < nT b) : m_P_isReady p (zi t) (mk P) M = rI (bz (elS b P t)) M := by
  have hn := CP_n h
  rw [e_m_P_isReady, s_contains _ (by omega), xret_I, xbI_r, ite_b, xck_n (by omega) (by decide), zix (by omega), CP_L h ht, xnar_1, xnar_0]
  unfold elS
  cases hp : P t with
  | true => rfl
  | false =>
    simp only [mk_sub, Bool.false_eq_true, if_false, Bool.not_false, Bool.true_and]
    by_cases c : ∀ t_1, t_1 < 12 → bL b t_1 t = true → P t_1 = true
    · have : allN (nT b) (fun f => !bL b f t || P f) = true := allN_iff.mpr (fun i hi => by
        cases e : bL b i t with
        | false => rfl
        | true => rw [c i (by omega) e]; rfl)
      rw [if_pos c, this]
    · have : allN (nT b) (fun f => !bL b f t || P f) = false := by
        cases e : allN (nT b) (fun f => !bL b f t || P f) with
        | false => rfl
        | true =>
          exfalso
          refine c (fun f hf q => ?_)
          have l := ((hl f t hf (by omega)).2 (of_decide_eq_true q)).1
          have := allN_iff.mp e f l
          simpa [q] using this
      rw [if_neg c, this]
theorem s_sort {M : xM} {p : Nat} {b : Nat → Int} (h : CP M p b) (hw : wS b) (hl : wL b) : ∃ M', m_D_sortTasks 0 p M = rV M' ∧ fr onD M M' ∧ ∀ k, k < nT b → gi M' 11 0 k = zi (topO b k) := by
  have hn := CP_n h
  rw [e_m_D_sortTasks]
  refine lpM (B := fun i M' => b_D_sortTasks_5 0 p (mk (topT b i)) (zi (i : Nat)) M') (n := nT b) (fun i M' => fr onD M M' ∧ ∀ k, k < i → gi M' 11 0 k = zi (topO b k)) (fun r => ∃ M', r = rV M' ∧ fr onD M M' ∧ ∀ k, k < nT b → gi M' 11 0 k = zi (topO b k)) ?_ ?_ 0 M (Nat.zero_le _) ⟨fr_refl M, fun k hk => absurd hk (Nat.not_lt_zero k)⟩
  · intro i M' hi ⟨f, g⟩
    have h' := CP_D0 h f
    obtain ⟨o1, o2⟩ := topO_ok hw hi
    refine ⟨xst M' 11 0 i (.int (zi (topO b i))), ⟨fr_step f rfl, fun k hk => ?_⟩, ?_⟩
    · by_cases e : k = i
      · subst e; rw [gi_h]
      · rw [gi_s e]; exact g k (by omega)
    · show b_D_sortTasks_5 0 p (mk (topT b i)) (zi (i : Nat)) M' = _
      rw [e_b_D_sortTasks_5, CP_T h', if_pos (zi_ltn hi (by omega))]
      refine lp (B := fun t => b_D_sortTasks_12 0 p (mk (topT b i)) (zi (i : Nat)) (zi (t : Nat)) M') (n := topO b i) (fun t ht => ?_) ?_ 0 (Nat.zero_le _)
      · show b_D_sortTasks_12 0 p (mk (topT b i)) (zi (i : Nat)) (zi (t : Nat)) M' = _
        have : elS b (topT b i) t = false := fstN_no t ht
        rw [e_b_D_sortTasks_12, CP_T h', if_pos (zi_ltn (by omega) (by omega)), s_isReady' h' hl (by omega), xbI_r, ite_b, this, if_neg (by decide), zi_suc]
      · show b_D_sortTasks_12 0 p (mk (topT b i)) (zi (i : Nat)) (zi (topO b i : Nat)) M' = _
        rw [e_b_D_sortTasks_12, CP_T h', if_pos (zi_ltn (by omega) (by omega)), s_isReady' h' hl (by omega), xbI_r, ite_b, o2, if_pos rfl, xck_n (by omega) (by decide), zix (by omega), mk_shl (by omega), mk_or, zi_suc]
        rfl
  · intro M' ⟨f, g⟩
    refine ⟨M', ?_, f, g⟩
    show b_D_sortTasks_5 0 p (mk (topT b (nT b))) (zi (nT b : Nat)) M' = _
    rw [e_b_D_sortTasks_5, CP_T (CP_D0 h f), if_neg (zi_irr _)]
theorem s_findE {M : xM} {p : Nat} {b : Nat → Int} (h : CP M p b) (hw : wS b) {t : Nat} (ht : t < nT b) {ln : Int} (hln : gi M 10 0 4 = zi ln) (hl0 : 0 ≤ ln) (hl1 : ln < 1000000) (hp : ∀ f, f < nT b → bL b f t = true → gi M 13 0 f = zi (esB b f) ∧ gi M 12 0 f = mk (fun g => aft (nT b) (bL b) g f)) : m_D_findEarliest 0 p (zi t) M = rV (xst (xst (xst M 13 0 t (.int (zi (esB b t)))) 12 0 t (.int (mk (fun g => aft (nT b) (bL b) g t)))) 10 0 4 (.int (zi (imx ln (esB b t + bD b t))))) := by
  have hn := CP_n h
  have hd := hw.2.2.2.1
  have he := hw.2.2.2.2.1 t ht
  have hac := hw.2.2.2.2.2.2.2
  rw [e_m_D_findEarliest, xck_n (by omega) (by decide), zix (by omega), CP_E h ht]
  have key : b_D_findEarliest_10 0 p (zi t) (zi (mxF (fun f => bL b f t) (fun f => esB b f + bD b f) (bE b t) 0)) (mk (fun g => anyN 0 (fun f => bL b f t && (g == f || aft (nT b) (bL b) g f)))) (zi ((0 : Nat) : Int)) M = rV (xst (xst (xst M 13 0 t (.int (zi (esB b t)))) 12 0 t (.int (mk (fun g => aft (nT b) (bL b) g t)))) 10 0 4 (.int (zi (imx ln (esB b t + bD b t))))) := by
    refine lp (B := fun i => b_D_findEarliest_10 0 p (zi t) (zi (mxF (fun f => bL b f t) (fun f => esB b f + bD b f) (bE b t) i)) (mk (fun g => anyN i (fun f => bL b f t && (g == f || aft (nT b) (bL b) g f)))) (zi (i : Nat)) M) (n := nT b) (fun i hi => ?_) ?_ 0 (Nat.zero_le _)
    · show b_D_findEarliest_10 0 p (zi t) (zi (mxF _ _ (bE b t) i)) (mk (fun g => anyN i _)) (zi (i : Nat)) M = b_D_findEarliest_10 0 p (zi t) (zi (if bL b i t = true then imx (mxF (fun f => bL b f t) (fun f => esB b f + bD b f) (bE b t) i) (esB b i + bD b i) else mxF (fun f => bL b f t) (fun f => esB b f + bD b f) (bE b t) i)) (mk (fun g => anyN i (fun f => bL b f t && (g == f || aft (nT b) (bL b) g f)) || (bL b i t && (g == i || aft (nT b) (bL b) g i)))) (zi ((i + 1 : Nat) : Int)) M
      have b1 : mxF (fun f => bL b f t) (fun f => esB b f + bD b f) (bE b t) i ≤ 1000 := mxF_le (by omega) (fun j hj _ => by
        have := esB_hi hw (show j < nT b by omega)
        have := hd j (by omega)
        omega)
      have b2 := mxF_a (fun f => bL b f t) (fun f => esB b f + bD b f) (bE b t) i
      have b3 := esB_hi hw hi
      have b4 := esB_lo hw hi
      have b5 := hd i hi
      rw [e_b_D_findEarliest_10, CP_T h, if_pos (zi_ltn hi (by omega)), s_isLinked h (by omega) ht, xbI_r, ite_b, zi_suc]
      cases hb : bL b i t with
      | false => simp only [Bool.false_eq_true, if_false, Bool.false_and, Bool.or_false]
      | true =>
        obtain ⟨g1, g2⟩ := hp i hi hb
        rw [if_pos rfl, xck_n (by omega) (by decide), xck_n (by omega) (by decide), zix (by omega), g1, CP_D h hi, zi_add, s_max _ _ (by omega) (by omega) (by omega) (by omega), xret_I, xbI_r, xck_n (by omega) (by decide), g2, mk_shl (by omega), mk_or, mk_or, if_pos rfl]
        congr 1
        refine mk_ext (fun g _ => ?_)
        rw [Bool.true_and, Bool.or_comm (g == i)]
    · show b_D_findEarliest_10 0 p (zi t) (zi (mxF _ _ (bE b t) (nT b))) (mk (fun g => anyN (nT b) _)) (zi (nT b : Nat)) M = _
      have e1 : mxF (fun f => bL b f t) (fun f => esB b f + bD b f) (bE b t) (nT b) = esB b t := eS_eq hac ht
      have e2 : (mk (fun g => anyN (nT b) (fun f => bL b f t && (g == f || aft (nT b) (bL b) g f)))) = mk (fun g => aft (nT b) (bL b) g t) := mk_ext (fun g _ => (aft_all hac ht).symm)
      have b3 := esB_hi hw ht
      have b4 := esB_lo hw ht
      have b5 := hd t ht
      rw [e_b_D_findEarliest_10, CP_T h, if_neg (zi_irr _), e1, e2, xck_n (by omega) (by decide), xck_n (by omega) (by decide), xck_n (by omega) (by decide), zix (by omega), hln, CP_D h ht, zi_add, s_max _ _ (by omega) (by omega) (by omega) (by omega), xret_I, xbI_r]
  exact key
theorem s_findL {M : xM} {p : Nat} {b : Nat → Int} (h : CP M p b) (hw : wS b) {t : Nat} (ht : t < nT b) (hln : gi M 10 0 4 = zi (etB b)) (hp : ∀ s, s < nT b → bL b t s = true → gi M 14 0 s = zi (lsB b s)) : m_D_findLatest 0 p (zi t) M = rV (xst M 14 0 t (.int (zi (lsB b t)))) := by
  have hn := CP_n h
  have hd := hw.2.2.2.1
  have hac := hw.2.2.2.2.2.2.2
  have t1 := etB_lo b
  have t2 := etB_hi hw
  rw [e_m_D_findLatest, hln]
  refine lp (B := fun i => b_D_findLatest_6 0 p (zi t) (zi (mnF (fun s => bL b t s) (lsB b) (etB b) i)) (zi (i : Nat)) M) (n := nT b) (fun i hi => ?_) ?_ 0 (Nat.zero_le _)
  · show b_D_findLatest_6 0 p (zi t) (zi (mnF _ _ (etB b) i)) (zi (i : Nat)) M = b_D_findLatest_6 0 p (zi t) (zi (if bL b t i = true then imn (mnF (fun s => bL b t s) (lsB b) (etB b) i) (lsB b i) else mnF (fun s => bL b t s) (lsB b) (etB b) i)) (zi ((i + 1 : Nat) : Int)) M
    have b1 : 0 ≤ mnF (fun s => bL b t s) (lsB b) (etB b) i := le_mnF t1 (fun j hj _ => Int.le_trans (esB_lo hw (show j < nT b by omega)) (lsB_lo hw (by omega)))
    have b2 := mnF_a (fun s => bL b t s) (lsB b) (etB b) i
    have b3 := lsB_hi hw hi
    have b4 := Int.le_trans (esB_lo hw hi) (lsB_lo hw hi)
    have b5 := hd i hi
    rw [e_b_D_findLatest_6, CP_T h, if_pos (zi_ltn hi (by omega)), s_isLinked h (by omega) hi, xbI_r, ite_b, zi_suc]
    cases hb : bL b t i with
    | false => simp only [Bool.false_eq_true, if_false]
    | true => rw [if_pos rfl, xck_n (by omega) (by decide), zix (by omega), hp i hi hb, s_min _ _ (by omega) (by omega) (by omega) (by omega), xret_I, xbI_r, if_pos rfl]
  · show b_D_findLatest_6 0 p (zi t) (zi (mnF _ _ (etB b) (nT b))) (zi (nT b : Nat)) M = _
    have e1 : mnF (fun s => bL b t s) (lsB b) (etB b) (nT b) - bD b t = lsB b t := lS_eq hac ht
    rw [e_b_D_findLatest_6, CP_T h, if_neg (zi_irr _), xck_n (by omega) (by decide), xck_n (by omega) (by decide), zix (by omega), CP_D h ht, zi_sub, e1]
/-- the dates of a plan are there -/
def DT (M : xM) (b : Nat → Int) : Prop := gi M 10 0 4 = zi (etB b) ∧ ∀ k, k < nT b → gi M 11 0 k = zi (topO b k) ∧ gi M 12 0 k = mk (fun g => aft (nT b) (bL b) g k) ∧ gi M 13 0 k = zi (esB b k) ∧ gi M 14 0 k = zi (lsB b k)
theorem s_dates {M : xM} {p : Nat} {b : Nat → Int} (h : CP M p b) (hw : wS b) (hl : wL b) : ∃ M', m_D_compute 0 p M = rV M' ∧ fr onD M M' ∧ DT M' b := by
  have hn := CP_n h
  have hn1 := (wS_n hw).1
  have hd := hw.2.2.2.1
  obtain ⟨M1, h1, f1, o1⟩ := s_sort h hw hl
  rw [e_m_D_compute, h1, xbV_r]
  refine lpM (B := fun i M' => b_D_compute_9 0 p (zi (i : Nat)) M') (n := nT b) (fun i M' => fr onD M M' ∧ (∀ k, k < nT b → gi M' 11 0 k = zi (topO b k)) ∧ gi M' 10 0 4 = zi (lenI b i) ∧ ∀ k, k < i → gi M' 13 0 (topO b k) = zi (esB b (topO b k)) ∧ gi M' 12 0 (topO b k) = mk (fun g => aft (nT b) (bL b) g (topO b k))) (fun r => ∃ M', r = rV M' ∧ fr onD M M' ∧ DT M' b) ?_ ?_ 0 _ (Nat.zero_le _) ⟨fr_step f1 rfl, fun k hk => by rw [gi_k (by decide)]; exact o1 k hk, by rw [gi_h]; rfl, fun k hk => absurd hk (Nat.not_lt_zero k)⟩
  · intro i M' hi ⟨f, g1, g2, g3⟩
    have h' := CP_D0 h f
    obtain ⟨p1, p2⟩ := topO_ok hw hi
    have b1 : lenI b i ≤ 1000 := mxF_le (by decide) (fun j hj _ => by
      have q := (topO_ok hw (show j < nT b by omega)).1
      have := esB_hi hw q
      have := hd _ q
      omega)
    have b2 : 0 ≤ lenI b i := mxF_a _ _ _ _
    refine ⟨_, ?_, by
      show b_D_compute_9 0 p (zi (i : Nat)) M' = _
      rw [e_b_D_compute_9, CP_T h', if_pos (zi_ltn hi (by omega)), xck_n (by omega) (by decide), zix (by omega), g1 i hi, s_findE h' hw p1 g2 b2 (by omega) (fun f hf hlk => ?_), xbV_r, zi_suc]
      obtain ⟨j, j1, j2⟩ := topO_surj hw hf
      have := topO_lt hw j1 hi (by rw [j2]; exact hlk)
      have := g3 j this
      rw [j2] at this
      exact this⟩
    refine ⟨fr_step (fr_step (fr_step f rfl) rfl) rfl, fun k hk => ?_, ?_, fun k hk => ?_⟩
    · rw [gi_k (by decide), gi_k (by decide), gi_k (by decide)]; exact g1 k hk
    · rw [gi_h]; rfl
    · by_cases e : k = i
      · subst e
        rw [gi_k (by decide), gi_k (by decide), gi_h, gi_k (by decide), gi_h]
        exact ⟨rfl, rfl⟩
      · have ne : topO b k ≠ topO b i := fun q => e (topO_inj hw (by omega) hi q)
        rw [gi_k (by decide), gi_k (by decide), gi_s ne, gi_k (by decide), gi_s ne, gi_k (by decide)]
        exact g3 k (by omega)
  · intro M' ⟨f, g1, g2, g3⟩
    have h' := CP_D0 h f
    show ∃ M2, b_D_compute_9 0 p (zi (nT b : Nat)) M' = _ ∧ _
    rw [e_b_D_compute_9, CP_T h', if_neg (zi_irr _), zi_01, zi_sub]
    have g2 : gi M' 10 0 4 = zi (etB b) := by rw [g2, lenI_et hw]
    have key := lpM (B := fun j M2 => b_D_compute_28 0 p (zi ((nT b : Int) - 1 - (j : Nat))) M2) (n := nT b) (fun j M2 => fr onD M M2 ∧ gi M2 10 0 4 = zi (etB b) ∧ (∀ k, k < nT b → gi M2 11 0 k = zi (topO b k) ∧ gi M2 13 0 k = zi (esB b k) ∧ gi M2 12 0 k = mk (fun g => aft (nT b) (bL b) g k)) ∧ ∀ k, nT b ≤ k + j → k < nT b → gi M2 14 0 (topO b k) = zi (lsB b (topO b k))) (fun r => ∃ M', r = rV M' ∧ fr onD M M' ∧ DT M' b) (fun j M2 hj ⟨f2, k1, k2, k3⟩ => ?_) (fun M2 ⟨f2, k1, k2, k3⟩ => ?_) 0 M' (Nat.zero_le _) ⟨f, g2, fun k hk => ?_, fun k h1 h2 => by omega⟩
    · have e0 : (nT b : Int) - 1 - ((0 : Nat) : Int) = (nT b : Int) - 1 := by omega
      simp only [e0] at key
      exact key
    · have h2 := CP_D0 h f2
      have hk : nT b - 1 - j < nT b := by omega
      obtain ⟨p1, p2⟩ := topO_ok hw hk
      refine ⟨xst M2 14 0 (topO b (nT b - 1 - j)) (.int (zi (lsB b (topO b (nT b - 1 - j))))), ⟨fr_step f2 rfl, by rw [gi_k (by decide)]; exact k1, fun k hk => by rw [gi_k (by decide), gi_k (by decide), gi_k (by decide)]; exact k2 k hk, fun k q1 q2 => ?_⟩, ?_⟩
      · by_cases e : k = nT b - 1 - j
        · subst e; rw [gi_h]
        · have ne : topO b k ≠ topO b (nT b - 1 - j) := fun q => e (topO_inj hw q2 hk q)
          rw [gi_s ne]
          exact k3 k (by omega) q2
      · show b_D_compute_28 0 p (zi ((nT b : Int) - 1 - (j : Nat))) M2 = _
        have e1 : (nT b : Int) - 1 - (j : Nat) = ((nT b - 1 - j : Nat) : Int) := by omega
        rw [e_b_D_compute_28, zi_00, zif (by omega) (by omega) (by decide) (by decide), if_neg (by omega), xck_z (by omega) (by omega) (by decide), e1, zix (by omega), (k2 _ hk).1, s_findL h2 hw p1 k1 (fun s hs hlk => ?_), xbV_r, zi_m1, zi_add]
        · show b_D_compute_28 0 p _ _ = b_D_compute_28 0 p _ _
          rw [show (((nT b - 1 - j : Nat) : Int) + -1) = (nT b : Int) - 1 - ((j + 1 : Nat) : Int) by omega]
        · obtain ⟨i, j1, j2⟩ := topO_surj hw hs
          have := topO_lt hw hk j1 (by rw [j2]; exact hlk)
          have := k3 i (by omega) j1
          rw [j2] at this
          exact this
    · refine ⟨M2, ?_, f2, k1, fun k hk => ⟨(k2 k hk).1, (k2 k hk).2.2, (k2 k hk).2.1, ?_⟩⟩
      · show b_D_compute_28 0 p (zi ((nT b : Int) - 1 - (nT b : Nat))) M2 = _
        rw [e_b_D_compute_28, zi_00, zif (by omega) (by omega) (by decide) (by decide), if_pos (by omega)]
      · obtain ⟨i, j1, j2⟩ := topO_surj hw hk
        have := k3 i (by omega) j1
        rw [j2] at this
        exact this
    · refine ⟨g1 k hk, ?_⟩
      obtain ⟨i, j1, j2⟩ := topO_surj hw hk
      have := g3 i j1
      rw [j2] at this
      exact this
