/-! .. its tasks -/
theorem y_dem {o p : Nat} {B : Nat → Int} {n : Nat} {b0 : Nat → Int} {t : Nat} (hQ : wQ b0 t) (ht : nT b0 = t) (ht2 : t < 12) {qd : Nat → Nat} (H : ∀ r, r < nR b0 → numE B n (qd r) 0 (bC b0 r) = 0 ∧ tE B n (qd r) = qd (r + 1)) : ∀ j k M b, k + j = nR b0 → CT M o B n (qd k) → CP M p b0 → IPT M p b0 b t k → ∃ M1 b1, b_U_readDemands_3 o p (zi (t : Nat)) (zi (k : Nat)) M = rI (bz true) M1 ∧ fz (onC8 o p) M M1 ∧ CT M1 o B n (qd (nR b0)) ∧ CP M1 p b0 ∧ IPT M1 p b0 b1 t (nR b0) ∧ (∀ f, f < 12 → b1 (172 + 12 * f + t) = b (172 + 12 * f + t)) ∧ pk b1 (28 + 12 * t) = pk b (28 + 12 * t) := by
  have eR := wN_R hQ.1
  intro j
  induction j with
  | zero =>
    intro k M b hk hC hP hI
    have e : k = nR b0 := by omega
    subst e
    rw [e_b_U_readDemands_3, CP_R hP, if_neg (zi_irr _), xnar_1]
    exact ⟨M, b, rfl, fz_refl M, hC, hP, hI, fun _ _ => rfl, rfl⟩
  | succ j ih =>
    intro k M b hk hC hP hI
    have hkr : k < nR b0 := by omega
    have ag := hI.1
    have cap := hQ.2.2.1 k hkr
    have eC : bC b k = bC b0 k := agT_C ag (by omega)
    have eb : zi (t : Int) * (3 : Int32) + zi (k : Int) = zi ((3 * t + k : Nat) : Int) := by
      rw [zi_03, zi_mul, zi_add]; exact congrArg zi (by omega)
    obtain ⟨M1, e1, f1, t1, q1⟩ := tk_ok (s_number hC (lo := 0) (hi := bC b0 k) (by omega) (by omega)) (H k hkr).1
    rw [(H k hkr).2] at t1
    have vb := numE_ok (H k hkr).1
    have f2 : fz (onPz p) M1 (xst M1 9 p (3 * t + k) (.int (zi (numV B n (qd k))))) := fz_st (onPz_t (by decide) (by decide))
    have hP1 := CP_8 hP f1
    have hI1 := IPT_8 hI f1
    have hP2 : CP (xst M1 9 p (3 * t + k) (.int (zi (numV B n (qd k))))) p b0 := by
      refine CP_ext hP1 ⟨fun _ h => h, rfl, by omega⟩ ⟨?_, ?_, ?_⟩ (fun s hs => ?_) (fun r hr => ?_) (fun s r hs hr => ?_)
      · rw [gi_k (by decide)]; exact CP_0 hP1
      · rw [gi_k (by decide)]; exact CP_R hP1
      · rw [gi_k (by decide)]; exact CP_T hP1
      · rw [gi_k (by decide : 6 ≠ 9), gi_k (by decide : 7 ≠ 9), gi_k (by decide : 8 ≠ 9), gl_k (by decide)]
        exact ⟨CP_D hP1 hs, CP_E hP1 hs, CP_L hP1 hs, CP_N hP1 hs⟩
      · rw [gi_k (by decide), gl_k (by decide)]
        exact ⟨CP_C hP1 hr, CP_M hP1 hr⟩
      · rw [gi_s (by omega)]; exact CP_U hP1 hs hr
    have pkE : pk (upI b (37 + 12 * t + k) (numV B n (qd k))) (28 + 12 * t) = pk b (28 + 12 * t) := by
      have := hI1.2.1.1
      exact pk_congr (upI_n (by omega)) (fun i hi => upI_n (by omega))
    have hI2 : IPT (xst M1 9 p (3 * t + k) (.int (zi (numV B n (qd k))))) p b0 (upI b (37 + 12 * t + k) (numV B n (qd k))) t (k + 1) := by
      obtain ⟨h1, h2, h3, h4, h5, h6, ⟨h7, h8, h9, h10⟩, h11⟩ := hI1
      refine ⟨agT_up h1 (by omega) (Or.inl (by omega)), nmB_congr h2 (upI_n (by omega)) (fun i hi => upI_n (by omega)), by rw [up_D (by omega)]; exact h3, by rw [up_E (by omega)]; exact h4, fun r hr => ?_, fun f hf => by rw [upI_n (by omega)]; exact h6 f hf, ⟨?_, ?_, ?_, ?_⟩, fun r hr => ?_⟩
      · rw [up_C (by omega)]
        by_cases e : r = k
        · subst e
          have : bU (upI b (37 + 12 * t + r) (numV B n (qd r))) t r = numV B n (qd r) := upI_h _ _ _
          rw [this, eC]; exact vb
        · rw [up_U (by omega)]; exact h5 r (by omega)
      · rw [gl_k (by decide), h7]
        exact pkE.symm
      · rw [gi_k (by decide), up_D (by omega)]; exact h8
      · rw [gi_k (by decide), up_E (by omega)]; exact h9
      · rw [gi_k (by decide), h10]
        exact mk_ext (fun f hf => (up_L (by omega)).symm)
      · by_cases e : r = k
        · subst e
          rw [gi_h]; exact congrArg zi (upI_h _ _ _).symm
        · rw [gi_s (by omega), up_U (by omega)]; exact h11 r (by omega)
    obtain ⟨M3, b3, e3, g3, c3, p3, i3, l3, n3⟩ := ih (k + 1) _ _ (by omega) (CT_P t1 f2) hP2 hI2
    have e1 : m_T_takeNumber o 0 (zi (bC b0 k)) M = rI (bz true) M1 := e1
    refine ⟨M3, b3, ?_, fz_trans (onC_8 f1) (fz_trans (onC8_P f2) g3), c3, p3, i3, fun f hf => by rw [l3 f hf, upI_n (by omega)], n3.trans pkE⟩
    rw [e_b_U_readDemands_3, CP_R hP, if_pos (zi_ltn hkr (by omega)), xck_n (by omega) (by decide), zix (by omega), CP_C hP hkr, e1, xbI_r, ite_bt, eb, xck_n (by omega) (by decide), zix (by omega), q1.1, zi_suc]
    exact e3
set_option maxHeartbeats 1000000 in
/-- a link -/
theorem y_pred {M : xM} {o p : Nat} {B : Nat → Int} {n pos q1 c x f k : Nat} {b0 b : Nat → Int} {t : Nat} (hQ : wQ b0 t) (ht : nT b0 = t) (ht2 : t < 12) (hC : CT M o B n pos) (hP : CP M p b0) (hI : IPT M p b0 b t (nR b0)) (hx : x < t) (hl : bL b x t = false) (hc : c < 12) (h0 : tT B n pos = 0) (hf : tF B n pos = f) (hk : tE B n pos = f + k) (hq : f + k = q1) (hfd : fnd (fun j => decide (pk b0 (28 + 12 * j) = pw B f k)) t = (x : Int)) : ∃ M1, b_U_readLinks_11 o p (zi (t : Nat)) (zi (c : Nat)) M = b_U_readLinks_11 o p (zi (t : Nat)) (zi ((c + 1 : Nat) : Int)) M1 ∧ fz (onC8 o p) M M1 ∧ CT M1 o B n q1 ∧ CP M1 p b0 ∧ IPT M1 p b0 (upI b (172 + 12 * x + t) 1) t (nR b0) ∧ pk (upI b (172 + 12 * x + t) 1) (28 + 12 * t) = pk b (28 + 12 * t) := by
  have eR := wN_R hQ.1
  obtain ⟨w1, w2, w3⟩ := TC_w hC.2.1 h0
  rw [hf, hk, Nat.add_sub_cancel_left] at w1 w2 w3
  have tn := s_taskNamed hP (pw B f k)
  rw [ht, hfd] at tn
  have kn : knE B n pos (x : Int) = 0 := by unfold knE; rw [if_pos h0, if_neg (by omega)]
  obtain ⟨M2, e2, _, g2, _⟩ := s_isKnown hC (x := (x : Int)) (by omega)
  rw [g2 kn, kn] at e2
  have e2 : m_T_isAtKnownName o (zi (x : Nat)) M = rI (bz true) M := e2
  have row := hI.2.2.2.2.2.2.1.2.2.2
  have sl : m_P_isLinked p (zi (x : Nat)) (zi (t : Nat)) M = rI (bz false) M := by
    rw [e_m_P_isLinked, xck_n (by omega) (by decide), zix (by omega), row, s_contains _ (by omega), xret_I, xbI_r, hl, xnar_b]
  have esh : ((1 : Int32) <<< (zi (x : Nat) &&& 31) : Int32) = mk (fun g => g == x) := mk_shl (by omega)
  have em : mk (fun f => bL b f t) ||| mk (fun g => g == x) = mk (fun g => if g = x then true else bL b g t) := by
    rw [mk_or, mk_put]
  have f3 : fz (onPz p) M (xst M 8 p t (.int (mk (fun g => if g = x then true else bL b g t)))) := fz_st (onPz_t (by decide) (by decide))
  obtain ⟨M4, e4, f4, t4⟩ := s_adv (CT_P hC f3)
  rw [hk, hq] at t4
  have pkE : pk (upI b (172 + 12 * x + t) 1) (28 + 12 * t) = pk b (28 + 12 * t) := by
    have := hI.2.1.1
    exact pk_congr (upI_n (by omega)) (fun k hk => upI_n (by omega))
  have hP3 : CP (xst M 8 p t (.int (mk (fun g => if g = x then true else bL b g t)))) p b0 := by
    refine CP_ext hP ⟨fun _ h => h, rfl, by omega⟩ ⟨?_, ?_, ?_⟩ (fun s hs => ?_) (fun r hr => ?_) (fun s r hs hr => ?_)
    · rw [gi_k (by decide)]; exact CP_0 hP
    · rw [gi_k (by decide)]; exact CP_R hP
    · rw [gi_k (by decide)]; exact CP_T hP
    · rw [gi_k (by decide : 6 ≠ 8), gi_k (by decide : 7 ≠ 8), gi_s (by omega), gl_k (by decide)]
      exact ⟨CP_D hP hs, CP_E hP hs, CP_L hP hs, CP_N hP hs⟩
    · rw [gi_k (by decide), gl_k (by decide)]
      exact ⟨CP_C hP hr, CP_M hP hr⟩
    · rw [gi_k (by decide)]; exact CP_U hP hs hr
  have hI3 : IPT (xst M 8 p t (.int (mk (fun g => if g = x then true else bL b g t)))) p b0 (upI b (172 + 12 * x + t) 1) t (nR b0) := by
    obtain ⟨h1, h2, h3, h4, h5, h6, ⟨h7, h8, h9, h10⟩, h11⟩ := hI
    refine ⟨agT_up h1 (by omega) (Or.inr ⟨x, by omega, rfl⟩), nmB_congr h2 (upI_n (by omega)) (fun k hk => upI_n (by omega)), by rw [up_D (by omega)]; exact h3, by rw [up_E (by omega)]; exact h4, fun r hr => by rw [up_U (by omega), up_C (by omega)]; exact h5 r hr, fun f hf => ?_, ⟨?_, ?_, ?_, ?_⟩, fun r hr => ?_⟩
    · by_cases e : f = x
      · subst e
        rw [upI_h]
        exact ⟨Or.inr rfl, fun _ => hx⟩
      · rw [upI_n (by omega)]; exact h6 f hf
    · rw [gl_k (by decide), h7]
      exact pkE.symm
    · rw [gi_k (by decide), up_D (by omega)]; exact h8
    · rw [gi_k (by decide), up_E (by omega)]; exact h9
    · rw [gi_h]
      refine mk_ext (fun g hg => ?_)
      by_cases e : g = x
      · rw [if_pos e, e]
        show true = decide (upI _ _ _ _ = 1)
        rw [upI_h]; rfl
      · rw [if_neg e, up_L (by omega)]
    · rw [gi_k (by decide), up_U (by omega)]; exact h11 r hr
  refine ⟨M4, ?_, fz_trans (onC8_P f3) (onC_8 (onT_8 f4)), t4, CP_8 hP3 (onT_8 f4), IPT_8 hI3 (onT_8 f4), pkE⟩
  rw [e_b_U_readLinks_11]
  by_cases z : c = 0
  · subst z
    rw [if_pos (show zi ((0 : Nat) : Int) = (0 : Int32) from rfl), w1, tn, xbI_r, e2, xbI_r, ite_bt, sl, xbI_r, ite_bf, xck_n (by omega) (by decide), xck_n (by omega) (by decide), zix (by omega), row, esh, em, e4, xbV_r, zi_suc]
  · rw [zi_00, zife (by omega) (by omega) (by decide) (by decide), if_neg (by omega), zi_12, zif (by decide) (by decide) (by omega) (by omega), if_neg (by omega), if_pos (by rw [hC.2.1.2.2.2.1, h0]), ← zi_00, w1, tn, xbI_r, e2, xbI_r, ite_bt, sl, xbI_r, ite_bf, xck_n (by omega) (by decide), xck_n (by omega) (by decide), zix (by omega), row, esh, em, e4, xbV_r, zi_suc]
theorem y_lend {M : xM} {o p t q c : Nat} {B : Nat → Int} {n : Nat} (h : CT M o B n q) (hc : 1 ≤ c) (hc2 : c ≤ 12) (H : tT B n q ≠ 0) : b_U_readLinks_11 o p (zi (t : Nat)) (zi (c : Nat)) M = rI (bz true) M := by
  rw [e_b_U_readLinks_11, zi_00, zife (by omega) (by omega) (by decide) (by decide), if_neg (by omega), zi_12, zif (by decide) (by decide) (by omega) (by omega), if_neg (by omega), if_neg (fun q => H (by rw [← h.2.1.2.2.2.1]; exact q)), xnar_1]
/-- the links: a list of (task, place of its name's end); the names' codes by V -/
def lky (B : Nat → Int) (n t : Nat) (V : Nat → Int64) (q : Nat) (L : List (Nat × Nat)) : Prop := match L with
  | [] => tT B n q ≠ 0
  | (x, q1) :: r => (tT B n q = 0 ∧ x < t ∧ tF B n q ≤ q1 ∧ tE B n q = q1 ∧ pw B (tF B n q) (q1 - tF B n q) = V x) ∧ lky B n t V q1 r
def lkye (q : Nat) (L : List (Nat × Nat)) : Nat := match L with
  | [] => q
  | (_, q1) :: r => lkye q1 r
theorem y_links {o p t : Nat} {B : Nat → Int} {n : Nat} {b0 : Nat → Int} {V : Nat → Int64} (hQ : wQ b0 t) (ht : nT b0 = t) (ht2 : t < 12) (hV : ∀ j, j < t → pk b0 (28 + 12 * j) = V j) (hinj : ∀ i j, i < t → j < t → V i = V j → i = j) : ∀ (L : List (Nat × Nat)) (M : xM) (q c : Nat) (b : Nat → Int), CT M o B n q → CP M p b0 → IPT M p b0 b t (nR b0) → c + L.length ≤ 12 → (1 ≤ c ∨ L ≠ []) → (∀ x, x ∈ L.map Prod.fst → bL b x t = false) → (L.map Prod.fst).Nodup → lky B n t V q L → ∃ M1 b1, b_U_readLinks_11 o p (zi (t : Nat)) (zi (c : Nat)) M = rI (bz true) M1 ∧ fz (onC8 o p) M M1 ∧ CT M1 o B n (lkye q L) ∧ CP M1 p b0 ∧ IPT M1 p b0 b1 t (nR b0) ∧ pk b1 (28 + 12 * t) = pk b (28 + 12 * t) := by
  intro L
  induction L with
  | nil =>
    intro M q c b h hP hI hc h1 _ _ H
    exact ⟨M, b, y_lend h (by rcases h1 with a | a; exact a; exact absurd rfl a) (by simpa using hc) H, fz_refl M, h, hP, hI, rfl⟩
  | cons a r ih =>
    intro M q c b h hP hI hc h1 h2 h3 H
    obtain ⟨x, q1⟩ := a
    obtain ⟨⟨g1, g2, g3, g4, g5⟩, H2⟩ := H
    have hc : c + (r.length + 1) ≤ 12 := hc
    have hx := h2 x List.mem_cons_self
    have h3 : x ∉ r.map Prod.fst ∧ (r.map Prod.fst).Nodup := List.nodup_cons.mp h3
    have hfd : fnd (fun j => decide (pk b0 (28 + 12 * j) = pw B (tF B n q) (q1 - tF B n q))) t = (x : Int) := by
      have e : fnd (fun j => decide (pk b0 (28 + 12 * j) = pw B (tF B n q) (q1 - tF B n q))) t = fnd (fun j => decide (V j = V x)) t := fnd_congr (fun j hj => by rw [hV j hj, g5])
      rw [e]
      by_cases c1 : fnd (fun j => decide (V j = V x)) t = -1
      · have := fnd_no c1 x g2
        rw [decide_eq_true rfl] at this
        cases this
      · obtain ⟨i, i1, i2, i3⟩ := fnd_ok c1
        rw [i2, hinj i x i1 g2 (of_decide_eq_true i3)]
    obtain ⟨M1, e1, f1, c1, p1, i1, n1⟩ := y_pred (c := c) (f := tF B n q) (k := q1 - tF B n q) (q1 := q1) hQ ht ht2 h hP hI g2 hx (by omega) g1 rfl (by omega) (by omega) hfd
    obtain ⟨M2, b2, e2, f2, c2, p2, i2, n2⟩ := ih M1 q1 (c + 1) _ c1 p1 i1 (by omega) (Or.inl (by omega)) (fun y hy => by
      have ne : ¬ y = x := fun e => h3.1 (e ▸ hy)
      have := h2 y (List.mem_cons_of_mem _ hy)
      unfold bL at this ⊢
      rw [upI_n (by omega)]
      exact this) h3.2 H2
    exact ⟨M2, b2, e1.trans e2, fz_trans f1 f2, c2, p2, i2, n2.trans n1⟩
