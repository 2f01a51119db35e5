/-! both read a task: its demands -/
/-- both come to an end of a part, behind which the reference goes on -/
def PK (o p : Nat) (M M' : xM) (r r' : xR) (K : xM → xR) (G : xM → xM → Prop) : Prop := ∃ (ok : Bool) (M1 M1' : xM), r = rI (bz ok) M1 ∧ fz (onC o p) M M1 ∧ fz onV M' M1' ∧ (ok = true → (fz (onC8 o p) M M1 ∧ fz onV8 M' M1') ∧ r' = K M1' ∧ G M1 M1') ∧ (ok = false → r' = rI (bz false) M1' ∧ ∃ c f, EC M1 o c f ∧ ER M1' c f)
theorem PK_go {o p : Nat} {M M' : xM} {r r' : xR} {K : xM → xR} {G G2 : xM → xM → Prop} {k : xM → xR} (h : PK o p M M' r r' K G) (hk : ∀ M1 M1', fz (onC8 o p) M M1 → fz onV8 M' M1' → G M1 M1' → PO o p M1 M1' (k M1) (K M1') G2) : PO o p M M' (xbI r (fun r M1 => if r = 0 then rI (xnar 1 0) M1 else k M1)) r' G2 := by
  obtain ⟨ok, M1, M1', e1, f1, f1', a1, b1⟩ := h
  rw [e1, xbI_r, xnar_0]
  cases ok with
  | true =>
    obtain ⟨⟨f8, f8'⟩, e2, g⟩ := a1 rfl
    rw [ite_bt, e2]
    exact PO_tr f8 f8' (hk M1 M1' f8 f8' g)
  | false =>
    obtain ⟨e2, c, f, h3, h4⟩ := b1 rfl
    rw [ite_bf, e2]
    exact PO_no f1 f1' h3 h4
theorem PK_tr {o p : Nat} {M M' M1 M1' : xM} {r r' : xR} {K : xM → xR} {G : xM → xM → Prop} (f : fz (onC8 o p) M M1) (f' : fz onV8 M' M1') (h : PK o p M1 M1' r r' K G) : PK o p M M' r r' K G := by
  obtain ⟨ok, A, A', h1, h3, h4, h5, h6⟩ := h
  exact ⟨ok, A, A', h1, fz_trans (onC8_C f) h3, fz_trans (onV8_V f') h4, fun q => ⟨⟨fz_trans f (h5 q).1.1, fz_trans f' (h5 q).1.2⟩, (h5 q).2⟩, h6⟩
theorem PK_no {o p c f : Nat} {M M' M1 M1' : xM} {K : xM → xR} {G : xM → xM → Prop} (h1 : fz (onC o p) M M1) (h2 : fz onV M' M1') (h3 : EC M1 o c f) (h4 : ER M1' c f) : PK o p M M' (rI (bz false) M1) (rI (bz false) M1') K G := ⟨false, M1, M1', rfl, h1, h2, fun q => (nomatch q), fun _ => ⟨rfl, c, f, h3, h4⟩⟩
theorem PK_yes {o p : Nat} {M M' M1 M1' : xM} {K : xM → xR} {G : xM → xM → Prop} (h1 : fz (onC8 o p) M M1) (h2 : fz onV8 M' M1') (h3 : G M1 M1') : PK o p M M' (rI (bz true) M1) (K M1') K G := ⟨true, M1, M1', rfl, onC8_C h1, onV8_V h2, fun _ => ⟨⟨h1, h2⟩, rfl, h3⟩, fun q => (nomatch q)⟩
theorem PK_tk {o p : Nat} {B : Nat → Int} {n pos : Nat} {M M' : xM} {r r' : xR} {E : Nat} {W : Nat → Nat → Nat → Bool} {Q Q' : xM → Prop} (h1 : tkR o B n pos M r E Q) (h2 : rkR W B n pos M' r' E Q') {K : xM → xR} {G : xM → xM → Prop} {k k' : xM → xR} (hk : ∀ M1 M1', fz (on8 o) M M1 → fz W M' M1' → CT M1 o B n (tE B n pos) → RT M1' B n (tE B n pos) → Q M1 → Q' M1' → E = 0 → PK o p M M' (k M1) (k' M1') K G) : PK o p M M' (xbI r (fun r M1 => if r = 0 then rI (xnar 1 0) M1 else k M1)) (xbI r' (fun r M1 => if r = 0 then rI (xnar 1 0) M1 else k' M1)) K G := by
  obtain ⟨M1, e1, f1, a1, b1⟩ := h1
  obtain ⟨M2, e2, f2, a2, b2⟩ := h2
  rw [e1, e2, xbI_r, xbI_r, xnar_0]
  by_cases c : E = 0
  · obtain ⟨f1', t1, q1⟩ := a1 c
    obtain ⟨f2', t2, q2⟩ := a2 c
    rw [decide_eq_true c, ite_bt, ite_bt]
    exact hk M1 M2 f1' f2' t1 t2 q1 q2 c
  · rw [decide_eq_false c, ite_bf, ite_bf]
    exact PK_no (onC_21 f1) f2 (b1 c) (b2 c)
/-- all but task t's own row and the links to it is as it was -/
def agT (b0 b : Nat → Int) (t : Nat) : Prop := ∀ k, (k < 28 + 12 * t ∨ 172 ≤ k) → (∀ f, f < 12 → k ≠ 172 + 12 * f + t) → b k = b0 k
/-- task t, not yet counted: its row on both sides, demands below k -/
def IPT (M : xM) (p : Nat) (b0 b : Nat → Int) (t k : Nat) : Prop := agT b0 b t ∧ nmB b (28 + 12 * t) ∧ (1 ≤ bD b t ∧ bD b t ≤ 30) ∧ bE b t = 0 ∧ (∀ r, r < k → 0 ≤ bU b t r ∧ bU b t r ≤ bC b r) ∧ (∀ f, f < 12 → (b (172 + 12 * f + t) = 0 ∨ b (172 + 12 * f + t) = 1) ∧ (b (172 + 12 * f + t) = 1 → f < t)) ∧ (gl M 5 p t = pk b (28 + 12 * t) ∧ gi M 6 p t = zi (bD b t) ∧ gi M 7 p t = zi (bE b t) ∧ gi M 8 p t = mk (fun f => bL b f t)) ∧ ∀ r, r < k → gi M 9 p (3 * t + r) = zi (bU b t r)
theorem IPT_fz {K : Nat → Nat → Nat → Bool} {M M' : xM} {p t k : Nat} {b0 b : Nat → Int} (h : IPT M p b0 b t k) (f : fz K M M') (hK : ∀ k s, 2 ≤ k → k ≤ 9 → K k p s = false) : IPT M' p b0 b t k := by
  obtain ⟨h1, h2, h3, h4, h5, h6, ⟨h7, h8, h9, h10⟩, h11⟩ := h
  exact ⟨h1, h2, h3, h4, h5, h6, ⟨(fz_gl f (hK 5 _ (by omega) (by omega))).trans h7, (fz_gi f (hK 6 _ (by omega) (by omega))).trans h8, (fz_gi f (hK 7 _ (by omega) (by omega))).trans h9, (fz_gi f (hK 8 _ (by omega) (by omega))).trans h10⟩, fun r hr => (fz_gi f (hK 9 _ (by omega) (by omega))).trans (h11 r hr)⟩
theorem IPT_8 {M M' : xM} {o p t k : Nat} {b0 b : Nat → Int} (h : IPT M p b0 b t k) (f : fz (on8 o) M M') : IPT M' p b0 b t k := IPT_fz h f (fun k s h1 h2 => on8_k (by omega))
theorem agT_R {b0 b : Nat → Int} {t : Nat} (h : agT b0 b t) : nR b = nR b0 := by
  unfold nR; rw [h 1 (by omega) (fun f hf => by omega)]
theorem agT_T {b0 b : Nat → Int} {t : Nat} (h : agT b0 b t) : nT b = nT b0 := by
  unfold nT; rw [h 2 (by omega) (fun f hf => by omega)]
theorem agT_C {b0 b : Nat → Int} {t r : Nat} (h : agT b0 b t) (hr : r < 3) : bC b r = bC b0 r := by
  by_cases c : 11 + 8 * r < 28 + 12 * t
  · exact h _ (Or.inl c) (fun f hf => by omega)
  · omega
theorem agT_up {b0 b : Nat → Int} {t a : Nat} {v : Int} (h : agT b0 b t) (h1 : 28 + 12 * t ≤ a) (h2 : a < 172 ∨ ∃ f, f < 12 ∧ a = 172 + 12 * f + t) : agT b0 (upI b a v) t := fun k hk hf => by
  rw [upI_n (by
    rintro rfl
    rcases h2 with h2 | ⟨f, g1, g2⟩
    · omega
    · exact hf f g1 g2)]
  exact h k hk hf
theorem CP_ag {M : xM} {p : Nat} {b0 : Nat → Int} (h : CP M p b0) (b : Nat → Int) : CP M p b0 := h
set_option maxHeartbeats 2000000 in
theorem both_dem {o p : Nat} {B : Nat → Int} {n : Nat} {b0 : Nat → Int} {t : Nat} (hQ : wQ b0 t) (ht : nT b0 = t) (ht2 : t < 12) : ∀ j k M M' pos b, k + j = nR b0 → CT M o B n pos → RT M' B n pos → CP M p b0 → RB M' b → IPT M p b0 b t k → PK o p M M' (b_U_readDemands_3 o p (zi t) (zi k) M) (b_M_parseNewTask_66 0 (zi t) (zi (28 + 12 * t : Nat)) (zi k) M') (fun M1' => b_M_parseNewTask_66 0 (zi t) (zi (28 + 12 * t : Nat)) (zi (nR b0 : Nat)) M1') (fun M1 M1' => ∃ pos' b', CT M1 o B n pos' ∧ RT M1' B n pos' ∧ CP M1 p b0 ∧ RB M1' b' ∧ IPT M1 p b0 b' t (nR b0) ∧ ∀ f, f < 12 → b' (172 + 12 * f + t) = b (172 + 12 * f + t)) := by
  have eR := wN_R hQ.1
  intro j
  induction j with
  | zero =>
    intro k M M' pos b hk hC hR hP hB hI
    have e : k = nR b0 := by omega
    subst e
    rw [e_b_U_readDemands_3, CP_R hP, if_neg (zi_irr _), xnar_1]
    exact PK_yes (fz_refl M) (fz_refl M') ⟨pos, b, hC, hR, hP, hB, hI, fun _ _ => rfl⟩
  | succ j ih =>
    intro k M M' pos b hk hC hR hP hB hI
    have hkr : k < nR b0 := by omega
    have ag := hI.1
    have cap := hQ.2.2.1 k hkr
    have eC : bC b k = bC b0 k := agT_C ag (by omega)
    have v1 : gi M' 28 0 (ix 1) = zi (nR b0) := by rw [ix_1, hB 1 (by decide), ag 1 (by omega) (fun f hf => by omega), eR.1]
    have e2 : m_M_capacityOf 0 (zi k) M' = rI (zi (bC b0 k)) M' := by rw [r_cap hB (by omega), eC]
    have ea : zi ((28 + 12 * t : Nat) : Int) + (9 : Int32) + zi (k : Int) = zi ((37 + 12 * t + k : Nat) : Int) := by
      rw [zi_09, zi_add, zi_add]; congr 1; omega
    have eb : zi (t : Int) * (3 : Int32) + zi (k : Int) = zi ((3 * t + k : Nat) : Int) := by
      rw [zi_03, zi_mul, zi_add]; congr 1; omega
    rw [e_b_U_readDemands_3, CP_R hP, if_pos (zi_ltn hkr (by omega)), xck_n (by omega) (by decide), zix (by omega), CP_C hP hkr, zi_00, e_b_M_parseNewTask_66, xck_1, v1, if_pos (zi_ltn hkr (by omega)), e2, xbI_r, ea, ← zi_00, zi_suc, eb]
    refine PK_tk (s_number hC (lo := 0) (hi := bC b0 k) (by omega) (by omega)) (r_ranged hR (a := 37 + 12 * t + k) (by omega) (lo := 0) (hi := bC b0 k) (by omega) (by omega)) (fun M1 M1' f1 f1' t1 t1' q1 q1' hE => ?_)
    have vb := numE_ok hE
    have f2 : fz (onPz p) M1 (xst M1 9 p (3 * t + k) (.int (zi (numV B n pos)))) := fz_st (onPz_t (by decide) (by decide))
    rw [xck_n (by omega) (by decide), zix (by omega), q1.1]
    have hP1 := CP_8 hP f1
    have hI1 := IPT_8 hI f1
    have hP2 : CP (xst M1 9 p (3 * t + k) (.int (zi (numV B n pos)))) p b0 := by
      refine CP_ext hP1 ⟨fun _ h => h, rfl, by omega⟩ ⟨?_, ?_, ?_⟩ (fun s hs => ?_) (fun r hr => ?_) (fun s r hs hr => ?_)
      · rw [gi_k (by decide)]; exact CP_0 hP1
      · rw [gi_k (by decide)]; exact CP_R hP1
      · rw [gi_k (by decide)]; exact CP_T hP1
      · rw [gi_k (by decide : 6 ≠ 9), gi_k (by decide : 7 ≠ 9), gi_k (by decide : 8 ≠ 9), gl_k (by decide)]
        exact ⟨CP_D hP1 hs, CP_E hP1 hs, CP_L hP1 hs, CP_N hP1 hs⟩
      · rw [gi_k (by decide), gl_k (by decide)]
        exact ⟨CP_C hP1 hr, CP_M hP1 hr⟩
      · rw [gi_s (by omega)]; exact CP_U hP1 hs hr
    have hI2 : IPT (xst M1 9 p (3 * t + k) (.int (zi (numV B n pos)))) p b0 (upI b (37 + 12 * t + k) (numV B n pos)) t (k + 1) := by
      obtain ⟨h1, h2, h3, h4, h5, h6, ⟨h7, h8, h9, h10⟩, h11⟩ := hI1
      refine ⟨agT_up h1 (by omega) (Or.inl (by omega)), nmB_congr h2 (upI_n (by omega)) (fun i hi => upI_n (by omega)), by rw [up_D (by omega)]; exact h3, by rw [up_E (by omega)]; exact h4, fun r hr => ?_, fun f hf => by rw [upI_n (by omega)]; exact h6 f hf, ⟨?_, ?_, ?_, ?_⟩, fun r hr => ?_⟩
      · rw [up_C (by omega)]
        by_cases e : r = k
        · subst e
          have : bU (upI b (37 + 12 * t + r) (numV B n pos)) t r = numV B n pos := upI_h _ _ _
          rw [this, eC]; exact vb
        · rw [up_U (by omega)]; exact h5 r (by omega)
      · rw [gl_k (by decide), h7]
        have := h2.1
        exact (pk_congr (upI_n (by omega)) (fun i hi => upI_n (by omega))).symm
      · rw [gi_k (by decide), up_D (by omega)]; exact h8
      · rw [gi_k (by decide), up_E (by omega)]; exact h9
      · rw [gi_k (by decide), h10]
        exact mk_ext (fun f hf => (up_L (by omega)).symm)
      · by_cases e : r = k
        · subst e
          rw [gi_h]; congr 1; exact (upI_h _ _ _).symm
        · rw [gi_s (by omega), up_U (by omega)]; exact h11 r (by omega)
    have nx := ih (k + 1) _ M1' _ _ (by omega) (CT_P t1 f2) t1' hP2 (RB_up hB q1') hI2
    refine PK_tr (fz_trans (onC_8 f1) (onC8_P f2)) (onV_Q1 (by omega) f1') ?_
    obtain ⟨ok, A, A', g1, g2, g3, g4, g5⟩ := nx
    refine ⟨ok, A, A', g1, g2, g3, fun q => ?_, g5⟩
    obtain ⟨x0, x1, pos', b', x2, x3, x4, x5, x6, x7⟩ := g4 q
    exact ⟨x0, x1, pos', b', x2, x3, x4, x5, x6, fun f hf => by rw [x7 f hf, upI_n (by omega)]⟩
