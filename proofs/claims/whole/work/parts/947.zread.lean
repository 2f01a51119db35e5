/-! the sample project is read without a fault: the class, step by step -/
def Bz : Nat → Int := cB 16
def tEz (p : Nat) : Nat := tE Bz 170 p
def pwz (p : Nat) : Int64 := pw Bz (tF Bz 170 p) (tE Bz 170 p - tF Bz 170 p)
def Wz (r : Nat) : Int64 := pwz (xnth [18, 34] r)
def Cz (r : Nat) : Int := if r = 0 then 3 else 1
def Vz (t : Nat) : Int64 := pwz (xnth [47, 62, 88, 115, 141] t)
theorem tk_ok {o : Nat} {B : Nat → Int} {n p : Nat} {M : xM} {r : xR} {E : Nat} {Q : xM → Prop} (h : tkR o B n p M r E Q) (hE : E = 0) : ∃ M', r = rI (bz true) M' ∧ fz (on8 o) M M' ∧ CT M' o B n (tE B n p) ∧ Q M' := by
  subst hE
  obtain ⟨M', e, f, g, _⟩ := h
  obtain ⟨a, c, d⟩ := g rfl
  exact ⟨M', e, a, c, d⟩
/-- the names that stand so far -/
def NZ (M : xM) (p k t m : Nat) : Prop := gi M 2 p 1 = zi (k : Nat) ∧ gi M 2 p 2 = zi (t : Nat) ∧ (∀ r, r < k → gl M 3 p r = Wz r ∧ gi M 4 p r = zi (Cz r)) ∧ ∀ j, j < m → gl M 5 p j = Vz j
theorem NZ_fz {K : Nat → Nat → Nat → Bool} {M M' : xM} {p k t m : Nat} (h : NZ M p k t m) (f : fz K M M') (hK : ∀ s, K 2 p s = false ∧ K 3 p s = false ∧ K 4 p s = false ∧ K 5 p s = false) : NZ M' p k t m := ⟨(fz_gi f (hK _).1).trans h.1, (fz_gi f (hK _).1).trans h.2.1, fun r hr => ⟨(fz_gl f (hK _).2.1).trans (h.2.2.1 r hr).1, (fz_gi f (hK _).2.2.1).trans (h.2.2.1 r hr).2⟩, fun j hj => (fz_gl f (hK _).2.2.2).trans (h.2.2.2 j hj)⟩
theorem NZ_8 {M M' : xM} {o p k t m : Nat} (h : NZ M p k t m) (f : fz (on8 o) M M') : NZ M' p k t m := NZ_fz h f (fun s => ⟨on8_k (by decide), on8_k (by decide), on8_k (by decide), on8_k (by decide)⟩)
theorem z_resNamed {M : xM} {p k t m : Nat} (h : NZ M p k t m) (hk : k ≤ 3) (w : Int64) : m_P_resourceNamed p w M = rI (zi (fnd (fun r => decide (Wz r = w)) k)) M := by
  rw [e_m_P_resourceNamed]
  have := lpx (B := fun i : Nat => b_P_resourceNamed_3 p w (zi (i : Nat)) M) (n := k) (fun t => !decide (Wz t = w)) (fun i => rI (zi (i : Nat)) M) (R2 := rI (zi (-1)) M) (fun i hi hok => ?_) (fun i hi hok => ?_) ?_
  · simp only [Bool.not_not] at this
    refine Eq.trans this ?_
    unfold fnd
    split <;> rfl
  · show b_P_resourceNamed_3 p w (zi (i : Nat)) M = _
    have hok : ¬ Wz i = w := by simpa using hok
    rw [e_b_P_resourceNamed_3, h.1, if_pos (zi_ltn hi (by omega)), xck_n (by omega) (by decide), zix (by omega), (h.2.2.1 i hi).1, if_neg (fun q => hok (lg_z.mp q)), zi_suc]
  · show b_P_resourceNamed_3 p w (zi (i : Nat)) M = _
    have hok : Wz i = w := by simpa using hok
    rw [e_b_P_resourceNamed_3, h.1, if_pos (zi_ltn hi (by omega)), xck_n (by omega) (by decide), zix (by omega), (h.2.2.1 i hi).1, if_pos (lg_z.mpr hok)]
  · show b_P_resourceNamed_3 p w (zi (k : Nat)) M = _
    rw [e_b_P_resourceNamed_3, h.1, if_neg (zi_irr _)]
    rfl
theorem z_taskNamed {M : xM} {p k t m : Nat} (h : NZ M p k t m) (ht : t ≤ 12) (hm : t ≤ m) (w : Int64) : m_P_taskNamed p w M = rI (zi (fnd (fun j => decide (Vz j = w)) t)) M := by
  rw [e_m_P_taskNamed]
  have := lpx (B := fun i : Nat => b_P_taskNamed_3 p w (zi (i : Nat)) M) (n := t) (fun j => !decide (Vz j = w)) (fun i => rI (zi (i : Nat)) M) (R2 := rI (zi (-1)) M) (fun i hi hok => ?_) (fun i hi hok => ?_) ?_
  · simp only [Bool.not_not] at this
    refine Eq.trans this ?_
    unfold fnd
    split <;> rfl
  · show b_P_taskNamed_3 p w (zi (i : Nat)) M = _
    have hok : ¬ Vz i = w := by simpa using hok
    rw [e_b_P_taskNamed_3, h.2.1, if_pos (zi_ltn hi (by omega)), xck_n (by omega) (by decide), zix (by omega), h.2.2.2 i (by omega), if_neg (fun q => hok (lg_z.mp q)), zi_suc]
  · show b_P_taskNamed_3 p w (zi (i : Nat)) M = _
    have hok : Vz i = w := by simpa using hok
    rw [e_b_P_taskNamed_3, h.2.1, if_pos (zi_ltn hi (by omega)), xck_n (by omega) (by decide), zix (by omega), h.2.2.2 i (by omega), if_pos (lg_z.mpr hok)]
  · show b_P_taskNamed_3 p w (zi (t : Nat)) M = _
    rw [e_b_P_taskNamed_3, h.2.1, if_neg (zi_irr _)]
    rfl
theorem z_head {M : xM} {o p k t m : Nat} (h : CT M o Bz 170 0) (hN : NZ M p k t m) : ∃ M1, m_U_readHead o p M = rI (bz true) M1 ∧ CT M1 o Bz 170 10 ∧ NZ M1 p k t m := by
  obtain ⟨M1, e1, f1, c1, _⟩ := tk_ok (s_open1 h (lit := 8) (by decide)) (by decide +kernel)
  rw [show tE Bz 170 0 = 7 by decide +kernel] at c1
  obtain ⟨M2, e2, f2, c2, v2⟩ := tk_ok (s_number c1 (lo := 0) (hi := 3) (by decide) (by decide)) (by decide +kernel)
  rw [show tE Bz 170 7 = 9 by decide +kernel] at c2
  have g : fz (onPz p) M2 (xst M2 2 p 0 (.int (gi M2 21 o 7))) := fz_st (onPz_t (by decide) (by decide))
  obtain ⟨M3, e3, f3, c3, _⟩ := tk_ok (s_semi (CT_P c2 g)) (by decide +kernel)
  rw [show tE Bz 170 9 = 10 by decide +kernel] at c3
  have n2 := NZ_8 (NZ_8 hN f1) f2
  have n3 : NZ (xst M2 2 p 0 (.int (gi M2 21 o 7))) p k t m := ⟨(gi_s (by decide)).trans n2.1, (gi_s (by decide)).trans n2.2.1, fun r hr => ⟨(gl_k (by decide)).trans (n2.2.2.1 r hr).1, (gi_k (by decide)).trans (n2.2.2.1 r hr).2⟩, fun j hj => (gl_k (by decide)).trans (n2.2.2.2 j hj)⟩
  have e2 : m_T_takeNumber o 0 3 M1 = rI (bz true) M2 := e2
  refine ⟨M3, ?_, c3, NZ_8 n3 f3⟩
  rw [e_m_U_readHead, e1, xbI_r, ite_bt, e2, xbI_r, ite_bt, e3, xbI_r, xnar_b]
theorem z_res {M : xM} {o p k q0 q1 q2 q3 q4 : Nat} (h : CT M o Bz 170 q0) (hN : NZ M p k 0 0) (hk : k < 2) (H : (opE Bz 170 q0 9 true = 0 ∧ tE Bz 170 q0 = q1) ∧ (tT Bz 170 q1 = 0 ∧ fnd (fun r => decide (Wz r = pwz q1)) k = -1 ∧ newE Bz 170 q1 (-1) = 0 ∧ Wz k = pwz q1 ∧ tE Bz 170 q1 = q2) ∧ (numE Bz 170 q2 1 9 = 0 ∧ Cz k = numV Bz 170 q2 ∧ tE Bz 170 q2 = q3) ∧ semE Bz 170 q3 = 0 ∧ tE Bz 170 q3 = q4) : ∃ M1, m_U_readResource o p M = rI (bz true) M1 ∧ CT M1 o Bz 170 q4 ∧ NZ M1 p (k + 1) 0 0 := by
  obtain ⟨⟨h1, h2⟩, ⟨h3, h4, h5, h6, h7⟩, ⟨h8, h9, h10⟩, h11, h12⟩ := H
  obtain ⟨M1, e1, f1, c1, _⟩ := tk_ok (s_open1 h (lit := 9) (by decide)) h1
  rw [h2] at c1
  have n1 := NZ_8 hN f1
  have w1 : gl M1 21 o 4 = pwz q1 := (TC_w c1.2.1 h3).1
  obtain ⟨M2, e2, f2, c2, v2⟩ := tk_ok (s_newName c1 (x := -1) (by decide)) h5
  rw [h7] at c2
  have v2 : gl M2 21 o 6 = pwz q1 := v2
  obtain ⟨M3, e3, f3, c3, v3, v4⟩ := tk_ok (s_number c2 (lo := 1) (hi := 9) (by decide) (by decide)) h8
  rw [h10] at c3
  have n3 := NZ_8 (NZ_8 n1 f2) f3
  have g : fz (onPz p) M3 (xst (xst (xst M3 3 p k (.long (gl M3 21 o 6))) 4 p k (.int (gi M3 21 o 7))) 2 p 1 (.int (zi ((k + 1 : Nat) : Int)))) := fz_step (fz_step (fz_st (onPz_t (by decide) (by decide))) (onPz_t (by decide) (by decide))) (onPz_t (by decide) (by decide))
  obtain ⟨M4, e4, f4, c4, _⟩ := tk_ok (s_semi (CT_P c3 g)) h11
  rw [h12] at c4
  have n4 : NZ (xst (xst (xst M3 3 p k (.long (gl M3 21 o 6))) 4 p k (.int (gi M3 21 o 7))) 2 p 1 (.int (zi ((k + 1 : Nat) : Int)))) p (k + 1) 0 0 := by
    refine ⟨gi_h _ _ _ _ _, ?_, fun r hr => ⟨?_, ?_⟩, fun j hj => absurd hj (Nat.not_lt_zero j)⟩
    · rw [gi_s (by decide), gi_k (by decide), gi_k (by decide)]; exact n3.2.1
    · rw [gl_k (by decide), gl_k (by decide)]
      by_cases c : r = k
      · subst c; rw [gl_h, v4, v2, h6]
      · rw [gl_s c]; exact (n3.2.2.1 r (by omega)).1
    · rw [gi_k (by decide)]
      by_cases c : r = k
      · subst c; rw [gi_h, v3, h9]
      · rw [gi_s c, gi_k (by decide)]; exact (n3.2.2.1 r (by omega)).2
  have e3 : m_T_takeNumber o 1 9 M2 = rI (bz true) M3 := e3
  have e2 : m_T_takeNewName o (zi (-1)) M1 = rI (bz true) M2 := e2
  have k3 : gi M3 2 p 1 + 1 = zi ((k + 1 : Nat) : Int) := by rw [n3.1, zi_suc]
  refine ⟨M4, ?_, c4, NZ_8 n4 f4⟩
  rw [e_m_U_readResource, hN.1, zi_03, zif (by omega) (by omega) (by decide) (by decide), if_pos (by omega), e1, xbI_r, ite_bt, w1, z_resNamed n1 (by omega), h4, xbI_r, e2, xbI_r, ite_bt, e3, xbI_r, ite_bt, xck_n (by omega) (by decide), xck_n (by omega) (by decide), zix (by omega), k3, e4, xbI_r, xnar_b]
/-- a link that is read -/
theorem z_link {M : xM} {o p k t m q0 q1 c x : Nat} {Q : Nat → Bool} (h : CT M o Bz 170 q0) (hN : NZ M p k t m) (htm : t ≤ m) (ht : t < 12) (hm : gi M 8 p t = mk Q) (hx : x < 12) (hQ : Q x = false) (hc : c < 12) (H : tT Bz 170 q0 = 0 ∧ fnd (fun j => decide (Vz j = pwz q0)) t = (x : Int) ∧ tE Bz 170 q0 = q1) : ∃ M1, b_U_readLinks_11 o p (zi (t : Nat)) (zi (c : Nat)) M = b_U_readLinks_11 o p (zi (t : Nat)) (zi ((c + 1 : Nat) : Int)) M1 ∧ CT M1 o Bz 170 q1 ∧ NZ M1 p k t m ∧ gi M1 8 p t = mk (fun f => Q f || (f == x)) := by
  obtain ⟨h1, h2, h3⟩ := H
  have w1 : gl M 21 o 4 = pwz q0 := (TC_w h.2.1 h1).1
  have kn : knE Bz 170 q0 (x : Int) = 0 := by unfold knE; rw [if_pos h1, if_neg (by omega)]
  obtain ⟨M1, e1, _, g1, _⟩ := s_isKnown h (x := (x : Int)) (by omega)
  rw [g1 kn, kn] at e1
  have e1 : m_T_isAtKnownName o (zi (x : Nat)) M = rI (bz true) M := e1
  have e2 : m_P_isLinked p (zi (x : Nat)) (zi (t : Nat)) M = rI (bz false) M := by
    rw [e_m_P_isLinked, xck_n (by omega) (by decide), zix (by omega), hm, s_contains Q hx, xret_v, xbI_r, hQ, xnar_b]
  have g : fz (onPz p) M (xst M 8 p t (.int (mk (fun f => Q f || (f == x))))) := fz_st (onPz_t (by decide) (by decide))
  obtain ⟨M2, e3, f3, c3⟩ := s_adv (CT_P h g)
  rw [h3] at c3
  have nx : NZ (xst M 8 p t (.int (mk (fun f => Q f || (f == x))))) p k t m := ⟨(gi_k (by decide)).trans hN.1, (gi_k (by decide)).trans hN.2.1, fun r hr => ⟨(gl_k (by decide)).trans (hN.2.2.1 r hr).1, (gi_k (by decide)).trans (hN.2.2.1 r hr).2⟩, fun j hj => (gl_k (by decide)).trans (hN.2.2.2 j hj)⟩
  have tn := z_taskNamed hN (by omega) htm (pwz q0)
  rw [h2] at tn
  have or1 : (mk Q ||| ((1 : Int32) <<< (zi (x : Nat) &&& 31) : Int32)) = mk (fun f => Q f || (f == x)) := by rw [mk_shl hx, mk_or]
  refine ⟨M2, ?_, c3, NZ_8 nx (onT_8 f3), (fz_gi f3 (onT_k (by decide))).trans (gi_h _ _ _ _ _)⟩
  rw [e_b_U_readLinks_11]
  by_cases z : c = 0
  · subst z
    rw [if_pos (show zi ((0 : Nat) : Int) = (0 : Int32) from rfl), w1, tn, xbI_r, e1, xbI_r, ite_bt, e2, xbI_r, ite_bf, xck_n (by omega) (by decide), xck_n (by omega) (by decide), zix (by omega), hm, or1, e3, xbV_r, zi_suc]
  · rw [zi_00, zife (by omega) (by omega) (by decide) (by decide), if_neg (by omega), zi_12, zif (by decide) (by decide) (by omega) (by omega), if_neg (by omega), if_pos (by rw [h.2.1.2.2.2.1, h1]), ← zi_00, w1, tn, xbI_r, e1, xbI_r, ite_bt, e2, xbI_r, ite_bf, xck_n (by omega) (by decide), xck_n (by omega) (by decide), zix (by omega), hm, or1, e3, xbV_r, zi_suc]
theorem z_lend {M : xM} {o p t q c : Nat} (h : CT M o Bz 170 q) (hc : 1 ≤ c) (hc2 : c ≤ 12) (H : tT Bz 170 q ≠ 0) : b_U_readLinks_11 o p (zi (t : Nat)) (zi (c : Nat)) M = rI (bz true) M := by
  rw [e_b_U_readLinks_11, zi_00, zife (by omega) (by omega) (by decide) (by decide), if_neg (by omega), zi_12, zif (by decide) (by decide) (by omega) (by omega), if_neg (by omega), if_neg (fun q => H (by rw [← h.2.1.2.2.2.1]; exact q)), xnar_1]
/-- the links of a task: none, one or two -/
def lkz (t : Nat) (q : Nat) (L : List (Nat × Nat)) : Prop := match L with
  | [] => tT Bz 170 q ≠ 0
  | (x, q1) :: r => (tT Bz 170 q = 0 ∧ fnd (fun j => decide (Vz j = pwz q)) t = (x : Int) ∧ tE Bz 170 q = q1) ∧ lkz t q1 r
def lke (q : Nat) (L : List (Nat × Nat)) : Nat := match L with
  | [] => q
  | (_, q1) :: r => lke q1 r
theorem z_lks {o p k t m : Nat} (htm : t ≤ m) (ht : t < 12) : ∀ (L : List (Nat × Nat)) (M : xM) (q c : Nat) (Q : Nat → Bool), CT M o Bz 170 q → NZ M p k t m → gi M 8 p t = mk Q → c + L.length ≤ 12 → (1 ≤ c ∨ L ≠ []) → (∀ x, x ∈ L.map Prod.fst → x < 12 ∧ Q x = false) → (L.map Prod.fst).Nodup → lkz t q L → ∃ M1, b_U_readLinks_11 o p (zi (t : Nat)) (zi (c : Nat)) M = rI (bz true) M1 ∧ CT M1 o Bz 170 (lke q L) ∧ NZ M1 p k t m := by
  intro L
  induction L with
  | nil =>
    intro M q c Q h hN hm hc h1 _ _ H
    exact ⟨M, z_lend h (by rcases h1 with a | a; exact a; exact absurd rfl a) (by simpa using hc) H, h, hN⟩
  | cons a r ih =>
    intro M q c Q h hN hm hc h1 h2 h3 H
    obtain ⟨x, q1⟩ := a
    have hc : c + (r.length + 1) ≤ 12 := hc
    have hx := h2 x List.mem_cons_self
    have h3 : x ∉ r.map Prod.fst ∧ (r.map Prod.fst).Nodup := List.nodup_cons.mp h3
    obtain ⟨M1, e1, c1, n1, m1⟩ := z_link (c := c) h hN htm ht hm hx.1 hx.2 (by omega) H.1
    obtain ⟨M2, e2, c2, n2⟩ := ih M1 q1 (c + 1) _ c1 n1 m1 (by omega) (Or.inl (by omega)) (fun y hy => by
      have := h2 y (List.mem_cons_of_mem _ hy)
      refine ⟨this.1, ?_⟩
      have ne : ¬ y = x := fun e => h3.1 (e ▸ hy)
      show (Q y || (y == x)) = false
      rw [this.2, Bool.false_or, beq_eq_false_iff_ne]
      exact ne) h3.2 H.2
    exact ⟨M2, e1.trans e2, c2, n2⟩
