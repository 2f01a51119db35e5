/-! the class reads a setup text that is well formed, whatever it says -/
theorem y_head {M : xM} {o p : Nat} {B : Nat → Int} {n q1 q2 q3 : Nat} (h : CT M o B n 0) (h1 : opE B n 0 0 true = 0) (h2 : tE B n 0 = q1) (h3 : numE B n q1 0 3 = 0) (h4 : tE B n q1 = q2) (h5 : semE B n q2 = 0) (h6 : tE B n q2 = q3) : ∃ M1, m_U_readHead o p M = rI (bz true) M1 ∧ fz (onC8 o p) M M1 ∧ CT M1 o B n q3 ∧ gi M1 2 p 0 = zi (numV B n q1) ∧ gi M1 2 p 1 = gi M 2 p 1 ∧ gi M1 2 p 2 = gi M 2 p 2 := by
  obtain ⟨M1, e1, f1, c1, _⟩ := tk_ok (s_open1 h (lit := 0) (by decide)) h1
  rw [h2] at c1
  obtain ⟨M2, e2, f2, c2, v2, _⟩ := tk_ok (s_number c1 (lo := 0) (hi := 3) (by decide) (by decide)) h3
  rw [h4] at c2
  have g : fz (onPz p) M2 (xst M2 2 p 0 (.int (gi M2 21 o 7))) := fz_st (onPz_t (by decide) (by decide))
  obtain ⟨M3, e3, f3, c3, _⟩ := tk_ok (s_semi (CT_P c2 g)) h5
  rw [h6] at c3
  have e2 : m_T_takeNumber o 0 3 M1 = rI (bz true) M2 := e2
  refine ⟨M3, ?_, fz_trans (onC_8 f1) (fz_trans (onC_8 f2) (fz_trans (onC8_P g) (onC_8 f3))), c3, ?_, ?_, ?_⟩
  · rw [e_m_U_readHead, e1, xbI_r, ite_bt, e2, xbI_r, ite_bt, e3, xbI_r, xnar_b]
  · rw [fz_gi f3 (on8_k (by decide)), gi_h, v2]
  · rw [fz_gi f3 (on8_k (by decide)), gi_s (by decide), fz_gi f2 (on8_k (by decide)), fz_gi f1 (on8_k (by decide))]
  · rw [fz_gi f3 (on8_k (by decide)), gi_s (by decide), fz_gi f2 (on8_k (by decide)), fz_gi f1 (on8_k (by decide))]
set_option maxHeartbeats 1000000 in
theorem y_res {M : xM} {o p : Nat} {B : Nat → Int} {n q0 q1 q2 q3 q4 f k : Nat} {v : Int} {b : Nat → Int} (hC : CT M o B n q0) (hP : CP M p b) (hQ : wQ b 0) (hT0 : nT b = 0) (hR3 : nR b < 3) (h1 : opE B n q0 1 true = 0) (h2 : tE B n q0 = q1) (h3 : tT B n q1 = 0) (hf : tF B n q1 = f) (hk : tE B n q1 = f + k) (h4 : ∀ r, r < nR b → pk b (4 + 8 * r) ≠ pw B f k) (h5 : k ≤ 6) (h6 : f + k = q2) (h7 : numE B n q2 1 9 = 0) (hv : numV B n q2 = v) (h8 : tE B n q2 = q3) (h9 : semE B n q3 = 0) (h10 : tE B n q3 = q4) : ∃ M1 b', m_U_readResource o p M = rI (bz true) M1 ∧ fz (onC8 o p) M M1 ∧ CT M1 o B n q4 ∧ CP M1 p b' ∧ wQ b' 0 ∧ nT b' = 0 ∧ nR b' = nR b + 1 ∧ b' 0 = b 0 ∧ (∀ r, r < nR b → pk b' (4 + 8 * r) = pk b (4 + 8 * r) ∧ bC b' r = bC b r) ∧ pk b' (4 + 8 * nR b) = pw B f k ∧ bC b' (nR b) = v := by
  have eT := wN_T hQ.1
  have eR := wN_R hQ.1
  have hn := hC.1.1
  obtain ⟨M1, e1, f1, c1, _⟩ := tk_ok (s_open1 hC (lit := 1) (by decide)) h1
  rw [h2] at c1
  have hP1 := CP_8 hP f1
  obtain ⟨w1, w2, w3⟩ := TC_w c1.2.1 h3
  rw [hf, hk, Nat.add_sub_cancel_left] at w1 w2 w3
  have k1 : 1 ≤ k := by
    have := (tT_w c1.2.1.1 h3).1
    omega
  have fn : fnd (fun r => decide (pk b (4 + 8 * r) = pw B f k)) (nR b) = -1 := by
    by_cases c : fnd (fun r => decide (pk b (4 + 8 * r) = pw B f k)) (nR b) = -1
    · exact c
    · obtain ⟨i, i1, _, i3⟩ := fnd_ok c
      exact absurd (of_decide_eq_true i3) (h4 i i1)
  have nE : newE B n q1 (-1) = 0 := by
    unfold newE
    rw [if_pos h3, if_pos ⟨by rw [hk, hf]; omega, rfl⟩]
  obtain ⟨M2, e2, f2, c2, v2⟩ := tk_ok (s_newName c1 (x := -1) (by decide)) nE
  rw [hf, hk, Nat.add_sub_cancel_left] at v2
  rw [hk, h6] at c2
  obtain ⟨M3, e3, f3, c3, v3, v4⟩ := tk_ok (s_number c2 (lo := 1) (hi := 9) (by decide) (by decide)) h7
  rw [h8] at c3
  rw [hv] at v3
  have vb := numE_ok h7
  rw [hv] at vb
  have hP3 := CP_8 (CP_8 hP1 f2) f3
  have eM : gi M3 2 p 1 + 1 = zi ((nR b + 1 : Nat) : Int) := by rw [CP_R hP3, zi_suc]
  have g : fz (onPz p) M3 (xst (xst (xst M3 3 p (nR b) (.long (pw B f k))) 4 p (nR b) (.int (zi v))) 2 p 1 (.int (zi ((nR b + 1 : Nat) : Int)))) := fz_step (fz_step (fz_st (onPz_t (by decide) (by decide))) (onPz_t (by decide) (by decide))) (onPz_t (by decide) (by decide))
  obtain ⟨M4, e4, f4, c4, _⟩ := tk_ok (s_semi (CT_P c3 g)) h9
  rw [h10] at c4
  have nx2 : ∀ i, i ≠ 1 → (i < 4 + 8 * nR b ∨ 11 + 8 * nR b < i) → rsB b B f k v i = b i := fun i h1 h2 => by
    unfold rsB
    rw [upI_n h1, upI_n (by omega), pnB_n (by omega)]
  have nRn : nR (rsB b B f k v) = nR b + 1 := by
    unfold nR rsB
    rw [upI_h]
    unfold nR
    omega
  have nTn : nT (rsB b B f k v) = 0 := by
    unfold nT
    rw [nx2 2 (by omega) (by omega)]
    exact hT0
  have capn : bC (rsB b B f k v) (nR b) = v := by
    unfold bC rsB
    rw [upI_n (by omega), upI_h]
  have capo : ∀ r, r < nR b → bC (rsB b B f k v) r = bC b r := fun r hr => nx2 _ (by omega) (by omega)
  have nmo : ∀ r, r < nR b → ∀ w, w ≤ 6 → rsB b B f k v (4 + 8 * r + w) = b (4 + 8 * r + w) := fun r hr w hw => nx2 _ (by omega) (by omega)
  have nmn : ∀ w, w ≤ 6 → rsB b B f k v (4 + 8 * nR b + w) = pnB b (4 + 8 * nR b) B f k (4 + 8 * nR b + w) := fun w hw => by
    unfold rsB
    rw [upI_n (by omega), upI_n (by omega)]
  have nb := nmB_pn (b := b) (a := 4 + 8 * nR b) k1 h5 w3
  have pko : ∀ r, r < nR b → pk (rsB b B f k v) (4 + 8 * r) = pk b (4 + 8 * r) := fun r hr => by
    have l6 := (hQ.1.2.2.2 r (by omega)).1
    exact pk_congr (a := 4 + 8 * r) (a' := 4 + 8 * r) (nmo r hr 0 (by omega)) (fun k hk => by
      have := nmo r hr (1 + k) (by omega)
      rw [← Nat.add_assoc] at this
      exact this)
  have pkn : pk (rsB b B f k v) (4 + 8 * nR b) = pw B f k := by
    rw [← pk_pn (b := b) (a := 4 + 8 * nR b)]
    exact pk_congr (a := 4 + 8 * nR b) (a' := 4 + 8 * nR b) (nmn 0 (by omega)) (fun k hk => by
      rw [pnB_h] at hk
      have := nmn (1 + k) (by omega)
      rw [← Nat.add_assoc] at this
      exact this)
  have hQ' : wQ (rsB b B f k v) 0 := by
    refine ⟨⟨by rw [nx2 2 (by omega) (by omega)]; omega, ?_, fun t ht => by rw [nTn] at ht; omega, fun r hr => ?_⟩, by rw [nx2 0 (by omega) (by omega)]; exact hQ.2.1, fun r hr => ?_, fun t ht => by rw [nTn] at ht; omega, fun f t hf ht => ?_⟩
    · have : rsB b B f k v 1 = nR b + 1 := by unfold rsB; exact upI_h _ _ _
      rw [this]; omega
    · rw [nRn] at hr
      by_cases e : r = nR b
      · subst e
        exact nmB_congr nb (nmn 0 (by omega)) (fun k hk => by
          have := nmn (1 + k) (by omega)
          rw [← Nat.add_assoc] at this
          exact this)
      · exact nmB_congr (hQ.1.2.2.2 r (by omega)) (nmo r (by omega) 0 (by omega)) (fun k hk => by
          have := nmo r (by omega) (1 + k) (by omega)
          rw [← Nat.add_assoc] at this
          exact this)
    · rw [nRn] at hr
      by_cases e : r = nR b
      · rw [e, capn]; exact vb
      · rw [capo r (by omega)]; exact hQ.2.2.1 r (by omega)
    · rw [nx2 _ (by omega) (by omega)]; exact hQ.2.2.2.2 f t hf ht
  have hP5 : CP (xst (xst (xst M3 3 p (nR b) (.long (pw B f k))) 4 p (nR b) (.int (zi v))) 2 p 1 (.int (zi ((nR b + 1 : Nat) : Int)))) p (rsB b B f k v) := by
    refine ⟨⟨by rw [nTn]; omega, by rw [nRn]; omega⟩, ⟨?_, ?_, ?_⟩, fun t ht => by rw [nTn] at ht; omega, fun r hr => ?_, fun t r ht _ => by rw [nTn] at ht; omega⟩
    · rw [gi_s (by decide), gi_k (by decide), gi_k (by decide), nx2 0 (by omega) (by omega)]; exact CP_0 hP3
    · rw [gi_h, nRn]
    · rw [gi_s (by decide), gi_k (by decide), gi_k (by decide), nTn]
      have := CP_T hP3
      rw [hT0] at this
      exact this
    · rw [nRn] at hr
      by_cases e : r = nR b
      · subst e
        refine ⟨by rw [gi_k (by decide), gi_h, capn], ?_⟩
        rw [gl_k (by decide), gl_k (by decide), gl_h]
        exact pkn.symm
      · refine ⟨by rw [gi_k (by decide), gi_s e, capo r (by omega)]; exact CP_C hP3 (by omega), ?_⟩
        rw [gl_k (by decide), gl_k (by decide), gl_s e, CP_M hP3 (by omega)]
        exact (pko r (by omega)).symm
  have e3 : m_T_takeNumber o 1 9 M2 = rI (bz true) M3 := e3
  have e2 : m_T_takeNewName o (zi (-1)) M1 = rI (bz true) M2 := e2
  have rn := s_resNamed hP1 (pw B f k)
  rw [fn] at rn
  have tk6 : gl M3 21 o 6 = pw B f k := v4.trans v2
  refine ⟨M4, rsB b B f k v, ?_, fz_trans (onC_8 f1) (fz_trans (onC_8 f2) (fz_trans (onC_8 f3) (fz_trans (onC8_P g) (onC_8 f4)))), c4, CP_8 hP5 f4, hQ', nTn, nRn, nx2 0 (by omega) (by omega), fun r hr => ⟨pko r hr, capo r hr⟩, pkn, capn⟩
  rw [e_m_U_readResource, CP_R hP, zi_03, zif (by omega) (by omega) (by decide) (by decide), if_pos (by omega), e1, xbI_r, ite_bt, w1, rn, xbI_r, e2, xbI_r, ite_bt, e3, xbI_r, ite_bt, xck_n (by omega) (by decide), xck_n (by omega) (by decide), zix (by omega), eM, tk6, v3, e4, xbI_r, xnar_b]
