/-! .. a task as a whole -/
set_option maxHeartbeats 2000000 in
theorem y_task {M : xM} {o p : Nat} {B : Nat → Int} {n t q0 q1 q2 q6 q7 f k : Nat} {v : Int} {b : Nat → Int} {V : Nat → Int64} {qd : Nat → Nat} (L : List (Nat × Nat)) (hC : CT M o B n q0) (hP : CP M p b) (hQ : wQ b t) (ht : nT b = t) (ht2 : t < 12) (hV : ∀ j, j < t → pk b (28 + 12 * j) = V j) (hinj : ∀ i j, i < t + 1 → j < t + 1 → V i = V j → i = j) (h1 : opE B n q0 3 true = 0) (h2 : tE B n q0 = q1) (h3 : tT B n q1 = 0) (hf : tF B n q1 = f) (hk : tE B n q1 = f + k) (hVt : pw B f k = V t) (h5 : k ≤ 6) (h6 : f + k = q2) (h7 : numE B n q2 1 30 = 0) (hv : numV B n q2 = v) (h8 : tE B n q2 = qd 0) (H : ∀ r, r < nR b → numE B n (qd r) 0 (bC b r) = 0 ∧ tE B n (qd r) = qd (r + 1))
    (HL : (L = [] ∧ atW B n (qd (nR b)) 2 = false ∧ q6 = qd (nR b)) ∨ (L ≠ [] ∧ atW B n (qd (nR b)) 2 = true ∧ (L.map Prod.fst).Nodup ∧ L.length ≤ 12 ∧ (∀ x, x ∈ L.map Prod.fst → x < 12) ∧ lky B n t V (tE B n (qd (nR b))) L ∧ q6 = lkye (tE B n (qd (nR b))) L)) (h9 : semE B n q6 = 0) (h10 : tE B n q6 = q7) : ∃ M1 b', m_U_readTask o p M = rI (bz true) M1 ∧ fz (onC8 o p) M M1 ∧ CT M1 o B n q7 ∧ CP M1 p b' ∧ wQ b' (t + 1) ∧ nT b' = t + 1 ∧ nR b' = nR b ∧ (∀ r, r < nR b → bC b' r = bC b r) ∧ ∀ j, j < t + 1 → pk b' (28 + 12 * j) = V j := by
  subst ht
  have eT := wN_T hQ.1
  have eR := wN_R hQ.1
  have hn := hC.1.1
  obtain ⟨M1, e1, f1, c1, _⟩ := tk_ok (s_open1 hC (lit := 3) (by decide)) h1
  rw [h2] at c1
  have hP1 := CP_8 hP f1
  obtain ⟨w1, w2, w3⟩ := TC_w c1.2.1 h3
  rw [hf, hk, Nat.add_sub_cancel_left] at w1 w2 w3
  have k1 : 1 ≤ k := by
    have := (tT_w c1.2.1.1 h3).1
    omega
  have fn : fnd (fun j => decide (pk b (28 + 12 * j) = pw B f k)) (nT b) = -1 := by
    by_cases c : fnd (fun j => decide (pk b (28 + 12 * j) = pw B f k)) (nT b) = -1
    · exact c
    · obtain ⟨i, i1, _, i3⟩ := fnd_ok c
      have i3 := of_decide_eq_true i3
      rw [hV i i1, hVt] at i3
      have := hinj i (nT b) (by omega) (by omega) i3
      omega
  have nE : newE B n q1 (-1) = 0 := by
    unfold newE
    rw [if_pos h3, if_pos ⟨by rw [hk, hf]; omega, rfl⟩]
  obtain ⟨M2, e2, f2, c2, v2⟩ := tk_ok (s_newName c1 (x := -1) (by decide)) nE
  rw [hf, hk, Nat.add_sub_cancel_left] at v2
  rw [hk, h6] at c2
  obtain ⟨M3, e3, f3, c3, v3, v4⟩ := tk_ok (s_number c2 (lo := 1) (hi := 30) (by decide) (by decide)) h7
  rw [h8] at c3
  rw [hv] at v3
  have vb := numE_ok h7
  rw [hv] at vb
  have hP3 := CP_8 (CP_8 hP1 f2) f3
  have tk6 : gl M3 21 o 6 = pw B f k := v4.trans v2
  have col : ∀ f, f < 12 → b (172 + 12 * f + nT b) = 0 := fun f hf => by
    have hh := hQ.2.2.2.2 f (nT b) hf ht2
    rcases hh.1 with q | q
    · exact q
    · have := (hh.2 q).2; omega
  have f5 : fz (onPz p) M3 (xst (xst (xst (xst M3 5 p (nT b) (.long (pw B f k))) 6 p (nT b) (.int (zi v))) 7 p (nT b) (.int 0)) 8 p (nT b) (.int 0)) := fz_step (fz_step (fz_step (fz_st (onPz_t (by decide) (by decide))) (onPz_t (by decide) (by decide))) (onPz_t (by decide) (by decide))) (onPz_t (by decide) (by decide))
  have t5 := CT_P c3 f5
  have hP5 : CP (xst (xst (xst (xst M3 5 p (nT b) (.long (pw B f k))) 6 p (nT b) (.int (zi v))) 7 p (nT b) (.int 0)) 8 p (nT b) (.int 0)) p b := by
    refine CP_ext hP3 ⟨fun _ h => h, rfl, by omega⟩ ⟨?_, ?_, ?_⟩ (fun s hs => ⟨?_, ?_, ?_, ?_⟩) (fun r hr => ⟨?_, ?_⟩) (fun s r hs hr => ?_)
    · rw [gi_k (by decide), gi_k (by decide), gi_k (by decide), gi_k (by decide)]; exact CP_0 hP3
    · rw [gi_k (by decide), gi_k (by decide), gi_k (by decide), gi_k (by decide)]; exact CP_R hP3
    · rw [gi_k (by decide), gi_k (by decide), gi_k (by decide), gi_k (by decide)]; exact CP_T hP3
    · rw [gi_k (by decide), gi_k (by decide), gi_s (by omega), gi_k (by decide)]; exact CP_D hP3 hs
    · rw [gi_k (by decide), gi_s (by omega), gi_k (by decide), gi_k (by decide)]; exact CP_E hP3 hs
    · rw [gi_s (by omega), gi_k (by decide), gi_k (by decide), gi_k (by decide)]; exact CP_L hP3 hs
    · rw [gl_k (by decide), gl_k (by decide), gl_k (by decide), gl_s (by omega)]; exact CP_N hP3 hs
    · rw [gi_k (by decide), gi_k (by decide), gi_k (by decide), gi_k (by decide)]; exact CP_C hP3 hr
    · rw [gl_k (by decide), gl_k (by decide), gl_k (by decide), gl_k (by decide)]; exact CP_M hP3 hr
    · rw [gi_k (by decide), gi_k (by decide), gi_k (by decide), gi_k (by decide)]; exact CP_U hP3 hs hr
  have nx2 : ∀ i, (i < 28 + 12 * nT b ∨ 36 + 12 * nT b < i) → rwB b B f k v i = b i := fun i h2 => by
    unfold rwB
    rw [upI_n (by omega), upI_n (by omega), pnB_n (by omega)]
  have nmn : ∀ w, w ≤ 6 → rwB b B f k v (28 + 12 * nT b + w) = pnB b (28 + 12 * nT b) B f k (28 + 12 * nT b + w) := fun w hw => by
    unfold rwB
    rw [upI_n (by omega), upI_n (by omega)]
  have dn : bD (rwB b B f k v) (nT b) = v := by
    unfold bD rwB
    rw [upI_n (by omega), upI_h]
  have en : bE (rwB b B f k v) (nT b) = 0 := by
    unfold bE rwB
    rw [upI_h]
  have nb := nmB_pn (b := b) (a := 28 + 12 * nT b) k1 h5 w3
  have pkn : pk (rwB b B f k v) (28 + 12 * nT b) = pw B f k := by
    rw [← pk_pn (b := b) (a := 28 + 12 * nT b)]
    exact pk_congr (a := 28 + 12 * nT b) (a' := 28 + 12 * nT b) (nmn 0 (by omega)) (fun k hk => by
      rw [pnB_h] at hk
      have := nmn (1 + k) (by omega)
      rw [← Nat.add_assoc] at this
      exact this)
  have hI5 : IPT (xst (xst (xst (xst M3 5 p (nT b) (.long (pw B f k))) 6 p (nT b) (.int (zi v))) 7 p (nT b) (.int 0)) 8 p (nT b) (.int 0)) p b (rwB b B f k v) (nT b) 0 := by
    refine ⟨fun k hk hf => nx2 k (by omega), nmB_congr nb (nmn 0 (by omega)) (fun k hk => ?_), by rw [dn]; exact vb, en, fun r hr => absurd hr (Nat.not_lt_zero r), fun f hf => ?_, ⟨?_, ?_, ?_, ?_⟩, fun r hr => absurd hr (Nat.not_lt_zero r)⟩
    · have := nmn (1 + k) (by omega)
      rw [← Nat.add_assoc] at this
      exact this
    · rw [nx2 _ (by omega), col f hf]
      exact ⟨Or.inl rfl, fun q => absurd q (by decide)⟩
    · rw [gl_k (by decide), gl_k (by decide), gl_k (by decide), gl_h]
      exact pkn.symm
    · rw [gi_k (by decide), gi_k (by decide), gi_h, dn]
    · rw [gi_k (by decide), gi_h, en]; rfl
    · rw [gi_h, mk_0]
      refine mk_ext (fun f hf => ?_)
      unfold bL
      rw [nx2 _ (by omega), col f hf]; rfl
  obtain ⟨M6, b6, e6, f6, c6, p6, i6, l6, n6⟩ := y_dem hQ rfl ht2 H (nR b) 0 _ _ (by omega) t5 hP5 hI5
  have l0 : ∀ x, x < 12 → bL b6 x (nT b) = false := fun x hx => by
    unfold bL
    rw [l6 x hx, nx2 _ (by omega), col x hx]
    rfl
  -- the links
  have lk : ∃ M7 b7, m_U_readLinks o p (zi (nT b : Nat)) M6 = rI (bz true) M7 ∧ fz (onC8 o p) M6 M7 ∧ CT M7 o B n q6 ∧ CP M7 p b ∧ IPT M7 p b b7 (nT b) (nR b) ∧ pk b7 (28 + 12 * nT b) = pk b6 (28 + 12 * nT b) := by
    rcases HL with ⟨g1, g2, g3⟩ | ⟨g1, g2, g3, g4, g5, g6, g7⟩
    · subst g3
      refine ⟨M6, b6, ?_, fz_refl M6, c6, p6, i6, rfl⟩
      rw [e_m_U_readLinks, s_isAt c6 (by decide), g2, xbI_r, ite_bf, xnar_1]
    · obtain ⟨A1, a1, f8, c8⟩ := s_adv c6
      obtain ⟨M7, b7, e7, f7, c7, p7, i7, n7⟩ := y_links hQ rfl ht2 hV (fun i j hi hj e => hinj i j (by omega) (by omega) e) L A1 (tE B n (qd (nR b))) 0 b6 c8 (CP_8 p6 (onT_8 f8)) (IPT_8 i6 (onT_8 f8)) (by omega) (Or.inr g1) (fun x hx => l0 x (g5 x hx)) g3 g6
      rw [← g7] at c7
      refine ⟨M7, b7, ?_, fz_trans (onC_8 (onT_8 f8)) f7, c7, p7, i7, n7⟩
      rw [e_m_U_readLinks, s_isAt c6 (by decide), g2, xbI_r, ite_bt, a1, xbV_r]
      exact e7
  obtain ⟨M7, b7, e7, f7, c7, p7, i7, n7⟩ := lk
  have dt := done_task hQ ht2 p7 i7
  have f8 : fz (onPz p) M7 (xst M7 2 p 2 (.int (zi (nT b + 1 : Nat)))) := fz_st (onPz_t (by decide) (by decide))
  obtain ⟨M9, e9, f9, c9, _⟩ := tk_ok (s_semi (CT_P c7 f8)) h9
  rw [h10] at c9
  have e3 : m_T_takeNumber o 1 30 M2 = rI (bz true) M3 := e3
  have e2 : m_T_takeNewName o (zi (-1)) M1 = rI (bz true) M2 := e2
  have tn := s_taskNamed hP1 (pw B f k)
  rw [fn] at tn
  have e6 : b_U_readDemands_3 o p (zi (nT b : Nat)) 0 (xst (xst (xst (xst M3 5 p (nT b) (.long (pw B f k))) 6 p (nT b) (.int (zi v))) 7 p (nT b) (.int 0)) 8 p (nT b) (.int 0)) = rI (bz true) M6 := e6
  refine ⟨M9, upI b7 2 (nT b + 1 : Nat), ?_, fz_trans (onC_8 f1) (fz_trans (onC_8 f2) (fz_trans (onC_8 f3) (fz_trans (onC8_P f5) (fz_trans f6 (fz_trans f7 (fz_trans (onC8_P f8) (onC_8 f9))))))), c9, CP_8 dt.1 f9, dt.2.1, dt.2.2.1, dt.2.2.2, fun r hr => ?_, fun j hj => ?_⟩
  · rw [e_m_U_readTask, CP_T hP, zi_12, zif (by omega) (by omega) (by decide) (by decide), if_pos (by omega), e1, xbI_r, ite_bt, w1, tn, xbI_r, e2, xbI_r, ite_bt, e3, xbI_r, ite_bt, xck_n (by omega) (by decide), xck_n (by omega) (by decide), xck_n (by omega) (by decide), xck_n (by omega) (by decide), zix (by omega), tk6, v3, e_m_U_readDemands, e6, xbI_r, ite_bt, e7, xbI_r, ite_bt, CP_T p7, zi_suc, e9, xbI_r, xnar_b]
  · rw [up_C (by omega)]
    exact agT_C i7.1 (by omega)
  · by_cases e : j = nT b
    · subst e
      have := i7.2.1.1
      rw [pk_congr (b := b7) (upI_n (by omega)) (fun k hk => upI_n (by omega)), n7, n6, pkn, hVt]
    · have j1 : j < nT b := by omega
      rw [← hV j j1]
      have := (hQ.1.2.2.1 j j1).1
      exact pk_congr ((upI_n (by omega)).trans (i7.1 _ (by omega) (fun f hf => by omega))) (fun i hi => (upI_n (by omega)).trans (i7.1 _ (by omega) (fun f hf => by omega)))
