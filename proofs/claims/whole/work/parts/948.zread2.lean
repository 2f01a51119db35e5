/-! the sample project: tasks, the whole -/
theorem z_dem {M : xM} {o p t m r q0 q1 : Nat} (h : CT M o Bz 170 q0) (hN : NZ M p 2 t m) (ht : t < 12) (hr : r < 2) (H : numE Bz 170 q0 0 (Cz r) = 0 ∧ tE Bz 170 q0 = q1) : ∃ M1, b_U_readDemands_3 o p (zi (t : Nat)) (zi (r : Nat)) M = b_U_readDemands_3 o p (zi (t : Nat)) (zi ((r + 1 : Nat) : Int)) M1 ∧ CT M1 o Bz 170 q1 ∧ NZ M1 p 2 t m ∧ gi M1 8 p t = gi M 8 p t := by
  obtain ⟨h1, h2⟩ := H
  have cb : -1000 ≤ Cz r ∧ Cz r ≤ 1000 := by
    unfold Cz
    by_cases c : r = 0
    · rw [if_pos c]; decide
    · rw [if_neg c]; decide
  obtain ⟨M1, e1, f1, c1, _⟩ := tk_ok (s_number h (lo := 0) (hi := Cz r) (by decide) cb) h1
  rw [h2] at c1
  have g : fz (onPz p) M1 (xst M1 9 p (3 * t + r) (.int (gi M1 21 o 7))) := fz_st (onPz_t (by decide) (by decide))
  have n1 := NZ_8 hN f1
  have e1 : m_T_takeNumber o 0 (zi (Cz r)) M = rI (bz true) M1 := e1
  have ia : zi (t : Nat) * (3 : Int32) + zi (r : Nat) = zi ((3 * t + r : Nat) : Int) := by
    rw [zi_03, zi_mul, zi_add]; exact congrArg zi (by omega)
  refine ⟨xst M1 9 p (3 * t + r) (.int (gi M1 21 o 7)), ?_, CT_P c1 g, ⟨(gi_k (by decide)).trans n1.1, (gi_k (by decide)).trans n1.2.1, fun r hr => ⟨(gl_k (by decide)).trans (n1.2.2.1 r hr).1, (gi_k (by decide)).trans (n1.2.2.1 r hr).2⟩, fun j hj => (gl_k (by decide)).trans (n1.2.2.2 j hj)⟩, (gi_k (by decide)).trans (fz_gi f1 (on8_k (by decide)))⟩
  rw [e_b_U_readDemands_3, hN.1, if_pos (zi_ltn hr (by omega)), xck_n (by omega) (by decide), zix (by omega), (hN.2.2.1 r hr).2, e1, xbI_r, ite_bt, ia, xck_n (by omega) (by decide), zix (by omega), zi_suc]
theorem z_task {M : xM} {o p t q0 q1 q2 q3 q4 q5 q6 : Nat} (L : List (Nat × Nat)) (h : CT M o Bz 170 q0) (hN : NZ M p 2 t t) (ht : t < 5) (H : (opE Bz 170 q0 11 true = 0 ∧ tE Bz 170 q0 = q1) ∧ (tT Bz 170 q1 = 0 ∧ fnd (fun r => decide (Vz r = pwz q1)) t = -1 ∧ newE Bz 170 q1 (-1) = 0 ∧ Vz t = pwz q1 ∧ tE Bz 170 q1 = q2) ∧ (numE Bz 170 q2 1 30 = 0 ∧ tE Bz 170 q2 = q3) ∧ (numE Bz 170 q3 0 (Cz 0) = 0 ∧ tE Bz 170 q3 = q4) ∧ (numE Bz 170 q4 0 (Cz 1) = 0 ∧ tE Bz 170 q4 = q5)) (HL : (L = [] ∧ atW Bz 170 q5 10 = false ∧ q6 = q5) ∨ (L ≠ [] ∧ atW Bz 170 q5 10 = true ∧ (∀ x, x ∈ L.map Prod.fst → x < 12) ∧ (L.map Prod.fst).Nodup ∧ L.length ≤ 12 ∧ lkz t (tE Bz 170 q5) L ∧ q6 = lke (tE Bz 170 q5) L)) (HS : semE Bz 170 q6 = 0) : ∃ M1, m_U_readTask o p M = rI (bz true) M1 ∧ CT M1 o Bz 170 (tE Bz 170 q6) ∧ NZ M1 p 2 (t + 1) (t + 1) := by
  obtain ⟨⟨h1, h2⟩, ⟨h3, h4, h5, h6, h7⟩, ⟨h8, h10⟩, h11, h12⟩ := H
  obtain ⟨M1, e1, f1, c1, _⟩ := tk_ok (s_open1 h (lit := 11) (by decide)) h1
  rw [h2] at c1
  have n1 := NZ_8 hN f1
  have w1 : gl M1 21 o 4 = pwz q1 := (TC_w c1.2.1 h3).1
  obtain ⟨M2, e2, f2, c2, v2⟩ := tk_ok (s_newName c1 (x := -1) (by decide)) h5
  rw [h7] at c2
  have v2 : gl M2 21 o 6 = pwz q1 := v2
  obtain ⟨M3, e3, f3, c3, v3, v4⟩ := tk_ok (s_number c2 (lo := 1) (hi := 30) (by decide) (by decide)) h8
  rw [h10] at c3
  have n3 := NZ_8 (NZ_8 n1 f2) f3
  have P : ∀ {k s : Nat} {N : xM} {v : Value}, 2 ≤ k → k ≤ 9 → fz (onPz p) N (xst N k p s v) := fun a c => fz_st (onPz_t a c)
  have g : fz (onPz p) M3 (xst (xst (xst (xst M3 5 p t (.long (gl M3 21 o 6))) 6 p t (.int (gi M3 21 o 7))) 7 p t (.int 0)) 8 p t (.int 0)) := fz_trans (fz_trans (fz_trans (P (by decide) (by decide)) (P (by decide) (by decide))) (P (by decide) (by decide))) (P (by decide) (by decide))
  have c4 := CT_P c3 g
  have n4 : NZ (xst (xst (xst (xst M3 5 p t (.long (gl M3 21 o 6))) 6 p t (.int (gi M3 21 o 7))) 7 p t (.int 0)) 8 p t (.int 0)) p 2 t (t + 1) := by
    refine ⟨?_, ?_, fun r hr => ⟨?_, ?_⟩, fun j hj => ?_⟩
    · rw [gi_k (by decide), gi_k (by decide), gi_k (by decide), gi_k (by decide)]; exact n3.1
    · rw [gi_k (by decide), gi_k (by decide), gi_k (by decide), gi_k (by decide)]; exact n3.2.1
    · rw [gl_k (by decide), gl_k (by decide), gl_k (by decide), gl_k (by decide)]; exact (n3.2.2.1 r hr).1
    · rw [gi_k (by decide), gi_k (by decide), gi_k (by decide), gi_k (by decide)]; exact (n3.2.2.1 r hr).2
    · rw [gl_k (by decide), gl_k (by decide), gl_k (by decide)]
      by_cases c : j = t
      · subst c; rw [gl_h, v4, v2, h6]
      · rw [gl_s c]; exact n3.2.2.2 j (by omega)
  have m4 : gi (xst (xst (xst (xst M3 5 p t (.long (gl M3 21 o 6))) 6 p t (.int (gi M3 21 o 7))) 7 p t (.int 0)) 8 p t (.int 0)) 8 p t = mk (fun _ => false) := by rw [gi_h, mk_0]
  generalize hA : xst (xst (xst (xst M3 5 p t (.long (gl M3 21 o 6))) 6 p t (.int (gi M3 21 o 7))) 7 p t (.int 0)) 8 p t (.int 0) = A at c4 n4 m4
  obtain ⟨A1, d1, c5, n5, m5⟩ := z_dem (r := 0) c4 n4 (by omega) (by decide) h11
  obtain ⟨A2, d2, c6, n6, m6⟩ := z_dem (r := 1) c5 n5 (by omega) (by decide) h12
  have m6 : gi A2 8 p t = mk (fun _ => false) := m6.trans (m5.trans m4)
  have dm : m_U_readDemands o p (zi (t : Nat)) A = rI (bz true) A2 := by
    rw [e_m_U_readDemands]
    refine Eq.trans d1 (Eq.trans d2 ?_)
    rw [e_b_U_readDemands_3, n6.1, if_neg (zi_irr _), xnar_1]
  have at6 := s_isAt c6 (lit := 10) (by decide)
  have lk : ∃ A3, m_U_readLinks o p (zi (t : Nat)) A2 = rI (bz true) A3 ∧ CT A3 o Bz 170 q6 ∧ NZ A3 p 2 t (t + 1) := by
    rw [e_m_U_readLinks, at6, xbI_r]
    rcases HL with ⟨_, a, rfl⟩ | ⟨a0, a, a1, a2, a3, a4, rfl⟩
    · rw [a, ite_bf, xnar_1]
      exact ⟨A2, rfl, c6, n6⟩
    · obtain ⟨B1, b1, b2, b3⟩ := s_adv c6
      rw [a, ite_bt, b1, xbV_r]
      exact z_lks (by omega) (by omega) L B1 _ 0 (fun _ => false) b3 (NZ_8 n6 (onT_8 b2)) ((fz_gi b2 (onT_k (by decide))).trans m6) (by omega) (Or.inr a0) (fun x hx => ⟨a1 x hx, rfl⟩) a2 a4
  obtain ⟨A3, l1, c7, n7⟩ := lk
  have g2 : fz (onPz p) A3 (xst A3 2 p 2 (.int (zi ((t + 1 : Nat) : Int)))) := P (by decide) (by decide)
  have n8 : NZ (xst A3 2 p 2 (.int (zi ((t + 1 : Nat) : Int)))) p 2 (t + 1) (t + 1) := ⟨(gi_s (by decide)).trans n7.1, gi_h _ _ _ _ _, fun r hr => ⟨(gl_k (by decide)).trans (n7.2.2.1 r hr).1, (gi_k (by decide)).trans (n7.2.2.1 r hr).2⟩, fun j hj => (gl_k (by decide)).trans (n7.2.2.2 j hj)⟩
  obtain ⟨A4, e4, f4, c8, _⟩ := tk_ok (s_semi (CT_P c7 g2)) HS
  have e3 : m_T_takeNumber o 1 30 M2 = rI (bz true) M3 := e3
  have e2 : m_T_takeNewName o (zi (-1)) M1 = rI (bz true) M2 := e2
  have tn := z_taskNamed n1 (by omega) (Nat.le_refl _) (pwz q1)
  rw [h4] at tn
  have k3 : gi A3 2 p 2 + 1 = zi ((t + 1 : Nat) : Int) := by rw [n7.2.1, zi_suc]
  refine ⟨A4, ?_, c8, NZ_8 n8 f4⟩
  rw [e_m_U_readTask, hN.2.1, zi_12, zif (by omega) (by omega) (by decide) (by decide), if_pos (by omega), e1, xbI_r, ite_bt, w1, tn, xbI_r, e2, xbI_r, ite_bt, e3, xbI_r, ite_bt, xck_n (by omega) (by decide), xck_n (by omega) (by decide), xck_n (by omega) (by decide), xck_n (by omega) (by decide), zix (by omega), hA, dm, xbI_r, ite_bt, l1, xbI_r, ite_bt, k3, e4, xbI_r, xnar_b]
theorem z_t1 {M : xM} {o p : Nat} (h : CT M o Bz 170 43) (hN : NZ M p 2 0 0) : ∃ M1, m_U_readTask o p M = rI (bz true) M1 ∧ CT M1 o Bz 170 58 ∧ NZ M1 p 2 1 1 := by
  obtain ⟨M1, e, c, n⟩ := z_task [] h hN (by decide) (q1 := 47) (q2 := 51) (q3 := 53) (q4 := 55) (q5 := 57) (q6 := 57) (by decide +kernel) (Or.inl ⟨rfl, by decide +kernel, rfl⟩) (by decide +kernel)
  rw [show tE Bz 170 57 = 58 by decide +kernel] at c
  exact ⟨M1, e, c, n⟩
theorem z_t2 {M : xM} {o p : Nat} (h : CT M o Bz 170 58) (hN : NZ M p 2 1 1) : ∃ M1, m_U_readTask o p M = rI (bz true) M1 ∧ CT M1 o Bz 170 84 ∧ NZ M1 p 2 2 2 := by
  have a : lkz 1 79 [(0, 83)] := ⟨by decide +kernel, show tT Bz 170 83 ≠ 0 by decide +kernel⟩
  have q : tE Bz 170 73 = 79 := by decide +kernel
  obtain ⟨M1, e, c, n⟩ := z_task [(0, 83)] h hN (by decide) (q1 := 62) (q2 := 67) (q3 := 69) (q4 := 71) (q5 := 73) (q6 := 83) (by decide +kernel) (Or.inr ⟨by decide, by decide +kernel, by decide, by decide, by decide, by rw [q]; exact a, by rw [q]; rfl⟩) (by decide +kernel)
  rw [show tE Bz 170 83 = 84 by decide +kernel] at c
  exact ⟨M1, e, c, n⟩
theorem z_t3 {M : xM} {o p : Nat} (h : CT M o Bz 170 84) (hN : NZ M p 2 2 2) : ∃ M1, m_U_readTask o p M = rI (bz true) M1 ∧ CT M1 o Bz 170 111 ∧ NZ M1 p 2 3 3 := by
  have a : lkz 2 105 [(1, 110)] := ⟨by decide +kernel, show tT Bz 170 110 ≠ 0 by decide +kernel⟩
  have q : tE Bz 170 99 = 105 := by decide +kernel
  obtain ⟨M1, e, c, n⟩ := z_task [(1, 110)] h hN (by decide) (q1 := 88) (q2 := 93) (q3 := 95) (q4 := 97) (q5 := 99) (q6 := 110) (by decide +kernel) (Or.inr ⟨by decide, by decide +kernel, by decide, by decide, by decide, by rw [q]; exact a, by rw [q]; rfl⟩) (by decide +kernel)
  rw [show tE Bz 170 110 = 111 by decide +kernel] at c
  exact ⟨M1, e, c, n⟩
theorem z_t4 {M : xM} {o p : Nat} (h : CT M o Bz 170 111) (hN : NZ M p 2 3 3) : ∃ M1, m_U_readTask o p M = rI (bz true) M1 ∧ CT M1 o Bz 170 137 ∧ NZ M1 p 2 4 4 := by
  have a : lkz 3 132 [(0, 136)] := ⟨by decide +kernel, show tT Bz 170 136 ≠ 0 by decide +kernel⟩
  have q : tE Bz 170 126 = 132 := by decide +kernel
  obtain ⟨M1, e, c, n⟩ := z_task [(0, 136)] h hN (by decide) (q1 := 115) (q2 := 120) (q3 := 122) (q4 := 124) (q5 := 126) (q6 := 136) (by decide +kernel) (Or.inr ⟨by decide, by decide +kernel, by decide, by decide, by decide, by rw [q]; exact a, by rw [q]; rfl⟩) (by decide +kernel)
  rw [show tE Bz 170 136 = 137 by decide +kernel] at c
  exact ⟨M1, e, c, n⟩
theorem z_t5 {M : xM} {o p : Nat} (h : CT M o Bz 170 137) (hN : NZ M p 2 4 4) : ∃ M1, m_U_readTask o p M = rI (bz true) M1 ∧ CT M1 o Bz 170 170 ∧ NZ M1 p 2 5 5 := by
  have a : lkz 4 159 [(1, 164), (3, 169)] := ⟨by decide +kernel, by decide +kernel, show tT Bz 170 169 ≠ 0 by decide +kernel⟩
  have q : tE Bz 170 153 = 159 := by decide +kernel
  obtain ⟨M1, e, c, n⟩ := z_task [(1, 164), (3, 169)] h hN (by decide) (q1 := 141) (q2 := 147) (q3 := 149) (q4 := 151) (q5 := 153) (q6 := 169) (by decide +kernel) (Or.inr ⟨by decide, by decide +kernel, by decide, by decide, by decide, by rw [q]; exact a, by rw [q]; rfl⟩) (by decide +kernel)
  rw [show tE Bz 170 169 = 170 by decide +kernel] at c
  exact ⟨M1, e, c, n⟩
theorem z_read {M : xM} {o p : Nat} (h : CT M o Bz 170 0) (hN : NZ M p 0 0 0) : ∃ M1, xbI (m_U_readHead o p M) (fun r3 M2 => (if r3 = 0 then (b_U_read_23 o p 0 1 M2) else (xbI (m_U_readResource o p M2) (fun r5 M4 => (if r5 = 0 then (b_U_read_23 o p 0 1 M4) else (b_U_read_23 o p 1 1 M4)))))) = rI (bz true) M1 := by
  obtain ⟨M1, e1, c1, n1⟩ := z_head h hN
  obtain ⟨M2, e2, c2, n2⟩ := z_res c1 n1 (by decide) (q1 := 18) (q2 := 23) (q3 := 25) (q4 := 26) (by decide +kernel)
  obtain ⟨M3, e3, c3, n3⟩ := z_res c2 n2 (by decide) (q1 := 34) (q2 := 40) (q3 := 42) (q4 := 43) (by decide +kernel)
  obtain ⟨M4, e4, c4, n4⟩ := z_t1 c3 n3
  obtain ⟨M5, e5, c5, n5⟩ := z_t2 c4 n4
  obtain ⟨M6, e6, c6, n6⟩ := z_t3 c5 n5
  obtain ⟨M7, e7, c7, n7⟩ := z_t4 c6 n6
  obtain ⟨M8, e8, c8, n8⟩ := z_t5 c7 n7
  have a1 : m_T_isAt o 9 M2 = rI (bz true) M2 := by rw [s_isAt c2 (by decide), show atW Bz 170 26 9 = true by decide +kernel]
  have a2 : m_T_isAt o 9 M3 = rI (bz false) M3 := by rw [s_isAt c3 (by decide), show atW Bz 170 43 9 = false by decide +kernel]
  have b0 : ∀ a c : xR, (if bz true = 0 then a else c) = c := ite_bt
  have k0 : (1 : Int32) = bz true := rfl
  have n12 : ∀ v : Nat, v < 12 → ¬ ((12 : Int32) < zi (v : Nat)) := fun v hv q => by
    rw [zi_12, zi_lt (by decide) (by decide) (by omega) (by omega)] at q; omega
  have tk : ∀ {N : xM} {q : Nat}, CT N o Bz 170 q → tT Bz 170 q ≠ 4 → ¬ gn N 21 o 3 = 4 := fun c q r => q (by rw [← c.2.1.2.2.2.1]; exact r)
  have s : ∀ (v : Nat) (N N2 : xM) (q : Nat), v < 12 → CT N o Bz 170 q → tT Bz 170 q ≠ 4 → m_U_readTask o p N = rI (bz true) N2 → b_U_read_51 o p (bz true) (zi (v : Nat)) N = b_U_read_51 o p (bz true) (zi ((v + 1 : Nat) : Int)) N2 := fun v N N2 q hv c t e => by
    rw [e_b_U_read_51, if_neg (n12 v hv), b0, if_neg (tk c t), e, xbI_r, zi_suc]
  have fin : b_U_read_51 o p (bz true) (zi ((5 : Nat) : Int)) M8 = rI (bz true) M8 := by
    rw [e_b_U_read_51, if_neg (n12 5 (by decide)), b0, if_pos (by rw [c8.2.1.2.2.2.1]; decide +kernel), xnar_b]
  refine ⟨M8, ?_⟩
  rw [e1, xbI_r, b0, e2, xbI_r, b0, k0, e_b_U_read_23, if_neg (by decide), b0, a1, xbI_r, b0, e3, xbI_r, e_b_U_read_23, if_neg (by decide), b0, a2, xbI_r, ite_bf, b0, e4, xbI_r, b0]
  exact (s 1 M4 M5 58 (by decide) c4 (by decide +kernel) e5).trans ((s 2 M5 M6 84 (by decide) c5 (by decide +kernel) e6).trans ((s 3 M6 M7 111 (by decide) c6 (by decide +kernel) e7).trans ((s 4 M7 M8 137 (by decide) c7 (by decide +kernel) e8).trans fin)))
