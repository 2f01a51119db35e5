/-! the sample project is read without a fault -/
def Bz (i : Nat) : Int := if i < 43 then cB 5 i else if i < 111 then cB 6 (i - 43) else cB 7 (i - 111)
def Vz (t : Nat) : Int64 := pw Bz (xnth [48, 63, 89, 116, 142] t) (xnth [3, 4, 4, 4, 5] t)
theorem Vz_tab : ∀ i, i < 5 → ∀ j, j < 5 → Vz i = Vz j → i = j := by decide +kernel
theorem Vz_inj (i j : Nat) (hi : i < 5) (hj : j < 5) (h : Vz i = Vz j) : i = j := Vz_tab i hi j hj h
def ZS (M0 M : xM) (b : Nat → Int) (t q : Nat) : Prop := fz (onC8 1 9) M0 M ∧ CT M 1 Bz 170 q ∧ CP M 9 b ∧ wQ b t ∧ nT b = t ∧ nR b = 2 ∧ bC b 0 = 3 ∧ bC b 1 = 1 ∧ ∀ j, j < t → pk b (28 + 12 * j) = Vz j
theorem z_task {M0 M : xM} {b : Nat → Int} {t q0 q1 q2 q6 q7 f k d0 d1 d2 : Nat} (L : List (Nat × Nat)) (hS : ZS M0 M b t q0) (ht : t < 5) (H : opE Bz 170 q0 3 true = 0 ∧ tE Bz 170 q0 = q1 ∧ tT Bz 170 q1 = 0 ∧ tF Bz 170 q1 = f ∧ tE Bz 170 q1 = f + k ∧ pw Bz f k = Vz t ∧ k ≤ 6 ∧ f + k = q2 ∧ numE Bz 170 q2 1 30 = 0 ∧ tE Bz 170 q2 = d0 ∧ (numE Bz 170 d0 0 3 = 0 ∧ tE Bz 170 d0 = d1) ∧ (numE Bz 170 d1 0 1 = 0 ∧ tE Bz 170 d1 = d2)) (HL : (L = [] ∧ atW Bz 170 d2 2 = false ∧ q6 = d2) ∨ (L ≠ [] ∧ atW Bz 170 d2 2 = true ∧ (L.map Prod.fst).Nodup ∧ L.length ≤ 12 ∧ (∀ x, x ∈ L.map Prod.fst → x < 12) ∧ lky Bz 170 t Vz (tE Bz 170 d2) L ∧ q6 = lkye (tE Bz 170 d2) L)) (h9 : semE Bz 170 q6 = 0) (h10 : tE Bz 170 q6 = q7) : ∃ M1 b', m_U_readTask 1 9 M = rI (bz true) M1 ∧ ZS M0 M1 b' (t + 1) q7 := by
  obtain ⟨f0, c, p, w, nt, nr, c0, c1, hv⟩ := hS
  obtain ⟨h1, h2, h3, h4, h5, h6, h7, h8, h11, h12, ⟨x1, x2⟩, ⟨y1, y2⟩⟩ := H
  obtain ⟨M1, b', g0, g1, g2, g3, g4, g5, g6, g7, g8⟩ := y_task (V := Vz) (qd := fun r => xnth [d0, d1, d2] r) (q1 := q1) (f := f) (k := k) (q2 := q2) (v := numV Bz 170 q2) (q6 := q6) (q7 := q7) L c p w nt (by omega) hv (fun i j hi hj e => Vz_inj i j (by omega) (by omega) e) h1 h2 h3 h4 h5 h6 h7 h8 h11 rfl h12 (fun r hr => by
    rw [nr] at hr
    have : r = 0 ∨ r = 1 := by omega
    rcases this with rfl | rfl
    · rw [c0]; exact ⟨x1, x2⟩
    · rw [c1]; exact ⟨y1, y2⟩) (by rw [nr]; exact HL) h9 h10
  exact ⟨M1, b', g0, fz_trans f0 g1, g2, g3, g4, g5, g6.trans nr, (g7 0 (by omega)).trans c0, (g7 1 (by omega)).trans c1, g8⟩
theorem z_read {M : xM} (hI : IN M 1 Bz 170) (hK : KC M) : ∃ M1, m_U_read 1 9 M = rI (bz true) M1 ∧ fz (onC 1 9) M M1 := by
  have f0 : fz (onPz 9) M (xst (xst M 2 9 1 (.int 0)) 2 9 2 (.int 0)) := fz_step (fz_st (onPz_t (by decide) (by decide))) (onPz_t (by decide) (by decide))
  obtain ⟨Ma, ea, fa, ca, _, _⟩ := s_open (o := 1) (IN_P hI f0) (KC_fz hK f0 (fun k o s q => onPz_k (by omega)))
  have z1 : gi Ma 2 9 1 = 0 := by rw [fz_gi fa (on21_k (by decide)), gi_s (by decide), gi_h]
  have z2 : gi Ma 2 9 2 = 0 := by rw [fz_gi fa (on21_k (by decide)), gi_h]
  obtain ⟨M1, e1, f1, c1, v0, v1, v2⟩ := y_head (q1 := 7) (q2 := 9) (q3 := 10) (p := 9) ca (by decide +kernel) (by decide +kernel) (by decide +kernel) (by decide +kernel) (by decide +kernel) (by decide +kernel)
  rw [z1] at v1
  rw [z2] at v2
  have nv : 0 ≤ numV Bz 170 7 ∧ numV Bz 170 7 ≤ 3 := by decide +kernel
  generalize numV Bz 170 7 = d at v0 nv
  have nTb : nT (fun k => if k = 0 then d else 0) = 0 := rfl
  have nRb : nR (fun k => if k = 0 then d else 0) = 0 := rfl
  have p1 : CP M1 9 (fun k => if k = 0 then d else 0) := ⟨⟨by rw [nTb]; decide, by rw [nRb]; decide⟩, ⟨v0, v1, v2⟩, fun t ht => absurd ht (by rw [nTb]; exact Nat.not_lt_zero t), fun t ht => absurd ht (by rw [nRb]; exact Nat.not_lt_zero t), fun t r ht => absurd ht (by rw [nTb]; exact Nat.not_lt_zero t)⟩
  have w1 : wQ (fun k => if k = 0 then d else 0) 0 := ⟨⟨⟨Int.le_refl 0, by show (0 : Int) ≤ 12; decide⟩, ⟨Int.le_refl 0, by show (0 : Int) ≤ 3; decide⟩, fun t ht => absurd ht (by rw [nTb]; exact Nat.not_lt_zero t), fun t ht => absurd ht (by rw [nRb]; exact Nat.not_lt_zero t)⟩, ⟨nv.1, nv.2⟩, fun t ht => absurd ht (by rw [nRb]; exact Nat.not_lt_zero t), fun t ht => absurd ht (by rw [nTb]; exact Nat.not_lt_zero t), fun f t hf ht => by
    show ((if 172 + 12 * f + t = 0 then d else 0) = 0 ∨ (if 172 + 12 * f + t = 0 then d else 0) = 1) ∧ ((if 172 + 12 * f + t = 0 then d else 0) = 1 → _)
    rw [if_neg (by omega)]
    exact ⟨Or.inl rfl, fun q => absurd q (by decide)⟩⟩
  obtain ⟨M2, b2, e2, f2, c2, p2, w2, t2, r2, _, _, k2, s2⟩ := y_res (q1 := 18) (f := 19) (k := 4) (q2 := 23) (q3 := 25) (q4 := 26) (v := 3) c1 p1 w1 nTb (by rw [nRb]; decide) (by decide +kernel) (by decide +kernel) (by decide +kernel) (by decide +kernel) (by decide +kernel) (fun r hr => absurd hr (by rw [nRb]; exact Nat.not_lt_zero r)) (by decide) (by decide) (by decide +kernel) (by decide +kernel) (by decide +kernel) (by decide +kernel) (by decide +kernel)
  rw [nRb] at r2 k2 s2
  obtain ⟨M3, b3, e3, f3, c3, p3, w3, t3, r3, _, s3, k3, s3'⟩ := y_res (q1 := 34) (f := 35) (k := 5) (q2 := 40) (q3 := 42) (q4 := 43) (v := 1) c2 p2 w2 t2 (by rw [r2]; decide) (by decide +kernel) (by decide +kernel) (by decide +kernel) (by decide +kernel) (by decide +kernel) (fun r hr e => by
    rw [r2] at hr
    have : r = 0 := by omega
    subst this
    have e : pk b2 (4 + 8 * 0) = pw Bz 35 5 := e
    rw [k2] at e
    exact absurd e (by decide +kernel)) (by decide) (by decide) (by decide +kernel) (by decide +kernel) (by decide +kernel) (by decide +kernel) (by decide +kernel)
  rw [r2] at r3 k3 s3'
  have S3 : ZS Ma M3 b3 0 43 := ⟨fz_trans f1 (fz_trans f2 f3), c3, p3, w3, t3, r3, ((s3 0 (by rw [r2]; decide)).2).trans s2, s3', fun j hj => absurd hj (Nat.not_lt_zero j)⟩
  obtain ⟨M4, b4, e4, S4⟩ := z_task [] S3 (by decide) (q1 := 47) (f := 48) (k := 3) (q2 := 51) (d0 := 53) (d1 := 55) (d2 := 57) (q6 := 57) (q7 := 58) (by decide +kernel) (Or.inl ⟨rfl, by decide +kernel, rfl⟩) (by decide +kernel) (by decide +kernel)
  obtain ⟨M5, b5, e5, S5⟩ := z_task [(0, 83)] S4 (by decide) (q1 := 62) (f := 63) (k := 4) (q2 := 67) (d0 := 69) (d1 := 71) (d2 := 73) (q6 := 83) (q7 := 84) (by decide +kernel) (Or.inr ⟨by decide, by decide +kernel, by decide, by decide, by decide, by
    rw [show tE Bz 170 73 = 79 by decide +kernel]
    exact ⟨by decide +kernel, show tT Bz 170 83 ≠ 0 by decide +kernel⟩, by decide +kernel⟩) (by decide +kernel) (by decide +kernel)
  obtain ⟨M6, b6, e6, S6⟩ := z_task [(1, 110)] S5 (by decide) (q1 := 88) (f := 89) (k := 4) (q2 := 93) (d0 := 95) (d1 := 97) (d2 := 99) (q6 := 110) (q7 := 111) (by decide +kernel) (Or.inr ⟨by decide, by decide +kernel, by decide, by decide, by decide, by
    rw [show tE Bz 170 99 = 105 by decide +kernel]
    exact ⟨by decide +kernel, show tT Bz 170 110 ≠ 0 by decide +kernel⟩, by decide +kernel⟩) (by decide +kernel) (by decide +kernel)
  obtain ⟨M7, b7, e7, S7⟩ := z_task [(0, 136)] S6 (by decide) (q1 := 115) (f := 116) (k := 4) (q2 := 120) (d0 := 122) (d1 := 124) (d2 := 126) (q6 := 136) (q7 := 137) (by decide +kernel) (Or.inr ⟨by decide, by decide +kernel, by decide, by decide, by decide, by
    rw [show tE Bz 170 126 = 132 by decide +kernel]
    exact ⟨by decide +kernel, show tT Bz 170 136 ≠ 0 by decide +kernel⟩, by decide +kernel⟩) (by decide +kernel) (by decide +kernel)
  obtain ⟨M8, b8, e8, S8⟩ := z_task [(1, 164), (3, 169)] S7 (by decide) (q1 := 141) (f := 142) (k := 5) (q2 := 147) (d0 := 149) (d1 := 151) (d2 := 153) (q6 := 169) (q7 := 170) (by decide +kernel) (Or.inr ⟨by decide, by decide +kernel, by decide, by decide, by decide, by
    rw [show tE Bz 170 153 = 159 by decide +kernel]
    exact ⟨by decide +kernel, by decide +kernel, show tT Bz 170 169 ≠ 0 by decide +kernel⟩, by decide +kernel⟩) (by decide +kernel) (by decide +kernel)
  have a1 : m_T_isAt 1 1 M2 = rI (bz true) M2 := by rw [s_isAt c2 (by decide), show atW Bz 170 26 1 = true by decide +kernel]
  have a2 : m_T_isAt 1 1 M3 = rI (bz false) M3 := by rw [s_isAt c3 (by decide), show atW Bz 170 43 1 = false by decide +kernel]
  have s : ∀ (v : Nat) (N N2 : xM) (b : Nat → Int) (t q : Nat), v < 12 → ZS Ma N b t q → tT Bz 170 q ≠ 4 → m_U_readTask 1 9 N = rI (bz true) N2 → b_U_read_51 1 9 1 (zi (v : Nat)) N = b_U_read_51 1 9 1 (zi ((v + 1 : Nat) : Int)) N2 := fun v N N2 b t q hv S ne e => by
    have k4 : ¬ gn N 21 1 3 = 4 := by rw [S.2.1.2.1.2.2.2.1]; exact ne
    rw [e_b_U_read_51, zi_12, zif (by decide) (by decide) (by omega) (by omega), if_neg (by omega), if_neg (by decide), if_neg k4, e, xbI_r, zi_suc]
    rfl
  have fin : b_U_read_51 1 9 1 (zi ((5 : Nat) : Int)) M8 = rI (bz true) M8 := by
    rw [e_b_U_read_51, zi_12, zif (by decide) (by decide) (by decide) (by decide), if_neg (by decide), if_neg (by decide), if_pos (by rw [S8.2.1.2.1.2.2.2.1]; decide +kernel), xnar_1]
  refine ⟨M8, ?_, fz_trans (onC_P f0) (fz_trans (onC_21 fa) (onC8_C S8.1))⟩
  rw [e_m_U_read, ea, xbV_r, e1, xbI_r, ite_bt, e2, xbI_r, ite_bt, e_b_U_read_23, if_neg (by decide), if_neg (by decide), a1, xbI_r, ite_bt, e3, xbI_r, e_b_U_read_23, if_neg (by decide), if_neg (by decide), a2, xbI_r, ite_bf, if_neg (by decide), e4, xbI_r, ite_bt]
  exact (s 1 M4 M5 b4 1 58 (by decide) S4 (by decide +kernel) e5).trans ((s 2 M5 M6 b5 2 84 (by decide) S5 (by decide +kernel) e6).trans ((s 3 M6 M7 b6 3 111 (by decide) S6 (by decide +kernel) e7).trans ((s 4 M7 M8 b7 4 137 (by decide) S7 (by decide +kernel) e8).trans fin)))
