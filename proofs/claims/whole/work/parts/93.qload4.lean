/-! the call load: it succeeds -/
theorem Ly_Ld {M M' : xM} (f : fz onLd M M') : fz onLy M M' := fz_mono (fun k o s h => by unfold onLy; rw [h]; rfl) f
theorem Ly_9 {M M' : xM} (f : fr (onP 9) M M') : fz onLy M M' := fz_mono (fun k o s h => by
  have h : onP 9 k o = true := h
  unfold onP at h
  unfold onLy
  rw [h, Bool.or_true]) (fr_fz f)
theorem xck_02 (k : xR) : xck 0 2 k = k := if_neg (by decide)
theorem xck_12 (k : xR) : xck 1 2 k = k := if_neg (by decide)
theorem c_load22 (A : xM) : b_C_load_22 0 0 A = rI (gi A 2 9 2) (xst (xst (xst A 26 0 0 (.int (0 &&& 1))) 26 0 1 (.int (0 &&& 1))) 17 0 2 (.int 0)) := by
  have step : ∀ i : Nat, i < 2 → ∀ A, b_C_load_22 0 (zi (i : Nat)) A = b_C_load_22 0 (zi ((i + 1 : Nat) : Int)) (xst A 26 0 i (.int (0 &&& 1))) := fun i hi A => by
    rw [e_b_C_load_22, zi_02, zif (by omega) (by omega) (by decide) (by decide), if_pos (by omega), xck_n (by omega) (by decide), zix (by omega), zi_suc]
  have fin : ∀ A, b_C_load_22 0 (zi ((2 : Nat) : Int)) A = rI (gi A 2 9 2) (xst A 17 0 2 (.int 0)) := fun A => by
    rw [e_b_C_load_22, zi_02, zif (by decide) (by decide) (by decide) (by decide), if_neg (by decide)]
  refine (step 0 (by decide) A).trans ((step 1 (by decide) _).trans ((fin _).trans ?_))
  rw [gi_k (by decide), gi_k (by decide)]
theorem q_load_yes {M : xM} (hI : Inv M) {n : Nat} (i2 : IR M (BB M) n) {M1 : xM} (e1 : m_U_read 0 0 M = rI (bz true) M1) (f1 : fz (onC 0 0) M M1) (e8 : gi M1 21 0 8 = zi 0) (e9 : gi M1 21 0 9 = zi (-1)) (hN : ∀ N, RT N (BB M) n 0 → ∃ N1, m_M_parseSetup 0 N = rI (bz true) N1 ∧ fz onV N N1 ∧ (true = true → fz onV8 N N1 ∧ Gst 0 M1 N1) ∧ (true = false → ∃ c f, EC M1 0 c f ∧ ER N1 c f)) : QR PT M (m_L_load 0 0 M) (m_M_load 0) := by
  have hK := hI.2.2.2.2.2.2.1
  obtain ⟨A2, ea, fa, ca⟩ := s_copy (xst M1 19 0 1 (.int 0)) (p := 0) (q := 9) (by decide)
  have l2 : fz onLy M A2 := fz_trans (Ly_Ld (Ld_K f1 (fun k o s h => by have := kC h; omega))) (fz_trans (fz_st rfl) (Ly_9 fa))
  have jA2 : fz onJ M A2 := fz_trans (J_K f1 (fun k o s h => by have := kC h; omega)) (fz_trans (fz_st rfl) (onJ_P9 fa))
  have a19 : gi A2 19 0 1 = 0 := (fr_gi fa (onP_k (by omega)) 1).trans (gi_h _ _ _ _ _)
  have a8 : gi A2 21 0 8 = zi 0 := (fr_gi fa (onP_k (by omega)) 8).trans ((gi_k (by decide)).trans e8)
  have a9 : gi A2 21 0 9 = zi (-1) := (fr_gi fa (onP_k (by omega)) 9).trans ((gi_k (by decide)).trans e9)
  generalize hA : xst (xst (xst (xst A2 26 0 0 (.int (0 &&& 1))) 26 0 1 (.int (0 &&& 1))) 17 0 2 (.int 0)) 39 0 0 (.long (Int32.toInt64 (gi A2 2 9 2))) = A
  have fA : fz (fun k _ _ => Nat.beq k 26 || Nat.beq k 17 || Nat.beq k 39) A2 A := by rw [← hA]; exact fz_step (fz_step (fz_step (fz_st rfl) rfl) rfl) rfl
  have l3 : fz onLy M A := by rw [← hA]; exact fz_step (fz_step (fz_step (fz_step l2 rfl) rfl) rfl) rfl
  have j1 : fz onJ M A := by rw [← hA]; exact fz_step (fz_step (fz_step (fz_step jA2 rfl) rfl) rfl) rfl
  have lyf : ∀ {k o s : Nat}, (k = 30 ∨ 40 ≤ k ∧ k ≠ 100 ∨ k = 1) → onLy k o s = false := fun {k o s} h => by
    unfold onLy onLd
    rw [decide_eq_false (by omega), beq_ff (show k ≠ 17 by omega), beq_ff (show k ≠ 26 by omega), beq_ff (show k ≠ 29 by omega), beq_ff (show k ≠ 39 by omega), beq_ff (show k ≠ 27 by omega)]
    have : Nat.ble k 9 = false ∨ Nat.ble 2 k = false := by
      rcases h with h | h | h
      · subst h; exact Or.inl rfl
      · left
        cases e : Nat.ble k 9 with
        | false => rfl
        | true => have := Nat.le_of_ble_eq_true e; omega
      · subst h; exact Or.inr rfl
    rcases this with e | e
    · rw [e, Bool.and_false]; rfl
    · rw [e]; rfl
  have x27 : gi A 27 0 4 = gi M 27 0 4 := (fz_gi fA rfl).trans ((fr_gi fa (onP_k (by omega)) 4).trans ((gi_k (by decide)).trans (fz_gi f1 rfl)))
  have x30 : ∀ s, gi A 30 0 s = gi M 30 0 s := fun s => fz_gi l3 (lyf (by omega))
  have iA : IR A (BB M) n := ⟨i2.1, x27.trans i2.2.1, fun k hk => ⟨(x30 k).trans (i2.2.2 k hk).1, (i2.2.2 k hk).2⟩⟩
  have kA : KC A := KC_fz hK l3 (fun k o s q => lyf (by omega))
  have bA : IB A (BB M) := fun k hk => ⟨(x30 k).trans (IB_BB M k hk).1, (IB_BB M k hk).2⟩
  obtain ⟨N0, N1, N2, r0, r1, r2, g0, gV, b9, gy, _⟩ := ref_ld iA kA bA hN
  obtain ⟨h5, h6, b, wb, cb, rb⟩ := gy rfl
  have c9 : CP A2 9 b := ca b (CP_fz cb (fz_st (K := fun k _ _ => Nat.beq k 19) rfl) (fun k s a c => beq_ff (by omega)))
  have eY : gi A2 2 9 2 = zi (nT b) := CP_T c9
  generalize hN5 : xst (xst (xst (xst (xst N2 27 0 4 (.int 0)) 27 0 9 (.int 0)) 27 0 2 (.int 0)) 29 0 0 (.int (0 &&& 1))) 29 0 1 (.int (0 &&& 1)) = N5
  have f5 : fz (fun k _ _ => Nat.beq k 27 || Nat.beq k 29) N2 N5 := by rw [← hN5]; exact fz_step (fz_step (fz_step (fz_step (fz_st rfl) rfl) rfl) rfl) rfl
  have nV : ∀ {k o s : Nat}, k ≠ 28 → k ≠ 27 → onV k o s = false := fun {k o s} h h2 => by
    cases e : onV k o s with
    | false => rfl
    | true => have := (kV e).2; omega
  have n9 : ∀ {k o s : Nat}, k ≠ 28 → on28 9 k o s = false := fun {k o s} h => by
    cases e : on28 9 k o s with
    | false => rfl
    | true => exact absurd (k28 e).1 h
  have fin : ∀ {k o s : Nat}, k ≠ 28 → k ≠ 27 → k ≠ 29 → gi N5 k o s = gi A k o s := fun {k o s} h h2 h3 => by
    rw [fz_gi f5 (by rw [beq_ff h2, beq_ff h3]; rfl), fz_gi gV (nV h h2), fz_gi g0 (n9 h)]
  have l5 : fz onLy M N5 := by
    rw [← hN5]
    exact fz_step (fz_step (fz_step (fz_step (fz_step (fz_trans l3 (fz_trans (Ly_Ld (Ld_K g0 (fun k o s h => by have := k28 h; omega))) (Ly_Ld (Ld_K gV (fun k o s h => by have := kV h; omega))))) rfl) rfl) rfl) rfl) rfl
  have j2 : fz onJ A N5 := by
    rw [← hN5]
    exact fz_step (fz_step (fz_step (fz_step (fz_step (fz_trans (J_K g0 (fun k o s h => by have := k28 h; omega)) (J_K gV (fun k o s h => by have := kV h; omega))) rfl) rfl) rfl) rfl) rfl
  have rb5 : RB N5 b := fun k hk => (fz_gi f5 rfl).trans (rb k hk)
  have cp5 : CP N5 9 b := by
    have q1 : CP A 9 b := CP_fz c9 fA (fun k s a c => by rw [beq_ff (show k ≠ 26 by omega), beq_ff (show k ≠ 17 by omega), beq_ff (show k ≠ 39 by omega)]; rfl)
    have q2 : CP N0 9 b := CP_fz q1 g0 (fun k s a c => n9 (by omega))
    have q3 : CP N2 9 b := CP_fz q2 gV (fun k s a c => nV (by omega) (by omega))
    exact CP_fz q3 f5 (fun k s a c => by rw [beq_ff (show k ≠ 27 by omega), beq_ff (show k ≠ 29 by omega)]; rfl)
  have ag : AG b (bk N5 0) := AG_bk (i := 0) (fun k hk => by
    rw [show 316 * 0 + k = k by omega]
    exact rb5 k hk) wb
  obtain ⟨C, w, g1, g2, g3, g4', g5, g6⟩ := hI.2.1
  refine ⟨0, A, N5, zi (nT b), ?_, ?_, ?_, fun _ => ⟨?_, trivial⟩, SF_J j1, SF_J j2, Inv_mk hI (Ly_Ou l5) ⟨wF_AG wb ag, CP_AG cp5 ag⟩ ⟨0, w, by decide, g2, ?_, ?_, ?_, fun j hj => absurd hj (Nat.not_lt_zero j)⟩ (fun s hs => ⟨false, ?_, ?_, fun q => (nomatch q)⟩) (INP_0 ?_ ?_) ⟨?_, ?_⟩, RM_le (RM_J (fz_trans j1 j2)) (by decide) (by decide)⟩
  · rw [e_m_L_load, e_m_C_load, e1, xbI_r, ite_bt, ea, xbV_r, c_load22, xhI_r, xck_01, ← hA]
    rfl
  · have e2 : gi (xst (xst N2 27 0 4 (.int 0)) 27 0 9 (.int 0)) 28 0 (ix 2) = zi (nT b) := (gi_k (by decide)).trans ((gi_k (by decide)).trans (RB_T rb wb.1))
    rw [e_m_M_load, r0, xbV_r, r1, xbV_r, r2, xbI_r, ite_bt, ite_bt, r_F0, xck_02, xck_12, xck_2, e2, ← hN5]
    rfl
  · rw [← hN5, gi_k (by decide), gi_k (by decide), gi_s (by decide), gi_h]
  · have q : gl N5 39 0 0 = gl A 39 0 0 := by
      rw [fz_gl f5 rfl, fz_gl gV (nV (by decide) (by decide)), fz_gl g0 (n9 (by decide))]
    rw [q, ← hA, gl_h, eY]
  · rw [← hN5, gi_k (by decide), gi_k (by decide), gi_h]; rfl
  · rw [fin (by decide) (by decide) (by decide), ← hA, gi_k (by decide), gi_h]; rfl
  · rw [fin (by decide) (by decide) (by decide), ← hA, gi_k (by decide), gi_s (by decide), gi_k (by decide), gi_k (by decide), fr_gi fa (onP_k (by omega)), gi_k (by decide), fz_gi f1 rfl]; exact g5
  · rw [fin (by decide) (by decide) (by decide), ← hA, gi_k (by decide), gi_k (by decide)]
    have : s = 0 ∨ s = 1 := by omega
    rcases this with rfl | rfl
    · rw [gi_s (by decide), gi_h]; decide
    · rw [gi_h]; decide
  · rw [← hN5]
    have : s = 0 ∨ s = 1 := by omega
    rcases this with rfl | rfl
    · rw [gi_s (by decide), gi_h]; decide
    · rw [gi_h]; decide
  · rw [fin (by decide) (by decide) (by decide), fz_gi fA rfl]; exact a19
  · rw [← hN5, gi_k (by decide), gi_k (by decide), gi_s (by decide), gi_s (by decide), gi_h]
  · rw [fin (by decide) (by decide) (by decide), fz_gi fA rfl, a8, ← hN5, gi_k (by decide), gi_k (by decide), gi_s (by decide), gi_s (by decide), gi_s (by decide), h5]
  · rw [fin (by decide) (by decide) (by decide), fz_gi fA rfl, a9, ← hN5, gi_k (by decide), gi_k (by decide), gi_s (by decide), gi_s (by decide), gi_s (by decide), h6]
theorem q_load {M : xM} (hI : Inv M) : QR PT M (m_L_load 0 0 M) (m_M_load 0) := by
  obtain ⟨n, i1, i2⟩ := hI.2.2.2.1
  have hK := hI.2.2.2.2.2.2.1
  obtain ⟨D, _, _, hD, _⟩ := r_begin i2 hK (IB_BB M)
  obtain ⟨ok, M1, e1, f1, er, hN⟩ := setup_both (o := 0) (p := 0) i1 hK hD
  cases ok with
  | false => exact q_load_no hI i2 e1 f1 hN
  | true => exact q_load_yes hI i2 e1 f1 (er rfl).1 (er rfl).2 hN
