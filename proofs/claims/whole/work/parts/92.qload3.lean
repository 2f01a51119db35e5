/-! the call load -/
def onLd (k o s : Nat) : Bool := decide (k = 21 ∨ k = 19 ∨ k = 100 ∨ (2 ≤ k ∧ k ≤ 9 ∧ o = 0) ∨ (k = 27 ∧ s ≠ 2 ∧ s ≠ 8) ∨ (k = 28 ∧ (s < 316 ∨ 2844 ≤ s)))
theorem Ld_K {K : Nat → Nat → Nat → Bool} {M M' : xM} (f : fz K M M') (h : ∀ k o s, K k o s = true → k = 21 ∨ k = 19 ∨ k = 100 ∨ (2 ≤ k ∧ k ≤ 9 ∧ o = 0) ∨ (k = 27 ∧ s ≠ 2 ∧ s ≠ 8) ∨ (k = 28 ∧ (s < 316 ∨ 2844 ≤ s))) : fz onLd M M' := fz_mono (fun k o s q => decide_eq_true (h k o s q)) f
theorem Ld_Ou {M M' : xM} (f : fz onLd M M') : fz onOu M M' := Ou_K f (fun k o s h => by
  have := of_decide_eq_true h
  exact ⟨by omega, by omega⟩)
theorem PLN_Ld {M M' : xM} {p i : Nat} (h : PLN M p i) (f : fz onLd M M') (hp : 1 ≤ p) (h1 : 1 ≤ i) (h8 : i ≤ 8) : PLN M' p i := by
  have e := bk_fz f (i := i) (fun k hk => decide_eq_false (by omega))
  unfold PLN
  rw [e]
  exact ⟨h.1, CP_fz h.2 f (fun k s a c => decide_eq_false (by omega))⟩
theorem q_load_no {M : xM} (hI : Inv M) {n : Nat} (i2 : IR M (BB M) n) {M1 : xM} (e1 : m_U_read 0 0 M = rI (bz false) M1) (f1 : fz (onC 0 0) M M1) (hN : ∀ N, RT N (BB M) n 0 → ∃ N1, m_M_parseSetup 0 N = rI (bz false) N1 ∧ fz onV N N1 ∧ (false = true → fz onV8 N N1 ∧ Gst 0 M1 N1) ∧ (false = false → ∃ c f, EC M1 0 c f ∧ ER N1 c f)) : QR PT M (m_L_load 0 0 M) (m_M_load 0) := by
  have hK := hI.2.2.2.2.2.2.1
  have l1 : fz onLd M M1 := Ld_K f1 (fun k o s h => by have := kC h; omega)
  have l2 : fz onLd M (xbump (xst M1 19 0 1 (.int 0)) 1 6) := fz_trans l1 (fz_trans (fz_st rfl) (fun k o s q => bump_n _ _ _ _ _ _ (fun e => by
    have := of_decide_eq_false q
    omega)))
  have cA : ∀ {k o s : Nat}, k ≠ 19 → k ≠ 100 → gi (xbump (xst M1 19 0 1 (.int 0)) 1 6) k o s = gi M1 k o s := fun h1 h2 => (bump_gi h2).trans (gi_k h1)
  have j1 : fz onJ M (xst M1 19 0 1 (.int 0)) := fz_step (J_K f1 (fun k o s h => by have := kC h; omega)) rfl
  have sA : SF M (xbump (xst M1 19 0 1 (.int 0)) 1 6) := SF_trans (SF_J j1) (SF_bump _ _ _)
  have mA : RM M (xbump (xst M1 19 0 1 (.int 0)) 1 6) 1 6 := RM_le (RM_trans (RM_J j1) (RM_bump _ _ _)) (by decide) (by decide)
  have a19 : gi (xbump (xst M1 19 0 1 (.int 0)) 1 6) 19 0 1 = 0 := (bump_gi (by decide)).trans (gi_h _ _ _ _ _)
  generalize hA : xbump (xst M1 19 0 1 (.int 0)) 1 6 = A at *
  have x30 : ∀ s, gi A 30 0 s = gi M 30 0 s := fun s => fz_gi l2 (decide_eq_false (by omega))
  have iA : IR A (BB M) n := ⟨i2.1, (cA (by decide) (by decide)).trans ((fz_gi f1 rfl).trans i2.2.1), fun k hk => ⟨(x30 k).trans (i2.2.2 k hk).1, (i2.2.2 k hk).2⟩⟩
  have kA : KC A := KC_fz hK l2 (fun k o s q => decide_eq_false (by omega))
  have bA : IB A (BB M) := IB_fz (IB_BB M) l2 (fun s => decide_eq_false (by omega))
  obtain ⟨N0, N1, N2, r0, r1, r2, g0, gV, b9, _, gno⟩ := ref_ld iA kA bA hN
  obtain ⟨c, f, ec, ef⟩ := gno rfl
  have l3 : fz onLd M N2 := fz_trans l2 (fz_trans (Ld_K g0 (fun k o s h => by have := k28 h; omega)) (Ld_K gV (fun k o s h => by have := kV h; omega)))
  have l4 : fz onLd M (xst N2 27 0 4 (.int 0)) := fz_step l3 rfl
  obtain ⟨N4, r4, g4, b4⟩ := r_copy (xst N2 27 0 4 (.int 0)) (i := 9) (j := 0) (by decide) (by decide) (by decide)
  have r4 : m_M_copyBlock 0 9 0 _ = _ := r4
  have l5 : fz onLd M (xst N4 27 0 9 (.int 1)) := fz_step (fz_trans l4 (Ld_K g4 (fun k o s h => by have := k28 h; omega))) rfl
  have n4 : ∀ {k o s : Nat}, k ≠ 28 → on28 0 k o s = false := fun {k o s} h => by
    cases e : on28 0 k o s with
    | false => rfl
    | true => exact absurd (k28 e).1 h
  have nV : ∀ {k o s : Nat}, k ≠ 28 → k ≠ 27 → onV k o s = false := fun {k o s} h h2 => by
    cases e : onV k o s with
    | false => rfl
    | true => have := (kV e).2; omega
  have n9 : ∀ {k o s : Nat}, k ≠ 28 → on28 9 k o s = false := fun {k o s} h => by
    cases e : on28 9 k o s with
    | false => rfl
    | true => exact absurd (k28 e).1 h
  -- what stands at the end, out of the class's store
  have fin : ∀ {k o s : Nat}, k ≠ 28 → k ≠ 27 → gi (xst N4 27 0 9 (.int 1)) k o s = gi A k o s := fun {k o s} h h2 => by
    rw [gi_k h2, fz_gi g4 (n4 h), gi_k h2, fz_gi gV (nV h h2), fz_gi g0 (n9 h)]
  have j2 : fz onJ A (xst N4 27 0 9 (.int 1)) := fz_trans (J_K g0 (fun k o s h => by have := k28 h; omega)) (fz_trans (J_K gV (fun k o s h => by have := kV h; omega)) (fz_trans (fz_st rfl) (fz_trans (J_K g4 (fun k o s h => by have := k28 h; omega)) (fz_st rfl))))
  have b0 : bk (xst N4 27 0 9 (.int 1)) 0 = bk M 0 := by
    have q1 : bk (xst N4 27 0 9 (.int 1)) 0 = bk N4 0 := bk_eq (fun k _ => gi_k (by decide))
    have q2 : bk (xst N2 27 0 4 (.int 0)) 9 = bk N2 9 := bk_eq (fun k _ => gi_k (by decide))
    have q3 : bk A 0 = bk M 0 := bk_eq (fun k _ => (cA (by decide) (by decide)).trans (fz_gi f1 rfl))
    rw [q1, b4, q2, b9, q3]
  obtain ⟨C, w, g1, g2, g3, g4', g5, g6⟩ := hI.2.1
  refine ⟨1, A, xst N4 27 0 9 (.int 1), 0, ?_, ?_, gi_h _ _ _ _ _, fun q => absurd q (by decide), sA, SF_J j2, Inv_mk hI (Ld_Ou l5) ⟨?_, ?_⟩ ⟨C, w, g1, g2, (fz_gi l5 (decide_eq_false (by omega))).trans g3, (fz_gi l5 (decide_eq_false (by omega))).trans g4', (fz_gi l5 (decide_eq_false (by omega))).trans g5, fun j hj => PLN_Ld (g6 j hj) l5 (by omega) (by omega) (by omega)⟩ (fun s hs => ?_) (INP_0 ?_ ?_) ⟨?_, ?_⟩, RM_le (RM_trans mA (RM_J j2)) (by decide) (by decide)⟩
  · rw [e_m_L_load, e_m_C_load, e1, xbI_r, ite_bf, hA, xhI_e, if_pos rfl]
  · rw [e_m_M_load, r0, xbV_r, r1, xbV_r, r2, xbI_r, ite_bf, r4, xbV_r, ite_bf, r_F1]
  · rw [b0]; exact hI.1.1
  · rw [b0]; exact CP_fz hI.1.2 l5 (fun k s a c => decide_eq_false (by omega))
  · obtain ⟨fl, s1, s2, s3⟩ := hI.2.2.1 s hs
    exact ⟨fl, (fz_gi l5 (decide_eq_false (by omega))).trans s1, (fz_gi l5 (decide_eq_false (by omega))).trans s2, fun q => PLN_Ld (s3 q) l5 (by omega) (by omega) (by omega)⟩
  · rw [fin (by decide) (by decide)]; exact a19
  · rw [gi_s (by decide), fz_gi g4 (n4 (by decide)), gi_h]
  · rw [fin (by decide) (by decide), cA (by decide) (by decide), ec.1, gi_s (by decide), fz_gi g4 (n4 (by decide)), gi_s (by decide), ef.1]
  · rw [fin (by decide) (by decide), cA (by decide) (by decide), ec.2, gi_s (by decide), fz_gi g4 (n4 (by decide)), gi_s (by decide), ef.2]
/-- what a load changes when it succeeds -/
def onLy (k o s : Nat) : Bool := onLd k o s || Nat.beq k 17 || Nat.beq k 26 || Nat.beq k 29 || Nat.beq k 39 || (Nat.beq k 27 && Nat.beq s 2) || ((Nat.ble 2 k && Nat.ble k 9) && Nat.beq o 9)
theorem Ly_Ou {M M' : xM} (f : fz onLy M M') : fz onOu M M' := Ou_K f (fun k o s h => by
  unfold onLy at h
  rcases Bool.or_eq_true_iff.mp h with h | h
  · rcases Bool.or_eq_true_iff.mp h with h | h
    · rcases Bool.or_eq_true_iff.mp h with h | h
      · rcases Bool.or_eq_true_iff.mp h with h | h
        · rcases Bool.or_eq_true_iff.mp h with h | h
          · rcases Bool.or_eq_true_iff.mp h with h | h
            · have := of_decide_eq_true h
              exact ⟨by omega, by omega⟩
            · have := Nat.eq_of_beq_eq_true h; exact ⟨by omega, by omega⟩
          · have := Nat.eq_of_beq_eq_true h; exact ⟨by omega, by omega⟩
        · have := Nat.eq_of_beq_eq_true h; exact ⟨by omega, by omega⟩
      · have := Nat.eq_of_beq_eq_true h; exact ⟨by omega, by omega⟩
    · obtain ⟨h1, h2⟩ := Bool.and_eq_true_iff.mp h
      have := Nat.eq_of_beq_eq_true h1
      have := Nat.eq_of_beq_eq_true h2
      exact ⟨by omega, by omega⟩
  · obtain ⟨h1, _⟩ := Bool.and_eq_true_iff.mp h
    obtain ⟨h2, h3⟩ := Bool.and_eq_true_iff.mp h1
    have h2 := Nat.le_of_ble_eq_true h2
    have h3 := Nat.le_of_ble_eq_true h3
    exact ⟨by omega, by omega⟩)
