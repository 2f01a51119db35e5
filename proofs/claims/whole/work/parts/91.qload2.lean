/-! a setup is loaded -/
theorem Ou_K {K : Nat → Nat → Nat → Bool} {M M' : xM} (f : fz K M M') (h : ∀ k o s, K k o s = true → ((2 ≤ k ∧ k ≤ 30) ∨ k = 39 ∨ k = 100) ∧ (k = 27 → s ≠ 8)) : fz onOu M M' := fz_mono (fun k o s q => onOu_t (by have := (h k o s q).1; omega) (h k o s q).2) f
theorem kC {o p k o' s : Nat} (h : onC o p k o' s = true) : (k = 21 ∧ o' = o) ∨ (2 ≤ k ∧ k ≤ 9 ∧ o' = p) := by
  unfold onC on21 onPz at h
  rcases Bool.or_eq_true_iff.mp h with h | h
  · obtain ⟨h1, h2⟩ := Bool.and_eq_true_iff.mp h
    exact Or.inl ⟨Nat.eq_of_beq_eq_true h1, Nat.eq_of_beq_eq_true h2⟩
  · obtain ⟨h1, h2⟩ := Bool.and_eq_true_iff.mp h
    obtain ⟨h3, h4⟩ := Bool.and_eq_true_iff.mp h1
    exact Or.inr ⟨Nat.le_of_ble_eq_true h3, Nat.le_of_ble_eq_true h4, Nat.eq_of_beq_eq_true h2⟩
theorem k28 {j k o s : Nat} (h : on28 j k o s = true) : k = 28 ∧ o = 0 ∧ 316 * j ≤ s ∧ s < 316 * j + 316 := by
  unfold on28 at h
  obtain ⟨h1, h2⟩ := Bool.and_eq_true_iff.mp h
  obtain ⟨h3, h4⟩ := Bool.and_eq_true_iff.mp h1
  obtain ⟨h5, h6⟩ := Bool.and_eq_true_iff.mp h2
  exact ⟨Nat.eq_of_beq_eq_true h4, Nat.eq_of_beq_eq_true h3, Nat.le_of_ble_eq_true h5, Nat.le_of_ble_eq_true h6⟩
theorem kV {k o s : Nat} (h : onV k o s = true) : o = 0 ∧ ((k = 27 ∧ (s = 5 ∨ s = 6 ∨ (17 ≤ s ∧ s ≤ 20))) ∨ (k = 28 ∧ s < 316)) := by
  unfold onV onW on280 at h
  rcases Bool.or_eq_true_iff.mp h with h | h
  · obtain ⟨h1, h2⟩ := Bool.and_eq_true_iff.mp h
    obtain ⟨h3, h4⟩ := Bool.and_eq_true_iff.mp h1
    refine ⟨Nat.eq_of_beq_eq_true h4, Or.inl ⟨Nat.eq_of_beq_eq_true h3, ?_⟩⟩
    rcases Bool.or_eq_true_iff.mp h2 with h | h
    · obtain ⟨h5, h6⟩ := Bool.and_eq_true_iff.mp h
      have := Nat.le_of_ble_eq_true h5
      have := Nat.le_of_ble_eq_true h6
      omega
    · obtain ⟨h5, h6⟩ := Bool.and_eq_true_iff.mp h
      have := Nat.le_of_ble_eq_true h5
      have := Nat.le_of_ble_eq_true h6
      omega
  · obtain ⟨h1, h2⟩ := Bool.and_eq_true_iff.mp h
    obtain ⟨h3, h4⟩ := Bool.and_eq_true_iff.mp h1
    have h2 : s < 316 := Nat.le_of_ble_eq_true h2
    exact ⟨Nat.eq_of_beq_eq_true h3, Or.inr ⟨Nat.eq_of_beq_eq_true h4, h2⟩⟩
theorem kW {k o s : Nat} (h : onW k o s = true) : onV k o s = true := by unfold onV; rw [h]; rfl
theorem J_K {K : Nat → Nat → Nat → Bool} {M M' : xM} (f : fz K M M') (h : ∀ k o s, K k o s = true → k < 100 ∧ k ≠ 41) : fz onJ M M' := fz_mono (fun k o s q => onJ_t (h k o s q).1 (h k o s q).2) f
theorem INP_0 {N : xM} (h1 : gi N 19 0 1 = 0) (h2 : gi N 27 0 4 = 0) : INP N := ⟨0, ⟨by decide, h1, fun k hk => absurd hk (Nat.not_lt_zero k)⟩, by decide, h2, fun k hk => absurd hk (Nat.not_lt_zero k)⟩
/-- the reference's part of a load, up to the end of the reading -/
theorem ref_ld {M N : xM} {n : Nat} {ok : Bool} {M1 : xM} (i2 : IR N (BB M) n) (hK : KC N) (hb : IB N (BB M)) (hN : ∀ N, RT N (BB M) n 0 → ∃ N1, m_M_parseSetup 0 N = rI (bz ok) N1 ∧ fz onV N N1 ∧ (ok = true → fz onV8 N N1 ∧ Gst 0 M1 N1) ∧ (ok = false → ∃ c f, EC M1 0 c f ∧ ER N1 c f)) : ∃ N0 N1 N2, m_M_copyBlock 0 0 9 N = rV N0 ∧ m_M_begin 0 N0 = rV N1 ∧ m_M_parseSetup 0 N1 = rI (bz ok) N2 ∧ fz (on28 9) N N0 ∧ fz onV N0 N2 ∧ bk N2 9 = bk N 0 ∧ (ok = true → gi N2 27 0 5 = zi 0 ∧ gi N2 27 0 6 = zi (-1) ∧ Gst 0 M1 N2) ∧ (ok = false → ∃ c f, EC M1 0 c f ∧ ER N2 c f) := by
  obtain ⟨N0, e0, f0, b0⟩ := r_copy N (i := 0) (j := 9) (by decide) (by decide) (by decide)
  have n28 : ∀ {k o s : Nat}, k ≠ 28 → on28 9 k o s = false := fun {k o s} h => by
    cases e : on28 9 k o s with
    | false => rfl
    | true => exact absurd (k28 e).1 h
  obtain ⟨N1, e1, f1, hR, g5, g6⟩ := r_begin (IR_fz i2 f0 (n28 (by decide)) (fun _ => n28 (by decide))) (KC_fz hK f0 (fun k o s q => n28 (by omega))) (IB_fz hb f0 (fun _ => n28 (by decide)))
  obtain ⟨N2, e2, f2, g3, g4⟩ := hN N1 hR
  have fV : fz onV N0 N2 := fz_trans (fz_mono (fun k o s h => kW h) f1) f2
  have e0 : m_M_copyBlock 0 0 9 N = rV N0 := e0
  refine ⟨N0, N1, N2, e0, e1, e2, f0, fV, ?_, fun q => ?_, g4⟩
  · rw [← b0]
    exact bk_fz fV (fun k hk => by
      cases e : onV 28 0 (316 * 9 + k) with
      | false => rfl
      | true => have := (kV e).2; omega)
  · obtain ⟨f8, g⟩ := g3 q
    have v8 : ∀ s, s < 17 → onV8 27 0 s = false := fun s hs => by
      unfold onV8 onQ
      have : Nat.ble 17 s = false := by
        cases e : Nat.ble 17 s with
        | false => rfl
        | true => have := Nat.le_of_ble_eq_true e; omega
      rw [this]; rfl
    exact ⟨(fz_gi f8 (v8 5 (by decide))).trans g5, (fz_gi f8 (v8 6 (by decide))).trans g6, g⟩
