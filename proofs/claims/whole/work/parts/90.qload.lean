/-! a setup is read: both sides alike, at stores of their own -/
theorem rI_inj {x y : Int32} {M N : xM} (h : rI x M = rI y N) : x = y ∧ M = N := by
  injection h with h
  injection h with h1 h2
  injection h1 with h1
  injection h1 with h1
  injection h1 with _ h1
  injection h1 with h1
  exact ⟨h1, h2⟩
theorem bz_inj {a c : Bool} (h : bz a = bz c) : a = c := by
  cases a <;> cases c <;> first | rfl | exact absurd h (by decide)
theorem setup_both {M D : xM} {o p : Nat} {B : Nat → Int} {n : Nat} (hI : IN M o B n) (hK : KC M) (hD : RT D B n 0) : ∃ (ok : Bool) (M1 : xM), m_U_read o p M = rI (bz ok) M1 ∧ fz (onC o p) M M1 ∧ (ok = true → gi M1 21 o 8 = zi 0 ∧ gi M1 21 o 9 = zi (-1)) ∧ ∀ N, RT N B n 0 → ∃ N1, m_M_parseSetup 0 N = rI (bz ok) N1 ∧ fz onV N N1 ∧ (ok = true → fz onV8 N N1 ∧ Gst p M1 N1) ∧ (ok = false → ∃ c f, EC M1 o c f ∧ ER N1 c f) := by
  have f0 : fz (fun k o' _ => Nat.beq k 2 && Nat.beq o' p) M (xst (xst M 2 p 1 (.int 0)) 2 p 2 (.int 0)) := fz_step (fz_st (by rw [show Nat.beq 2 2 = true from rfl, Bool.true_and]; exact Nat.beq_refl p)) (by rw [show Nat.beq 2 2 = true from rfl, Bool.true_and]; exact Nat.beq_refl p)
  have i0 : IN (xst (xst M 2 p 1 (.int 0)) 2 p 2 (.int 0)) o B n := IN_fz hI f0 rfl (fun _ => rfl)
  have k0 : KC (xst (xst M 2 p 1 (.int 0)) 2 p 2 (.int 0)) := KC_fz hK f0 (fun k o' s q => by
    rw [beq_ff (show k ≠ 2 by omega)]; rfl)
  obtain ⟨A, ea, fA, cA, a8, a9⟩ := s_open i0 k0
  have z1 : gi A 2 p 1 = 0 := (fz_gi fA rfl).trans ((gi_s (by decide)).trans (gi_h _ _ _ _ _))
  have z2 : gi A 2 p 2 = 0 := (fz_gi fA rfl).trans (gi_h _ _ _ _ _)
  obtain ⟨ok, M1, D1, e1, _, g1, _, g3, _⟩ := both_read (p := p) cA hD z1 z2
  have fP : fz (onC o p) M A := fz_trans (onC_P (fz_mono (fun k o' s h => by
    obtain ⟨h1, h2⟩ := Bool.and_eq_true_iff.mp h
    unfold onPz
    rw [Nat.eq_of_beq_eq_true h1, h2]; rfl) f0)) (onC_21 fA)
  refine ⟨ok, M1, by rw [e_m_U_read, ea, xbV_r]; exact e1, fz_trans fP g1, fun q => ?_, fun N hN => ?_⟩
  · have f8 := (g3 q).1
    have k8 : ∀ s, 8 ≤ s → onC8 o p 21 o s = false := fun s hs => by
      unfold onC8 on8 onPz
      have : Nat.blt s 8 = false := by
        cases e : Nat.blt s 8 with
        | false => rfl
        | true =>
          have : s < 8 := Nat.le_of_ble_eq_true e
          omega
      rw [this, Bool.and_false]; rfl
    exact ⟨(fz_gi f8 (k8 8 (by decide))).trans a8, (fz_gi f8 (k8 9 (by decide))).trans a9⟩
  · obtain ⟨ok2, M2, N1, e2, e2', _, g2', g3', g4'⟩ := both_read (p := p) cA hN z1 z2
    obtain ⟨q1, q2⟩ := rI_inj (e1.symm.trans e2)
    have q1 := bz_inj q1
    subst q1; subst q2
    exact ⟨N1, e2', g2', fun q => (g3' q).2, g4'⟩
/-- what a load keeps -/
def onOu (k _ s : Nat) : Bool := !(Nat.beq k 1 || Nat.beq k 31 || (Nat.beq k 27 && Nat.beq s 8) || Nat.beq k 43 || Nat.beq k 45 || Nat.beq k 48 || Nat.beq k 52 || Nat.beq k 243 || Nat.beq k 244 || Nat.beq k 46 || Nat.beq k 47 || Nat.beq k 157 || Nat.beq k 246 || Nat.beq k 38)
theorem onOu_t {k o s : Nat} (h : (2 ≤ k ∧ k ≤ 30) ∨ (32 ≤ k ∧ k ≤ 37) ∨ k = 39 ∨ k = 100) (h2 : k = 27 → s ≠ 8) : onOu k o s = true := by
  have e : (Nat.beq k 27 && Nat.beq s 8) = false := by
    by_cases c : k = 27
    · rw [beq_ff (h2 c), Bool.and_false]
    · rw [beq_ff c]; rfl
  unfold onOu
  rw [e, beq_ff (show k ≠ 1 by omega), beq_ff (show k ≠ 31 by omega), beq_ff (show k ≠ 43 by omega), beq_ff (show k ≠ 45 by omega), beq_ff (show k ≠ 48 by omega), beq_ff (show k ≠ 52 by omega), beq_ff (show k ≠ 243 by omega), beq_ff (show k ≠ 244 by omega), beq_ff (show k ≠ 46 by omega), beq_ff (show k ≠ 47 by omega), beq_ff (show k ≠ 157 by omega), beq_ff (show k ≠ 246 by omega), beq_ff (show k ≠ 38 by omega)]
  rfl
theorem Inv_mk {M N : xM} (h : Inv M) (f : fz onOu M N) (p : PLN N 9 0) (hh : HIS N) (hs : SAV N) (hi : INP N) (he : ERR N) : Inv N := by
  obtain ⟨_, _, _, _, _, ⟨len, t, t1, ⟨x1, x2, x3, x4⟩, t3, t4⟩, h7, h8⟩ := h
  have eo : gn N 1 0 8 = gn M 1 0 8 := fz_gn f rfl
  refine ⟨p, hh, hs, hi, he, ⟨len, t, t1, ⟨?_, ?_, ?_, fun i => ?_⟩, (fz_gi f rfl).trans t3, fun i hi => (fz_gi f rfl).trans (t4 i hi)⟩, KC_fz h7 f (fun k o s q => ?_), GB_eq h8 (fun s => fz_gi f rfl)⟩
  · rw [eo, fz_gn f rfl]; exact x1
  · rw [eo, fz_gn f rfl]; exact x2
  · rw [eo, fz_gi f rfl]; exact x3
  · rw [eo, fz_gi f rfl]; exact x4 i
  · rcases q with rfl | rfl | rfl | rfl | rfl | rfl | ⟨rfl | rfl | rfl | rfl, _⟩ <;> rfl
