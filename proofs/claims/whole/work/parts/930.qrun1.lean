/-! a script is read: both sides alike, at stores of their own -/
theorem kCS {k o s : Nat} (h : onCS k o s = true) : (k = 21 ∧ o = 0) ∨ (k = 22 ∧ o = 0 ∧ s = 1) ∨ k = 24 := by
  unfold onCS on21 onX at h
  rcases Bool.or_eq_true_iff.mp h with h | h
  · obtain ⟨h1, h2⟩ := Bool.and_eq_true_iff.mp h
    exact Or.inl ⟨Nat.eq_of_beq_eq_true h1, Nat.eq_of_beq_eq_true h2⟩
  · rcases Bool.or_eq_true_iff.mp h with h | h
    · obtain ⟨h1, h2⟩ := Bool.and_eq_true_iff.mp h
      obtain ⟨h3, h4⟩ := Bool.and_eq_true_iff.mp h1
      exact Or.inr (Or.inl ⟨Nat.eq_of_beq_eq_true h3, Nat.eq_of_beq_eq_true h4, Nat.eq_of_beq_eq_true h2⟩)
    · exact Or.inr (Or.inr (Nat.eq_of_beq_eq_true (Bool.and_eq_true_iff.mp h).1))
theorem kVS {k o s : Nat} (h : onVS k o s = true) : o = 0 ∧ ((k = 27 ∧ (s = 5 ∨ s = 6 ∨ (17 ≤ s ∧ s ≤ 20))) ∨ k = 38) := by
  unfold onVS on38 at h
  rcases Bool.or_eq_true_iff.mp h with h | h
  · have := kV (kW h)
    refine ⟨this.1, Or.inl ?_⟩
    rcases this.2 with q | q
    · exact q
    · exfalso
      unfold onW at h
      have := Nat.eq_of_beq_eq_true (Bool.and_eq_true_iff.mp (Bool.and_eq_true_iff.mp h).1).1
      omega
  · obtain ⟨h1, h2⟩ := Bool.and_eq_true_iff.mp h
    exact ⟨Nat.eq_of_beq_eq_true h2, Or.inr (Nat.eq_of_beq_eq_true h1)⟩
theorem script_both {M D : xM} {B : Nat → Int} {n : Nat} {b : Nat → Int} (hI : IN M 0 B n) (hK : KC M) (hP : CP M 9 b) (hN : wN b) (hD : RT D B n 0) (hDB : RB D b) (hDG : GB D) : ∃ (ok : Bool) (many : Nat) (M1 : xM), m_R_read 0 0 9 M = rI (bz ok) M1 ∧ fz onCS M M1 ∧ (ok = true → many ≤ 30 ∧ gi M1 22 0 1 = zi (many : Nat) ∧ gi M1 21 0 8 = zi 0 ∧ gi M1 21 0 9 = zi (-1)) ∧ ∀ N, RT N B n 0 → RB N b → GB N → ∃ N1, m_M_parseScript 0 N = rI (zi (if ok = true then (many : Int) else -1)) N1 ∧ fz onVS N N1 ∧ GB N1 ∧ (ok = true → fz onVS8 N N1 ∧ CMS M1 N1 B n b many) ∧ (ok = false → ∃ c f, EC M1 0 c f ∧ ER N1 c f) := by
  have f0 : fz onCS M (xst M 22 0 1 (.int 0)) := fz_st rfl
  have i0 : IN (xst M 22 0 1 (.int 0)) 0 B n := IN_fz hI f0 rfl (fun _ => rfl)
  have k0 : KC (xst M 22 0 1 (.int 0)) := KC_fz hK (fz_st (K := fun k _ _ => Nat.beq k 22) rfl) (fun k o s q => beq_ff (by omega))
  obtain ⟨A, ea, fA, cA, a8, a9⟩ := s_open i0 k0
  have a22 : gi A 22 0 1 = zi ((0 : Nat) : Int) := (fz_gi fA rfl).trans (gi_h _ _ _ _ _)
  have pA : CP A 9 b := CP_fz (CP_fz hP (fz_st (K := fun k _ _ => Nat.beq k 22) rfl) (fun k s a c => beq_ff (by omega))) fA (fun k s a c => on21_k (by omega))
  have noC : ∀ {M' : xM}, CMS A M' B n b 0 := fun {M'} j hj => absurd hj (Nat.not_lt_zero j)
  obtain ⟨ok, many, M1, D1, e1, _, g1, _, _, g3, _⟩ := both_script 31 0 A D 0 (by decide) (by decide) ⟨cA, hD, pA, hDB, hN⟩ hDG a22 noC
  refine ⟨ok, many, M1, ?_, fz_trans f0 (fz_trans (onCS_21 fA) g1), fun q => ?_, fun N hR hB hG => ?_⟩
  · rw [e_m_R_read, ea, xbV_r]; exact e1
  · obtain ⟨f8, _, m30, m22, _⟩ := g3 q
    have k8 : ∀ s, 8 ≤ s → onCS8 21 0 s = false := fun s hs => by
      unfold onCS8 on8 onX
      have : Nat.blt s 8 = false := by
        cases e : Nat.blt s 8 with
        | false => rfl
        | true =>
          have : s < 8 := Nat.le_of_ble_eq_true e
          omega
      rw [this, Bool.and_false]; rfl
    exact ⟨m30, m22, (fz_gi f8 (k8 8 (by decide))).trans a8, (fz_gi f8 (k8 9 (by decide))).trans a9⟩
  · obtain ⟨ok2, many2, M2, N1, e2, e2', _, g2', g2g, g3', g4'⟩ := both_script 31 0 A N 0 (by decide) (by decide) ⟨cA, hR, pA, hB, hN⟩ hG a22 noC
    obtain ⟨q1, q2⟩ := rI_inj (e1.symm.trans e2)
    have q1 := bz_inj q1
    subst q1; subst q2
    have em : ok = true → many2 = many := fun q => by
      obtain ⟨_, _, m1, m2, _⟩ := g3 q
      obtain ⟨_, _, m3, m4, _⟩ := g3' q
      have := zi_inj (by omega) (by omega) (by omega) (by omega) (m4.symm.trans m2)
      omega
    refine ⟨N1, ?_, g2', g2g hG, fun q => ?_, g4'⟩
    · have e2' : m_M_parseScript 0 N = _ := (e_m_M_parseScript 0 N).trans e2'
      rw [e2']
      cases ok with
      | true => rw [if_pos rfl, if_pos rfl, em rfl]
      | false => rw [if_neg (by decide), if_neg (by decide)]
    · rw [← em q]
      exact ⟨(g3' q).2.1, (g3' q).2.2.2.2⟩
