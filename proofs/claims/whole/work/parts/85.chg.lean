/-! a change, remembered -/
/-- a change, on both sides: remembered, then done -/
theorem HIS_chg {M A A2 N N1 N2 : xM} {b' : Nat → Int} (hI1 : PLN M 9 0) (hI2 : HIS M) (h1 : CH M A) (f2 : fr (onP 9) A A2) (q28 : ∀ s, gi N 28 0 s = gi A2 28 0 s) (q17 : ∀ s, gi N 17 0 s = gi A2 17 0 s) (q27 : gi N 27 0 2 = gi A2 27 0 2) (qP : ∀ (p : Nat) (b : Nat → Int), 1 ≤ p → CP A2 p b → CP N p b) (h4 : RH N N1) (f5 : fz onBK N1 N2) (hP : CP A2 9 b') (hB : RB N2 b') (hw : wF b') : PLN N2 9 0 ∧ HIS N2 := by
  obtain ⟨c, w, hc, hw6, c2, c1, a2, a1, fA, cA⟩ := h1
  obtain ⟨cr, c', hcr, r2, fH, ec, r2', b0, bj⟩ := h4
  obtain ⟨C, W, hC, hW, g3, g4, g5, g6⟩ := hI2
  have k9 : ∀ {k s : Nat}, 2 ≤ k → k ≤ 9 → onH k 9 s = false := fun {k s} a d => by unfold onH; rfl
  have e1 : C = c := by have := zi_inj (by omega) (by omega) (by omega) (by omega) (g4.symm.trans c2); omega
  have e2 : W = w := by have := zi_inj (by omega) (by omega) (by omega) (by omega) (g5.symm.trans c1); omega
  have fM28 : ∀ s, gi N 28 0 s = gi M 28 0 s := fun s => (q28 s).trans ((fr_gi f2 (onP_k (by omega)) s).trans (fz_gi fA (onCH_f (by decide) (by omega))))
  have n272 : gi N 27 0 2 = gi M 27 0 2 := q27.trans ((fr_gi f2 (onP_k (by omega)) 2).trans (fz_gi fA (onCH_f (by decide) (by omega))))
  have e3 : cr = c := by
    have := zi_inj (by omega) (by omega) (by omega) (by omega) (r2.symm.trans (n272.trans g3)); omega
  subst e1; subst e2; subst e3
  have bkN : ∀ i, bk N i = bk M i := fun i => bk_eq (fun k _ => fM28 _)
  have c'6 : 1 ≤ c' ∧ c' ≤ 6 := by rw [ec]; split <;> omega
  have bk2 : ∀ i, 1 ≤ i → bk N2 i = bk N1 i := fun i hi => bk_fz f5 (fun k _ => by
    unfold onBK
    have x1 : onB 28 0 (316 * i + k) = false := rfl
    have x2 : on280 28 0 (316 * i + k) = false := by
      unfold on280
      have : Nat.blt (316 * i + k) 316 = false := by
        cases e : Nat.blt (316 * i + k) 316 with
        | false => rfl
        | true =>
          have : 316 * i + k < 316 := Nat.le_of_ble_eq_true e
          omega
      rw [this]; rfl
    rw [x1, x2]; rfl)
  have bkk : ∀ {k p s : Nat}, 2 ≤ k → k ≤ 9 → onBK k p s = false := fun {k p s} a d => by
    cases e : onBK k p s with
    | false => rfl
    | true =>
      exfalso
      unfold onBK at e
      rcases Bool.or_eq_true_iff.mp e with e | e
      · have := (onB_i e).2; omega
      · unfold on280 at e
        have := Nat.eq_of_beq_eq_true (Bool.and_eq_true_iff.mp (Bool.and_eq_true_iff.mp e).1).2
        omega
  have hkk : ∀ {k p s : Nat}, 2 ≤ k → k ≤ 9 → onH k p s = false := fun {k p s} a d => by
    cases e : onH k p s with
    | false => rfl
    | true =>
      exfalso
      unfold onH at e
      rcases Bool.or_eq_true_iff.mp (Bool.and_eq_true_iff.mp e).2 with e | e
      · have := Nat.eq_of_beq_eq_true (Bool.and_eq_true_iff.mp e).1; omega
      · have := Nat.eq_of_beq_eq_true (Bool.and_eq_true_iff.mp e).1; omega
  -- a class's plan, from one store on
  have cpA : ∀ {p : Nat} {b : Nat → Int}, 1 ≤ p → p ≠ 9 → CP A p b → CP N2 p b := fun {p b} hp hp9 h => by
    have q1 : CP A2 p b := CP_fz h (fr_fz f2) (fun k s a d => onP_k (by omega))
    have q2 : CP N p b := qP p b hp q1
    exact CP_fz (CP_fz q2 fH (fun k s a d => hkk a d)) f5 (fun k s a d => bkk a d)
  have cp9 : CP N2 9 b' := by
    have q2 : CP N 9 b' := qP 9 b' (by decide) hP
    exact CP_fz (CP_fz q2 fH (fun k s a d => hkk a d)) f5 (fun k s a d => bkk a d)
  have ag : AG b' (bk N2 0) := AG_bk (i := 0) (fun k hk => by
    rw [show 316 * 0 + k = k by omega]
    exact hB k hk) hw
  refine ⟨⟨wF_AG hw ag, CP_AG cp9 ag⟩, ⟨c', (W + 1) % 6, c'6.2, Nat.mod_lt _ (by decide), ?_, ?_, ?_, fun j hj => ?_⟩⟩
  · rw [fz_gi f5 rfl]; exact r2'
  · have q : gi N2 17 0 2 = gi A 17 0 2 := (fz_gi f5 rfl).trans ((fz_gi fH rfl).trans ((q17 2).trans (fr_gi f2 (onP_k (by omega)) 2)))
    rw [q, a2, ec]
  · have q : gi N2 17 0 1 = gi A 17 0 1 := (fz_gi f5 rfl).trans ((fz_gi fH rfl).trans ((q17 1).trans (fr_gi f2 (onP_k (by omega)) 1)))
    rw [q, a1]
  · unfold PLN
    rw [bk2 _ (by omega)]
    by_cases ej : j = 0
    · subst ej
      rw [Nat.sub_zero, Nat.sub_zero, b0, bkN 0, show ((W + 1) % 6 + 6) % 6 = (W + 1) % 6 by omega]
      exact ⟨hI1.1, cpA (by omega) (by omega) (cA _ hI1.2)⟩
    · have hjc : j - 1 < cr := by
        rw [ec] at hj
        split at hj <;> omega
      obtain ⟨q1, q2⟩ := g6 (j - 1) hjc
      rw [bj j (by omega) hj, bkN]
      refine ⟨q1, ?_⟩
      have sl : ((W + 1) % 6 + 6 - j) % 6 = (W + 6 - (j - 1)) % 6 := by omega
      rw [sl]
      exact cpA (by omega) (by omega) (CP_fz q2 fA (fun k s a d => onCH_f (by omega) (by omega)))
theorem Inv_chg {M A A2 N N1 N2 : xM} {b' : Nat → Int} (hI : Inv M) (h1 : CH M A) (f2 : fr (onP 9) A A2) (f3 : fz onI A2 N) (h4 : RH N N1) (f5 : fz onBK N1 N2) (hP : CP A2 9 b') (hB : RB N2 b') (hw : wF b') : Inv N2 := by
  have key := HIS_chg hI.1 hI.2.1 h1 f2 (fun s => fz_gi f3 rfl) (fun s => fz_gi f3 rfl) (fz_gi f3 rfl) (fun p b hp q => CP_fz q f3 (fun k s a d => onI_p a d hp)) h4 f5 hP hB hw
  obtain ⟨c, w, hc, hw6, _, _, _, _, fA, _⟩ := h1
  obtain ⟨_, _, _, _, fH, _⟩ := h4
  have q1 : fz onAll M A := fz_mono (fun k o s e => by
    unfold onCH at e
    rcases Bool.or_eq_true_iff.mp e with e | e
    · rw [Nat.eq_of_beq_eq_true (Bool.and_eq_true_iff.mp e).1]
      unfold onAll
      rw [show Nat.beq 17 17 = true from rfl, Bool.or_true, Bool.true_or, Bool.true_or]
    · exact onP_All ⟨by omega, by omega⟩ e) fA
  exact Inv_all hI (fz_trans q1 (fz_trans (All_P ⟨by decide, by decide⟩ f2) (fz_trans (All_I f3) (fz_trans (All_H fH) (All_BK f5))))) key.1 key.2
