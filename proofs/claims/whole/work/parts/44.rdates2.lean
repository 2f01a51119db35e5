/-! the reference's dates -/
theorem r_early {M : xM} {b : Nat → Int} (h : RB M b) (hw : wS b) (hl : wL b) (hx : ∀ t, t < nT b → gi M 33 0 t = zi (bE b t)) : ∃ M', b_M_computeDates_22 0 (zi ((0 : Nat) : Int)) M = b_M_computeDates_84 0 0 (xst M' 27 0 13 (.int 0)) ∧ fz on33 M M' ∧ ∀ t, t < nT b → gi M' 33 0 t = zi (esB b t) := by
  have hn := wS_n hw
  have hac := hw.2.2.2.2.2.2.2
  obtain ⟨rk, rk1, rk2⟩ := hw.2.2.2.2.2.2.2
  have dd := hw.2.2.2.1
  have de := hw.2.2.2.2.1
  have e0 : ∀ t, t < nT b → bE b t ≤ esB b t := fun t ht => eS_ge hac ht
  have eln : ∀ f t, f < nT b → t < nT b → bL b f t = true → esB b f + bD b f ≤ esB b t := fun f t hf ht q => eS_ln hac hf ht q
  have eup : ∀ t, t < nT b → ∀ x : Int, bE b t ≤ x → (∀ g, g < nT b → bL b g t = true → esB b g + bD b g ≤ x) → esB b t ≤ x := fun t ht x h1 h2 => by
    have := mxF_le (P := fun f => bL b f t) (g := fun f => esB b f + bD b f) (a := bE b t) (c := x) (n := nT b) h1 h2
    have e : mxF (fun f => bL b f t) (fun f => esB b f + bD b f) (bE b t) (nT b) = esB b t := eS_eq hac ht
    omega
  refine lpM (B := fun i M' => b_M_computeDates_22 0 (zi (i : Nat)) M') (n := nT b) (fun k M' => fz on33 M M' ∧ ∃ x : Nat → Int, (∀ t, t < nT b → gi M' 33 0 t = zi (x t)) ∧ (∀ t, t < nT b → bE b t ≤ x t ∧ x t ≤ esB b t) ∧ (∀ t, t < nT b → rk t ≤ k → esB b t ≤ x t)) (fun r => ∃ M', r = b_M_computeDates_84 0 0 (xst M' 27 0 13 (.int 0)) ∧ fz on33 M M' ∧ ∀ t, t < nT b → gi M' 33 0 t = zi (esB b t)) ?_ ?_ 0 M (Nat.zero_le _) ⟨fz_refl M, bE b, hx, fun t ht => ⟨Int.le_refl _, e0 t ht⟩, fun t ht hr => ?_⟩
  · intro k M2 hk ⟨f2, x2, g2, u2, c2⟩
    have h2 := RB_33 h f2
    show ∃ s', _ ∧ b_M_computeDates_22 0 (zi (k : Nat)) M2 = b_M_computeDates_22 0 (zi ((k + 1 : Nat) : Int)) s'
    rw [e_b_M_computeDates_22, xck_2, RB_T h2 hw, if_pos (zi_ltn hk (by omega))]
    refine lpM (B := fun i M' => b_M_computeDates_31 0 (zi (k : Nat)) (zi (i : Nat)) M') (n := nT b) (fun f M' => fz on33 M M' ∧ ∃ x : Nat → Int, (∀ t, t < nT b → gi M' 33 0 t = zi (x t)) ∧ (∀ t, t < nT b → bE b t ≤ x t ∧ x t ≤ esB b t) ∧ (∀ t, t < nT b → rk t ≤ k → esB b t ≤ x t) ∧ (∀ t, t < nT b → rk t ≤ k + 1 → ∀ g, g < f → bL b g t = true → esB b g + bD b g ≤ x t)) (fun r => ∃ s', (fz on33 M s' ∧ ∃ x : Nat → Int, (∀ t, t < nT b → gi s' 33 0 t = zi (x t)) ∧ (∀ t, t < nT b → bE b t ≤ x t ∧ x t ≤ esB b t) ∧ (∀ t, t < nT b → rk t ≤ k + 1 → esB b t ≤ x t)) ∧ r = b_M_computeDates_22 0 (zi ((k + 1 : Nat) : Int)) s') ?_ ?_ 0 _ (Nat.zero_le _) ⟨f2, x2, g2, u2, c2, fun t ht _ g hg => absurd hg (Nat.not_lt_zero g)⟩
    · intro f M3 hf ⟨f3, x3, g3, u3, c3, p3⟩
      have h3 := RB_33 h f3
      have uf := u3 f hf
      have df := dd f hf
      have ef := de f hf
      have tf := esB_hi hw hf
      have cf := c3 f hf
      show ∃ s', _ ∧ b_M_computeDates_31 0 (zi (k : Nat)) (zi (f : Nat)) M3 = b_M_computeDates_31 0 (zi (k : Nat)) (zi ((f + 1 : Nat) : Int)) s'
      rw [e_b_M_computeDates_31, xck_2, RB_T h3 hw, if_pos (zi_ltn hf (by omega)), xck_n (by omega) (by decide), r_D h3 (by omega), xbI_r, zix (by omega), g3 f hf, zi_add]
      have v0 : 0 ≤ x3 f + bD b f := by omega
      have v1 : x3 f + bD b f ≤ esB b f + bD b f := by omega
      have v2 : rk f ≤ k → esB b f + bD b f ≤ x3 f + bD b f := fun q => by have := cf q; omega
      generalize x3 f + bD b f = v at v0 v1 v2
      refine lpM (B := fun i M' => b_M_computeDates_50 0 (zi (k : Nat)) (zi (f : Nat)) (zi v) (zi (i : Nat)) M') (n := nT b) (fun i M' => fz on33 M M' ∧ ∃ x : Nat → Int, (∀ t, t < nT b → gi M' 33 0 t = zi (x t)) ∧ (∀ t, t < nT b → bE b t ≤ x t ∧ x t ≤ esB b t) ∧ (∀ t, t < nT b → rk t ≤ k → esB b t ≤ x t) ∧ (∀ t, t < nT b → rk t ≤ k + 1 → ∀ g, g < f → bL b g t = true → esB b g + bD b g ≤ x t) ∧ (∀ t, t < i → t < nT b → bL b f t = true → v ≤ x t)) (fun r => ∃ s', (fz on33 M s' ∧ ∃ x : Nat → Int, (∀ t, t < nT b → gi s' 33 0 t = zi (x t)) ∧ (∀ t, t < nT b → bE b t ≤ x t ∧ x t ≤ esB b t) ∧ (∀ t, t < nT b → rk t ≤ k → esB b t ≤ x t) ∧ (∀ t, t < nT b → rk t ≤ k + 1 → ∀ g, g < f + 1 → bL b g t = true → esB b g + bD b g ≤ x t)) ∧ r = b_M_computeDates_31 0 (zi (k : Nat)) (zi ((f + 1 : Nat) : Int)) s') ?_ ?_ 0 _ (Nat.zero_le _) ⟨f3, x3, g3, u3, c3, p3, fun t ht => absurd ht (Nat.not_lt_zero t)⟩
      · intro t M4 ht ⟨f4, x4, g4, u4, c4, p4, w4⟩
        have h4 := RB_33 h f4
        have ut := u4 t ht
        have et := de t ht
        have tt := esB_hi hw ht
        show ∃ s', _ ∧ b_M_computeDates_50 0 (zi (k : Nat)) (zi (f : Nat)) (zi v) (zi (t : Nat)) M4 = b_M_computeDates_50 0 (zi (k : Nat)) (zi (f : Nat)) (zi v) (zi ((t + 1 : Nat) : Int)) s'
        rw [e_b_M_computeDates_50, xck_2, RB_T h4 hw, if_pos (zi_ltn ht (by omega)), r_link h4 hl (by omega) (by omega), xbI_r, ite_b, zi_suc]
        cases hb : bL b f t with
        | false =>
          refine ⟨M4, ⟨f4, x4, g4, u4, c4, p4, fun s hs hs2 q => ?_⟩, by rw [if_neg (by decide)]⟩
          by_cases e : s = t
          · subst e; rw [hb] at q; cases q
          · exact w4 s (by omega) hs2 q
        | true =>
          have lt := eln f t hf ht hb
          rw [if_pos rfl, xck_n (by omega) (by decide), zix (by omega), g4 t ht, zif (by omega) (by omega) (by omega) (by omega)]
          by_cases q2 : x4 t < v
          · refine ⟨xst M4 33 0 t (.int (zi v)), ⟨fz_step f4 rfl, upI x4 t v, fun s hs => ?_, fun s hs => ?_, fun s hs hr => ?_, fun s hs hr g hg q => ?_, fun s hs hs2 q => ?_⟩, by rw [if_pos q2, xck_n (by omega) (by decide)]⟩
            · unfold upI
              by_cases e : s = t
              · subst e; rw [gi_h, if_pos rfl]
              · rw [gi_s e, if_neg e]; exact g4 s hs
            · unfold upI
              by_cases e : s = t
              · subst e; rw [if_pos rfl]; omega
              · rw [if_neg e]; exact u4 s hs
            · unfold upI
              have := c4 s hs hr
              by_cases e : s = t
              · subst e; rw [if_pos rfl]; omega
              · rw [if_neg e]; exact this
            · unfold upI
              have := p4 s hs hr g hg q
              by_cases e : s = t
              · subst e; rw [if_pos rfl]; omega
              · rw [if_neg e]; exact this
            · unfold upI
              by_cases e : s = t
              · rw [if_pos e]; omega
              · rw [if_neg e]; exact w4 s (by omega) hs2 q
          · refine ⟨M4, ⟨f4, x4, g4, u4, c4, p4, fun s hs hs2 q => ?_⟩, by rw [if_neg q2]⟩
            by_cases e : s = t
            · subst e; omega
            · exact w4 s (by omega) hs2 q
      · intro M4 ⟨f4, x4, g4, u4, c4, p4, w4⟩
        have h4 := RB_33 h f4
        refine ⟨M4, ⟨f4, x4, g4, u4, c4, fun t ht hr g hg q => ?_⟩, ?_⟩
        · by_cases e : g = f
          · subst e
            have r1 := rk2 g t hf ht q
            have := v2 (by omega)
            have := w4 t ht ht q
            omega
          · exact p4 t ht hr g (by omega) q
        · show b_M_computeDates_50 0 (zi (k : Nat)) (zi (f : Nat)) (zi v) (zi (nT b : Nat)) M4 = _
          rw [e_b_M_computeDates_50, xck_2, RB_T h4 hw, if_neg (zi_irr _), zi_suc]
    · intro M3 ⟨f3, x3, g3, u3, c3, p3⟩
      have h3 := RB_33 h f3
      refine ⟨M3, ⟨f3, x3, g3, u3, fun t ht hr => eup t ht _ (u3 t ht).1 (fun g hg q => p3 t ht hr g hg q)⟩, ?_⟩
      show b_M_computeDates_31 0 (zi (k : Nat)) (zi (nT b : Nat)) M3 = _
      rw [e_b_M_computeDates_31, xck_2, RB_T h3 hw, if_neg (zi_irr _), zi_suc]
  · intro M2 ⟨f2, x2, g2, u2, c2⟩
    have h2 := RB_33 h f2
    refine ⟨M2, ?_, f2, fun t ht => ?_⟩
    · show b_M_computeDates_22 0 (zi (nT b : Nat)) M2 = _
      rw [e_b_M_computeDates_22, xck_2, RB_T h2 hw, if_neg (zi_irr _)]
    · have := c2 t ht (by have := rk1 t ht; omega)
      have := u2 t ht
      rw [g2 t ht]
      congr 1
      omega
  · refine eup t ht _ (Int.le_refl _) (fun g hg q => ?_)
    have := rk2 g t hg ht q
    omega
theorem r_late {M : xM} {b : Nat → Int} (h : RB M b) (hw : wS b) (hl : wL b) (hx : ∀ t, t < nT b → gi M 34 0 t = zi (etB b - bD b t)) : ∃ M', b_M_computeDates_143 0 (zi ((0 : Nat) : Int)) M = rV M' ∧ fz on34 M M' ∧ ∀ t, t < nT b → gi M' 34 0 t = zi (lsB b t) := by
  have hn := wS_n hw
  have hac := hw.2.2.2.2.2.2.2
  obtain ⟨rk, rk1, rk2⟩ := hw.2.2.2.2.2.2.2
  have dd := hw.2.2.2.1
  have t1 := etB_lo b
  have t2 := etB_hi hw
  have l0 : ∀ t, t < nT b → lsB b t ≤ etB b - bD b t := fun t ht => lsB_hi hw ht
  have lo : ∀ t, t < nT b → 0 ≤ lsB b t := fun t ht => Int.le_trans (esB_lo hw ht) (lsB_lo hw ht)
  have lln : ∀ f t, f < nT b → t < nT b → bL b f t = true → lsB b f ≤ lsB b t - bD b f := fun f t hf ht q => lS_ln hac hf ht q
  have ldn : ∀ t, t < nT b → ∀ y : Int, y ≤ etB b - bD b t → (∀ g, g < nT b → bL b t g = true → y ≤ lsB b g - bD b t) → y ≤ lsB b t := fun t ht y h1 h2 => by
    have := le_mnF (P := fun s => bL b t s) (g := fun s => lsB b s) (a := etB b) (c := y + bD b t) (n := nT b) (by omega) (fun i hi q => by have := h2 i hi q; omega)
    have e : mnF (fun s => bL b t s) (fun s => lsB b s) (etB b) (nT b) - bD b t = lsB b t := lS_eq hac ht
    omega
  refine lpM (B := fun i M' => b_M_computeDates_143 0 (zi (i : Nat)) M') (n := nT b) (fun k M' => fz on34 M M' ∧ ∃ y : Nat → Int, (∀ t, t < nT b → gi M' 34 0 t = zi (y t)) ∧ (∀ t, t < nT b → lsB b t ≤ y t ∧ y t ≤ etB b - bD b t) ∧ (∀ t, t < nT b → nT b ≤ rk t + 1 + k → y t ≤ lsB b t)) (fun r => ∃ M', r = rV M' ∧ fz on34 M M' ∧ ∀ t, t < nT b → gi M' 34 0 t = zi (lsB b t)) ?_ ?_ 0 M (Nat.zero_le _) ⟨fz_refl M, fun t => etB b - bD b t, hx, fun t ht => ⟨l0 t ht, Int.le_refl _⟩, fun t ht hr => ?_⟩
  · intro k M2 hk ⟨f2, y2, g2, u2, c2⟩
    have h2 := RB_34 h f2
    show ∃ s', _ ∧ b_M_computeDates_143 0 (zi (k : Nat)) M2 = b_M_computeDates_143 0 (zi ((k + 1 : Nat) : Int)) s'
    rw [e_b_M_computeDates_143, xck_2, RB_T h2 hw, if_pos (zi_ltn hk (by omega))]
    refine lpM (B := fun i M' => b_M_computeDates_152 0 (zi (k : Nat)) (zi (i : Nat)) M') (n := nT b) (fun f M' => fz on34 M M' ∧ ∃ y : Nat → Int, (∀ t, t < nT b → gi M' 34 0 t = zi (y t)) ∧ (∀ t, t < nT b → lsB b t ≤ y t ∧ y t ≤ etB b - bD b t) ∧ (∀ t, t < nT b → nT b ≤ rk t + 1 + k → y t ≤ lsB b t) ∧ (∀ g, g < f → g < nT b → nT b ≤ rk g + 1 + (k + 1) → ∀ s, s < nT b → bL b g s = true → y g ≤ lsB b s - bD b g)) (fun r => ∃ s', (fz on34 M s' ∧ ∃ y : Nat → Int, (∀ t, t < nT b → gi s' 34 0 t = zi (y t)) ∧ (∀ t, t < nT b → lsB b t ≤ y t ∧ y t ≤ etB b - bD b t) ∧ (∀ t, t < nT b → nT b ≤ rk t + 1 + (k + 1) → y t ≤ lsB b t)) ∧ r = b_M_computeDates_143 0 (zi ((k + 1 : Nat) : Int)) s') ?_ ?_ 0 _ (Nat.zero_le _) ⟨f2, y2, g2, u2, c2, fun g hg => absurd hg (Nat.not_lt_zero g)⟩
    · intro f M3 hf ⟨f3, y3, g3, u3, c3, p3⟩
      have h3 := RB_34 h f3
      have df := dd f hf
      show ∃ s', _ ∧ b_M_computeDates_152 0 (zi (k : Nat)) (zi (f : Nat)) M3 = b_M_computeDates_152 0 (zi (k : Nat)) (zi ((f + 1 : Nat) : Int)) s'
      rw [e_b_M_computeDates_152, xck_2, RB_T h3 hw, if_pos (zi_ltn hf (by omega))]
      refine lpM (B := fun i M' => b_M_computeDates_161 0 (zi (k : Nat)) (zi (f : Nat)) (zi (i : Nat)) M') (n := nT b) (fun i M' => fz on34 M M' ∧ ∃ y : Nat → Int, (∀ t, t < nT b → gi M' 34 0 t = zi (y t)) ∧ (∀ t, t < nT b → lsB b t ≤ y t ∧ y t ≤ etB b - bD b t) ∧ (∀ t, t < nT b → nT b ≤ rk t + 1 + k → y t ≤ lsB b t) ∧ (∀ g, g < f → g < nT b → nT b ≤ rk g + 1 + (k + 1) → ∀ s, s < nT b → bL b g s = true → y g ≤ lsB b s - bD b g) ∧ (nT b ≤ rk f + 1 + (k + 1) → ∀ s, s < i → s < nT b → bL b f s = true → y f ≤ lsB b s - bD b f)) (fun r => ∃ s', (fz on34 M s' ∧ ∃ y : Nat → Int, (∀ t, t < nT b → gi s' 34 0 t = zi (y t)) ∧ (∀ t, t < nT b → lsB b t ≤ y t ∧ y t ≤ etB b - bD b t) ∧ (∀ t, t < nT b → nT b ≤ rk t + 1 + k → y t ≤ lsB b t) ∧ (∀ g, g < f + 1 → g < nT b → nT b ≤ rk g + 1 + (k + 1) → ∀ s, s < nT b → bL b g s = true → y g ≤ lsB b s - bD b g)) ∧ r = b_M_computeDates_152 0 (zi (k : Nat)) (zi ((f + 1 : Nat) : Int)) s') ?_ ?_ 0 _ (Nat.zero_le _) ⟨f3, y3, g3, u3, c3, p3, fun _ s hs => absurd hs (Nat.not_lt_zero s)⟩
      · intro t M4 ht ⟨f4, y4, g4, u4, c4, p4, w4⟩
        have h4 := RB_34 h f4
        have ut := u4 t ht
        have uf := u4 f hf
        have lt := lo t ht
        have lf := lo f hf
        show ∃ s', _ ∧ b_M_computeDates_161 0 (zi (k : Nat)) (zi (f : Nat)) (zi (t : Nat)) M4 = b_M_computeDates_161 0 (zi (k : Nat)) (zi (f : Nat)) (zi ((t + 1 : Nat) : Int)) s'
        rw [e_b_M_computeDates_161, xck_2, RB_T h4 hw, if_pos (zi_ltn ht (by omega)), r_link h4 hl (by omega) (by omega), xbI_r, ite_b, zi_suc]
        cases hb : bL b f t with
        | false =>
          refine ⟨M4, ⟨f4, y4, g4, u4, c4, p4, fun r s hs hs2 q => ?_⟩, by rw [if_neg (by decide)]⟩
          by_cases e : s = t
          · subst e; rw [hb] at q; cases q
          · exact w4 r s (by omega) hs2 q
        | true =>
          have ll := lln f t hf ht hb
          have r2 := rk2 f t hf ht hb
          have ct := c4 t ht
          have dt := dd t ht
          rw [if_pos rfl, xck_n (by omega) (by decide), r_D h4 (by omega), xbI_r, xck_n (by omega) (by decide), zix (by omega), zix (by omega), g4 t ht, g4 f hf, zi_sub, zif (by omega) (by omega) (by omega) (by omega)]
          by_cases q2 : y4 t - bD b f < y4 f
          · refine ⟨xst M4 34 0 f (.int (zi (y4 t - bD b f))), ⟨fz_step f4 rfl, upI y4 f (y4 t - bD b f), fun s hs => ?_, fun s hs => ?_, fun s hs hr => ?_, fun g hg hg2 hr s hs q => ?_, fun hr s hs hs2 q => ?_⟩, by rw [if_pos q2, xck_n (by omega) (by decide), r_D h4 (by omega), xbI_r, xck_n (by omega) (by decide), zi_sub]⟩
            · unfold upI
              by_cases e : s = f
              · subst e; rw [gi_h, if_pos rfl]
              · rw [gi_s e, if_neg e]; exact g4 s hs
            · unfold upI
              by_cases e : s = f
              · subst e; rw [if_pos rfl]; omega
              · rw [if_neg e]; exact u4 s hs
            · unfold upI
              have := c4 s hs hr
              by_cases e : s = f
              · subst e; rw [if_pos rfl]; omega
              · rw [if_neg e]; exact this
            · unfold upI
              have := p4 g hg hg2 hr s hs q
              rw [if_neg (by omega)]; exact this
            · unfold upI
              rw [if_pos rfl]
              by_cases e : s = t
              · subst e
                have := ct (by omega)
                omega
              · have := w4 hr s (by omega) hs2 q
                omega
          · refine ⟨M4, ⟨f4, y4, g4, u4, c4, p4, fun hr s hs hs2 q => ?_⟩, by rw [if_neg q2]⟩
            by_cases e : s = t
            · subst e
              have := ct (by omega)
              omega
            · exact w4 hr s (by omega) hs2 q
      · intro M4 ⟨f4, y4, g4, u4, c4, p4, w4⟩
        have h4 := RB_34 h f4
        refine ⟨M4, ⟨f4, y4, g4, u4, c4, fun g hg hg2 hr s hs q => ?_⟩, ?_⟩
        · by_cases e : g = f
          · subst e
            exact w4 hr s hs hs q
          · exact p4 g (by omega) hg2 hr s hs q
        · show b_M_computeDates_161 0 (zi (k : Nat)) (zi (f : Nat)) (zi (nT b : Nat)) M4 = _
          rw [e_b_M_computeDates_161, xck_2, RB_T h4 hw, if_neg (zi_irr _), zi_suc]
    · intro M3 ⟨f3, y3, g3, u3, c3, p3⟩
      have h3 := RB_34 h f3
      refine ⟨M3, ⟨f3, y3, g3, u3, fun t ht hr => ldn t ht _ (u3 t ht).2 (fun g hg q => p3 t ht ht hr g hg q)⟩, ?_⟩
      show b_M_computeDates_152 0 (zi (k : Nat)) (zi (nT b : Nat)) M3 = _
      rw [e_b_M_computeDates_152, xck_2, RB_T h3 hw, if_neg (zi_irr _), zi_suc]
  · intro M2 ⟨f2, y2, g2, u2, c2⟩
    have h2 := RB_34 h f2
    refine ⟨M2, ?_, f2, fun t ht => ?_⟩
    · show b_M_computeDates_143 0 (zi (nT b : Nat)) M2 = _
      rw [e_b_M_computeDates_143, xck_2, RB_T h2 hw, if_neg (zi_irr _)]
    · have := c2 t ht (by omega)
      have := u2 t ht
      rw [g2 t ht]
      congr 1
      omega
  · refine ldn t ht _ (Int.le_refl _) (fun g hg q => ?_)
    have := rk2 t g ht hg q
    have := rk1 g hg
    omega
/-- the reference's dates are there -/
def RD (M : xM) (b : Nat → Int) : Prop := gi M 27 0 13 = zi (etB b) ∧ ∀ t, t < nT b → gi M 33 0 t = zi (esB b t) ∧ gi M 34 0 t = zi (lsB b t)
theorem r_dates {M : xM} {b : Nat → Int} (h : RB M b) (hw : wS b) (hl : wL b) : ∃ M', m_M_computeDates 0 M = rV M' ∧ fz onE M M' ∧ RD M' b := by
  have hn := wS_n hw
  have dd := hw.2.2.2.1
  rw [e_m_M_computeDates]
  refine lpM (B := fun i M' => b_M_computeDates_3 0 (zi (i : Nat)) M') (n := nT b) (fun i M' => fz onE M M' ∧ ∀ t, t < i → gi M' 33 0 t = zi (bE b t)) (fun r => ∃ M', r = rV M' ∧ fz onE M M' ∧ RD M' b) ?_ ?_ 0 M (Nat.zero_le _) ⟨fz_refl M, fun t ht => absurd ht (Nat.not_lt_zero t)⟩
  · intro i M1 hi ⟨f1, g1⟩
    have h1 := RB_E h f1
    refine ⟨xst M1 33 0 i (.int (zi (bE b i))), ⟨fz_step f1 rfl, fun t ht => ?_⟩, ?_⟩
    · by_cases e : t = i
      · subst e; rw [gi_h]
      · rw [gi_s e]; exact g1 t (by omega)
    · show b_M_computeDates_3 0 (zi (i : Nat)) M1 = _
      rw [e_b_M_computeDates_3, xck_2, RB_T h1 hw, if_pos (zi_ltn hi (by omega)), r_E h1 (by omega), xbI_r, xck_n (by omega) (by decide), zix (by omega), zi_suc]
  · intro M1 ⟨f1, g1⟩
    have h1 := RB_E h f1
    show ∃ M', b_M_computeDates_3 0 (zi (nT b : Nat)) M1 = _ ∧ _
    rw [e_b_M_computeDates_3, xck_2, RB_T h1 hw, if_neg (zi_irr _)]
    obtain ⟨M2, e2, f2, g2⟩ := r_early h1 hw hl g1
    rw [show (0 : Int32) = zi ((0 : Nat) : Int) from rfl, e2]
    have f3 : fz onE M (xst M2 27 0 13 (.int 0)) := fz_step (fz_trans f1 (on33_E f2)) rfl
    refine lpM (B := fun i M' => b_M_computeDates_84 0 (zi (i : Nat)) M') (n := nT b) (fun i M' => fz onE M M' ∧ gi M' 27 0 13 = zi (mxF (fun _ => true) (fun t => esB b t + bD b t) 0 i) ∧ ∀ t, t < nT b → gi M' 33 0 t = zi (esB b t)) (fun r => ∃ M', r = rV M' ∧ fz onE M M' ∧ RD M' b) ?_ ?_ 0 _ (Nat.zero_le _) ⟨f3, by rw [gi_h]; rfl, fun t ht => by rw [gi_k (by decide)]; exact g2 t ht⟩
    · intro i M4 hi ⟨f4, t4, g4⟩
      have h4 := RB_E h f4
      have b1 : mxF (fun _ => true) (fun t => esB b t + bD b t) 0 i ≤ 1000 := mxF_le (by decide) (fun j hj _ => by
        have := esB_hi hw (show j < nT b by omega)
        have := dd j (by omega)
        omega)
      have b2 := mxF_a (fun _ => true) (fun t => esB b t + bD b t) 0 i
      have b3 := esB_lo hw hi
      have b4 := esB_hi hw hi
      have b5 := dd i hi
      refine ⟨xst M4 27 0 13 (.int (zi (imx (mxF (fun _ => true) (fun t => esB b t + bD b t) 0 i) (esB b i + bD b i)))), ⟨fz_step f4 rfl, by rw [gi_h]; rfl, fun t ht => by rw [gi_k (by decide)]; exact g4 t ht⟩, ?_⟩
      show b_M_computeDates_84 0 (zi (i : Nat)) M4 = b_M_computeDates_84 0 (zi ((i + 1 : Nat) : Int)) _
      rw [e_b_M_computeDates_84, xck_2, RB_T h4 hw, if_pos (zi_ltn hi (by omega)), xck_n (by omega) (by decide), r_D h4 (by omega), xbI_r, zix (by omega), g4 i hi, t4, zi_add, zif (by omega) (by omega) (by omega) (by omega), zi_suc]
      unfold imx
      by_cases c : mxF (fun _ => true) (fun t => esB b t + bD b t) 0 i < esB b i + bD b i
      · rw [if_pos c, if_pos c, xck_n (by omega) (by decide), r_D h4 (by omega), xbI_r, zi_add]
      · rw [if_neg c, if_neg c]
    · intro M4 ⟨f4, t4, g4⟩
      have h4 := RB_E h f4
      have t4 : gi M4 27 0 13 = zi (etB b) := t4
      show ∃ M', b_M_computeDates_84 0 (zi (nT b : Nat)) M4 = _ ∧ _
      rw [e_b_M_computeDates_84, xck_2, RB_T h4 hw, if_neg (zi_irr _)]
      refine lpM (B := fun i M' => b_M_computeDates_121 0 (zi (i : Nat)) M') (n := nT b) (fun i M' => fz onE M M' ∧ gi M' 27 0 13 = zi (etB b) ∧ (∀ t, t < nT b → gi M' 33 0 t = zi (esB b t)) ∧ ∀ t, t < i → gi M' 34 0 t = zi (etB b - bD b t)) (fun r => ∃ M', r = rV M' ∧ fz onE M M' ∧ RD M' b) ?_ ?_ 0 _ (Nat.zero_le _) ⟨f4, t4, g4, fun t ht => absurd ht (Nat.not_lt_zero t)⟩
      · intro i M5 hi ⟨f5, t5, g5, l5⟩
        have h5 := RB_E h f5
        refine ⟨xst M5 34 0 i (.int (zi (etB b - bD b i))), ⟨fz_step f5 rfl, by rw [gi_k (by decide)]; exact t5, fun t ht => by rw [gi_k (by decide)]; exact g5 t ht, fun t ht => ?_⟩, ?_⟩
        · by_cases e : t = i
          · subst e; rw [gi_h]
          · rw [gi_s e]; exact l5 t (by omega)
        · show b_M_computeDates_121 0 (zi (i : Nat)) M5 = _
          rw [e_b_M_computeDates_121, xck_2, RB_T h5 hw, if_pos (zi_ltn hi (by omega)), r_D h5 (by omega), xbI_r, xck_n (by omega) (by decide), zix (by omega), t5, zi_sub, zi_suc]
      · intro M5 ⟨f5, t5, g5, l5⟩
        have h5 := RB_E h f5
        obtain ⟨M6, e6, f6, g6⟩ := r_late h5 hw hl l5
        refine ⟨M6, ?_, fz_trans f5 (on34_E f6), by rw [fz_gi f6 rfl]; exact t5, fun t ht => ⟨by rw [fz_gi f6 rfl]; exact g5 t ht, g6 t ht⟩⟩
        show b_M_computeDates_121 0 (zi (nT b : Nat)) M5 = _
        rw [e_b_M_computeDates_121, xck_2, RB_T h5 hw, if_neg (zi_irr _)]
        exact e6
