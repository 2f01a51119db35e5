/-! the reference's steps and dates -/
def on32 (k o _ : Nat) : Bool := Nat.beq o 0 && Nat.beq k 32
def on33 (k o _ : Nat) : Bool := Nat.beq o 0 && Nat.beq k 33
def on34 (k o _ : Nat) : Bool := Nat.beq o 0 && Nat.beq k 34
def onE (k o s : Nat) : Bool := Nat.beq o 0 && ((Nat.beq k 27 && Nat.beq s 13) || (Nat.beq k 33 || Nat.beq k 34))
theorem on32_B {M M' : xM} (f : fz on32 M M') : fz onB M M' := fz_mono (fun k o s h => by
  obtain ⟨h1, h2⟩ := Bool.and_eq_true_iff.mp h
  obtain rfl := Nat.eq_of_beq_eq_true h1
  obtain rfl := Nat.eq_of_beq_eq_true h2
  rfl) f
theorem on33_E {M M' : xM} (f : fz on33 M M') : fz onE M M' := fz_mono (fun k o s h => by
  obtain ⟨h1, h2⟩ := Bool.and_eq_true_iff.mp h
  obtain rfl := Nat.eq_of_beq_eq_true h1
  obtain rfl := Nat.eq_of_beq_eq_true h2
  rfl) f
theorem on34_E {M M' : xM} (f : fz on34 M M') : fz onE M M' := fz_mono (fun k o s h => by
  obtain ⟨h1, h2⟩ := Bool.and_eq_true_iff.mp h
  obtain rfl := Nat.eq_of_beq_eq_true h1
  obtain rfl := Nat.eq_of_beq_eq_true h2
  rfl) f
theorem onE_B {M M' : xM} (f : fz onE M M') : fz onB M M' := fz_mono (fun k o s h => by
  obtain ⟨h1, h2⟩ := Bool.and_eq_true_iff.mp h
  obtain rfl := Nat.eq_of_beq_eq_true h1
  rcases Bool.or_eq_true_iff.mp h2 with h2 | h2
  · obtain ⟨h3, h4⟩ := Bool.and_eq_true_iff.mp h2
    obtain rfl := Nat.eq_of_beq_eq_true h3
    obtain rfl := Nat.eq_of_beq_eq_true h4
    rfl
  · rcases Bool.or_eq_true_iff.mp h2 with h2 | h2
    · obtain rfl := Nat.eq_of_beq_eq_true h2; rfl
    · obtain rfl := Nat.eq_of_beq_eq_true h2; rfl) f
theorem RB_32 {M M' : xM} {b : Nat → Int} (h : RB M b) (f : fz on32 M M') : RB M' b := RB_fz h f (fun _ => rfl)
theorem RB_E {M M' : xM} {b : Nat → Int} (h : RB M b) (f : fz onE M M') : RB M' b := RB_fz h f (fun _ => rfl)
theorem RB_33 {M M' : xM} {b : Nat → Int} (h : RB M b) (f : fz on33 M M') : RB M' b := RB_fz h f (fun _ => rfl)
theorem RB_34 {M M' : xM} {b : Nat → Int} (h : RB M b) (f : fz on34 M M') : RB M' b := RB_fz h f (fun _ => rfl)
/-- steps in the middle of a level -/
def wkF (d : Nat → Int) (k : Nat) (A : Nat → Bool) (s : Nat) : Int := if d s ≠ -1 then d s else if A s = true then (k : Int) + 1 else -1
theorem wkF_bd {d : Nat → Int} {k : Nat} {A : Nat → Bool} {s : Nat} (h : -1 ≤ d s ∧ d s ≤ k) : -1 ≤ wkF d k A s ∧ wkF d k A s ≤ k + 1 := by
  unfold wkF
  split
  · omega
  · split <;> omega
theorem wkF_k {d : Nat → Int} {k : Nat} {A : Nat → Bool} {s : Nat} (h : -1 ≤ d s ∧ d s ≤ k) : (wkF d k A s = k) = (d s = k) := by
  apply propext
  unfold wkF
  split
  · exact Iff.rfl
  · rename_i c
    split <;> omega
theorem wkF_ext {d : Nat → Int} {k : Nat} {A B : Nat → Bool} {s : Nat} (h : A s = B s) : wkF d k A s = wkF d k B s := by
  unfold wkF; rw [h]
theorem wkF_up {d : Nat → Int} {k : Nat} {A : Nat → Bool} {t s : Nat} : wkF d k (fun x => A x || (x == t)) s = if s = t ∧ wkF d k A t = -1 then (k : Int) + 1 else wkF d k A s := by
  by_cases e : s = t
  · subst e
    unfold wkF
    by_cases c : d s = -1
    · cases A s <;> simp [c]
    · simp [c]
  · have : (s == t) = false := by simp [e]
    rw [wkF_ext (A := fun x => A x || (x == t)) (B := A) (by simp [this])]
    exact (if_neg (fun q => e q.1)).symm
theorem r_walk {M : xM} {b : Nat → Int} (h : RB M b) (hw : wS b) (hl : wL b) {a : Nat} (ha : a < nT b) : ∃ M', m_M_walkFrom 0 (zi a) M = rV M' ∧ fz on32 M M' ∧ ∀ t, t < nT b → gi M' 32 0 t = zi (dF (nT b) (bL b) a (nT b) t) := by
  have hn := wS_n hw
  rw [e_m_M_walkFrom]
  refine lpM (B := fun i M' => b_M_walkFrom_3 0 (zi a) (zi (i : Nat)) M') (n := 12) (fun i M' => fz on32 M M' ∧ ∀ t, t < i → gi M' 32 0 t = zi (-1)) (fun r => ∃ M', r = rV M' ∧ fz on32 M M' ∧ ∀ t, t < nT b → gi M' 32 0 t = zi (dF (nT b) (bL b) a (nT b) t)) ?_ ?_ 0 M (Nat.zero_le _) ⟨fz_refl M, fun k hk => absurd hk (Nat.not_lt_zero k)⟩
  · intro i M' hi ⟨f, g⟩
    refine ⟨xst M' 32 0 i (.int (zi (-1))), ⟨fz_step f rfl, fun t ht => ?_⟩, ?_⟩
    · by_cases e : t = i
      · subst e; rw [gi_h]
      · rw [gi_s e]; exact g t (by omega)
    · show b_M_walkFrom_3 0 (zi a) (zi (i : Nat)) M' = _
      rw [e_b_M_walkFrom_3, zi_12, zif (by omega) (by omega) (by decide) (by decide), if_pos (by omega), xck_n hi (by decide), zix (by omega), zi_m1, zi_suc]
  · intro M1 ⟨f, g⟩
    show ∃ M', b_M_walkFrom_3 0 (zi a) (zi ((12 : Nat) : Int)) M1 = rV M' ∧ _
    rw [e_b_M_walkFrom_3, zi_12, zif (by decide) (by decide) (by decide) (by decide), if_neg (by decide), xck_n (by omega) (by decide), zix (by omega)]
    have dbd : ∀ k s, -1 ≤ dF (nT b) (bL b) a k s ∧ dF (nT b) (bL b) a k s ≤ k := fun k s => dF_bd
    refine lpM (B := fun i M' => b_M_walkFrom_21 0 (zi (i : Nat)) M') (n := nT b) (fun i M' => fz on32 M M' ∧ ∀ t, t < nT b → gi M' 32 0 t = zi (dF (nT b) (bL b) a i t)) (fun r => ∃ M', r = rV M' ∧ fz on32 M M' ∧ ∀ t, t < nT b → gi M' 32 0 t = zi (dF (nT b) (bL b) a (nT b) t)) ?_ ?_ 0 _ (Nat.zero_le _) ⟨fz_step f rfl, fun t ht => ?_⟩
    · intro k M2 hk ⟨f2, g2⟩
      have h2 := RB_32 h f2
      show ∃ s', _ ∧ b_M_walkFrom_21 0 (zi (k : Nat)) M2 = b_M_walkFrom_21 0 (zi ((k + 1 : Nat) : Int)) s'
      rw [e_b_M_walkFrom_21, xck_2, RB_T h2 hw, if_pos (zi_ltn hk (by omega))]
      refine lpM (B := fun i M' => b_M_walkFrom_30 0 (zi (k : Nat)) (zi (i : Nat)) M') (n := nT b) (fun i M' => fz on32 M M' ∧ ∀ t, t < nT b → gi M' 32 0 t = zi (wkF (dF (nT b) (bL b) a k) k (fun s => anyN i (fun c => decide (dF (nT b) (bL b) a k c = k) && bL b c s)) t)) (fun r => ∃ s', (fz on32 M s' ∧ ∀ t, t < nT b → gi s' 32 0 t = zi (dF (nT b) (bL b) a (k + 1) t)) ∧ r = b_M_walkFrom_21 0 (zi ((k + 1 : Nat) : Int)) s') ?_ ?_ 0 _ (Nat.zero_le _) ⟨f2, fun t ht => ?_⟩
      · intro c M3 hc ⟨f3, g3⟩
        have h3 := RB_32 h f3
        have wc := wkF_bd (A := fun s => anyN c (fun c => decide (dF (nT b) (bL b) a k c = k) && bL b c s)) (dbd k c)
        show ∃ s', _ ∧ b_M_walkFrom_30 0 (zi (k : Nat)) (zi (c : Nat)) M3 = b_M_walkFrom_30 0 (zi (k : Nat)) (zi ((c + 1 : Nat) : Int)) s'
        rw [e_b_M_walkFrom_30, xck_2, RB_T h3 hw, if_pos (zi_ltn hc (by omega)), xck_n (by omega) (by decide), zix (by omega), g3 c hc, zife (by omega) (by omega) (by omega) (by omega), zi_suc]
        simp only [wkF_k (dbd k c)]
        by_cases q : dF (nT b) (bL b) a k c = k
        · rw [if_pos q]
          refine lpM (B := fun i M' => b_M_walkFrom_46 0 (zi (k : Nat)) (zi (c : Nat)) (zi (i : Nat)) M') (n := nT b) (fun i M' => fz on32 M M' ∧ ∀ t, t < nT b → gi M' 32 0 t = zi (wkF (dF (nT b) (bL b) a k) k (fun s => anyN c (fun c => decide (dF (nT b) (bL b) a k c = k) && bL b c s) || (decide (s < i) && bL b c s)) t)) (fun r => ∃ s', (fz on32 M s' ∧ ∀ t, t < nT b → gi s' 32 0 t = zi (wkF (dF (nT b) (bL b) a k) k (fun s => anyN (c + 1) (fun c => decide (dF (nT b) (bL b) a k c = k) && bL b c s)) t)) ∧ r = b_M_walkFrom_30 0 (zi (k : Nat)) (zi ((c + 1 : Nat) : Int)) s') ?_ ?_ 0 _ (Nat.zero_le _) ⟨f3, fun t ht => ?_⟩
          · intro t M4 ht ⟨f4, g4⟩
            have h4 := RB_32 h f4
            have wt := wkF_bd (A := fun s => anyN c (fun c => decide (dF (nT b) (bL b) a k c = k) && bL b c s) || (decide (s < t) && bL b c s)) (dbd k t)
            show ∃ s', _ ∧ b_M_walkFrom_46 0 (zi (k : Nat)) (zi (c : Nat)) (zi (t : Nat)) M4 = b_M_walkFrom_46 0 (zi (k : Nat)) (zi (c : Nat)) (zi ((t + 1 : Nat) : Int)) s'
            rw [e_b_M_walkFrom_46, xck_2, RB_T h4 hw, if_pos (zi_ltn ht (by omega)), r_link h4 hl (by omega) (by omega), xbI_r, ite_b, zi_suc]
            have nx : ∀ s, wkF (dF (nT b) (bL b) a k) k (fun s => anyN c (fun c => decide (dF (nT b) (bL b) a k c = k) && bL b c s) || (decide (s < t + 1) && bL b c s)) s = if bL b c t = true then wkF (dF (nT b) (bL b) a k) k (fun x => (anyN c (fun c => decide (dF (nT b) (bL b) a k c = k) && bL b c x) || (decide (x < t) && bL b c x)) || (x == t)) s else wkF (dF (nT b) (bL b) a k) k (fun x => anyN c (fun c => decide (dF (nT b) (bL b) a k c = k) && bL b c x) || (decide (x < t) && bL b c x)) s := fun s => by
              by_cases e : s = t
              · subst e
                cases hb : bL b c s with
                | true =>
                  rw [if_pos rfl]
                  refine wkF_ext ?_
                  simp [hb]
                | false =>
                  rw [if_neg (by decide)]
                  refine wkF_ext ?_
                  simp [hb]
              · have e1 : decide (s < t + 1) = decide (s < t) := by
                  apply decide_eq_decide.mpr; omega
                have e2 : (s == t) = false := by simp [e]
                split
                · refine wkF_ext ?_
                  simp only [e1, e2, Bool.or_false]
                · refine wkF_ext ?_
                  simp only [e1]
            cases hb : bL b c t with
            | false =>
              refine ⟨M4, ⟨f4, fun s hs => ?_⟩, by rw [if_neg (by decide)]⟩
              rw [nx s, hb, if_neg (by decide)]
              exact g4 s hs
            | true =>
              rw [if_pos rfl, xck_n (by omega) (by decide), zix (by omega), g4 t ht, zi_m1, zife (by omega) (by omega) (by omega) (by omega)]
              by_cases q2 : wkF (dF (nT b) (bL b) a k) k (fun s => anyN c (fun c => decide (dF (nT b) (bL b) a k c = k) && bL b c s) || (decide (s < t) && bL b c s)) t = -1
              · refine ⟨xst M4 32 0 t (.int (zi ((k : Int) + 1))), ⟨fz_step f4 rfl, fun s hs => ?_⟩, by rw [if_pos q2, xck_n (by omega) (by decide), zi_01, zi_add]⟩
                rw [nx s, hb, if_pos rfl, wkF_up]
                by_cases e : s = t
                · subst e
                  rw [gi_h, if_pos ⟨rfl, q2⟩]
                · rw [gi_s e, if_neg (fun z => e z.1)]
                  exact g4 s hs
              · refine ⟨M4, ⟨f4, fun s hs => ?_⟩, by rw [if_neg q2]⟩
                rw [nx s, hb, if_pos rfl, wkF_up, if_neg (fun z => q2 z.2)]
                exact g4 s hs
          · intro M4 ⟨f4, g4⟩
            have h4 := RB_32 h f4
            refine ⟨M4, ⟨f4, fun s hs => ?_⟩, ?_⟩
            · rw [g4 s hs]
              congr 1
              refine wkF_ext ?_
              show _ = (anyN c _ || (decide (dF (nT b) (bL b) a k c = k) && bL b c s))
              rw [decide_eq_true hs, decide_eq_true q]
            · show b_M_walkFrom_46 0 (zi (k : Nat)) (zi (c : Nat)) (zi (nT b : Nat)) M4 = _
              rw [e_b_M_walkFrom_46, xck_2, RB_T h4 hw, if_neg (zi_irr _), zi_suc]
          · rw [g3 t ht]
            congr 1
            refine wkF_ext ?_
            simp
        · rw [if_neg q]
          refine ⟨M3, ⟨f3, fun s hs => ?_⟩, rfl⟩
          rw [g3 s hs]
          congr 1
          refine wkF_ext ?_
          show _ = (anyN c _ || (decide (dF (nT b) (bL b) a k c = k) && bL b c s))
          rw [decide_eq_false q, Bool.false_and, Bool.or_false]
      · intro M3 ⟨f3, g3⟩
        have h3 := RB_32 h f3
        refine ⟨M3, ⟨f3, fun s hs => g3 s hs⟩, ?_⟩
        show b_M_walkFrom_30 0 (zi (k : Nat)) (zi (nT b : Nat)) M3 = _
        rw [e_b_M_walkFrom_30, xck_2, RB_T h3 hw, if_neg (zi_irr _), zi_suc]
      · rw [g2 t ht]
        congr 1
        unfold wkF
        by_cases c : dF (nT b) (bL b) a k t = -1
        · rw [if_neg (by rw [c]; decide), c]
          rfl
        · rw [if_pos c]
    · intro M2 ⟨f2, g2⟩
      have h2 := RB_32 h f2
      refine ⟨M2, ?_, f2, g2⟩
      show b_M_walkFrom_21 0 (zi (nT b : Nat)) M2 = _
      rw [e_b_M_walkFrom_21, xck_2, RB_T h2 hw, if_neg (zi_irr _)]
    · show gi _ 32 0 t = zi (if t = a then 0 else -1)
      by_cases e : t = a
      · rw [if_pos e, e, gi_h]; rfl
      · rw [if_neg e, gi_s e]
        exact g t (by omega)
theorem r_followers {M : xM} {b : Nat → Int} (h : RB M b) (hw : wS b) (hl : wL b) {a : Nat} (ha : a < nT b) : ∃ M', m_M_followers 0 (zi a) M = rI (zi (cnt (fun x => aft (nT b) (bL b) a x) (nT b) : Nat)) M' ∧ fz on32 M M' := by
  have hn := wS_n hw
  obtain ⟨M1, h1, f1, g1⟩ := r_walk h hw hl ha
  have hb := RB_32 h f1
  rw [e_m_M_followers, h1, xbV_r]
  refine ⟨M1, ?_, f1⟩
  refine lp (B := fun i => b_M_followers_8 0 (zi (cnt (fun x => aft (nT b) (bL b) a x) i : Nat)) (zi (i : Nat)) M1) (n := nT b) (fun i hi => ?_) ?_ 0 (Nat.zero_le _)
  · show b_M_followers_8 0 (zi (cnt _ i : Nat)) (zi (i : Nat)) M1 = b_M_followers_8 0 (zi ((cnt (fun x => aft (nT b) (bL b) a x) i + (if aft (nT b) (bL b) a i then 1 else 0) : Nat))) (zi ((i + 1 : Nat) : Int)) M1
    have bd := dF_bd (n := nT b) (L := bL b) (a := a) (k := nT b) (b := i)
    rw [e_b_M_followers_8, xck_2, RB_T hb hw, if_pos (zi_ltn hi (by omega)), xck_n (by omega) (by decide), zix (by omega), g1 i hi, zi_00, zif (by decide) (by decide) (by omega) (by omega), zi_suc, zi_suc, zi_add, Int.add_zero]
    unfold aft
    by_cases c : 0 < dF (nT b) (bL b) a (nT b) i
    · rw [if_pos c, decide_eq_true c]; rfl
    · rw [if_neg c, decide_eq_false c]; rfl
  · show b_M_followers_8 0 (zi (cnt _ _ : Nat)) (zi (nT b : Nat)) M1 = _
    rw [e_b_M_followers_8, xck_2, RB_T hb hw, if_neg (zi_irr _)]
theorem r_goes {M : xM} {b : Nat → Int} (h : RB M b) (hw : wS b) (hl : wL b) {f t : Nat} (hf : f < nT b) (ht : t < nT b) : ∃ M', m_M_goesBefore 0 (zi f) (zi t) M = rI (bz (aft (nT b) (bL b) f t)) M' ∧ fz on32 M M' := by
  have hn := wS_n hw
  obtain ⟨M1, h1, f1, g1⟩ := r_walk h hw hl hf
  have bd := dF_bd (n := nT b) (L := bL b) (a := f) (k := nT b) (b := t)
  refine ⟨M1, ?_, f1⟩
  rw [e_m_M_goesBefore, h1, xbV_r, xck_n (by omega) (by decide), zix (by omega), g1 t ht, zi_00, zif (by decide) (by decide) (by omega) (by omega), ← zi_00, xnar_0, xnar_1]
  unfold aft
  by_cases c : 0 < dF (nT b) (bL b) f (nT b) t
  · rw [if_pos c, decide_eq_true c]
  · rw [if_neg c, decide_eq_false c]
theorem r_cycle {M : xM} {b : Nat → Int} (h : RB M b) (hw : wS b) (hl : wL b) {f t : Nat} (hf : f < nT b) (ht : t < nT b) : ∃ M', m_M_cycleLength 0 (zi f) (zi t) M = rI (zi (if dF (nT b) (bL b) t (nT b) f = -1 then -1 else dF (nT b) (bL b) t (nT b) f + 1)) M' ∧ fz on32 M M' := by
  have hn := wS_n hw
  obtain ⟨M1, h1, f1, g1⟩ := r_walk h hw hl ht
  have bd := dF_bd (n := nT b) (L := bL b) (a := t) (k := nT b) (b := f)
  refine ⟨M1, ?_, f1⟩
  rw [e_m_M_cycleLength, h1, xbV_r, xck_n (by omega) (by decide), zix (by omega), g1 f hf, zi_m1, zife (by omega) (by omega) (by omega) (by omega), xck_n (by omega) (by decide), zi_01, zi_add]
  by_cases c : dF (nT b) (bL b) t (nT b) f = -1
  · rw [if_pos c, if_pos c]
  · rw [if_neg c, if_neg c]
theorem r_canLink {M : xM} {b : Nat → Int} (h : RB M b) (hw : wS b) (hl : wL b) {f t : Nat} (hf : f < nT b) (ht : t < nT b) : ∃ M', m_M_canLink 0 (zi f) (zi t) M = rI (bz (!bL b f t && decide (dF (nT b) (bL b) t (nT b) f = -1))) M' ∧ fz on32 M M' := by
  have hn := wS_n hw
  rw [e_m_M_canLink, r_link h hl (by omega) (by omega), xbI_r, ite_b, xnar_0, xnar_1]
  cases hb : bL b f t with
  | true => exact ⟨M, rfl, fz_refl M⟩
  | false =>
    obtain ⟨M1, h1, f1⟩ := r_cycle h hw hl hf ht
    have bd := dF_bd (n := nT b) (L := bL b) (a := t) (k := nT b) (b := f)
    refine ⟨M1, ?_, f1⟩
    rw [if_neg (by decide), h1, xbI_r]
    by_cases c : dF (nT b) (bL b) t (nT b) f = -1
    · rw [if_pos c, if_pos zi_m1.symm, decide_eq_true c]; rfl
    · rw [if_neg c, zi_m1, zife (by omega) (by omega) (by omega) (by omega), if_neg (by omega), decide_eq_false c]; rfl
