/-! the reference drops a task -/
theorem r_linkv {M : xM} {x y : Nat} {c : Int} (hx : x < 12) (hy : y < 12) (h : gi M 28 0 (172 + 12 * x + y) = zi c) (hc : c = 0 ∨ c = 1) : m_M_isLink 0 (zi x) (zi y) M = rI (bz (decide (c = 1))) M := by
  rw [e_m_M_isLink, zi_172, zi_12, zi_mul, zi_add, zi_add, xck_z (by omega) (by omega) (by decide), zixz (by omega) (by omega), show (172 + (x : Int) * 12 + (y : Int)).toNat = 172 + 12 * x + y by omega, h, xnar_0, xnar_1, zi_01, zife (by omega) (by omega) (by decide) (by decide)]
  by_cases e : c = 1
  · rw [if_pos e, decide_eq_true e]
  · rw [if_neg e, decide_eq_false e]
theorem r_setLink {M : xM} {x y : Nat} (hx : x < 12) (hy : y < 12) (v : Int32) : m_M_setLink 0 (zi x) (zi y) v M = rV (xst M 28 0 (172 + 12 * x + y) (.int v)) := by
  rw [e_m_M_setLink, zi_172, zi_12, zi_mul, zi_add, zi_add, xck_z (by omega) (by omega) (by decide), zixz (by omega) (by omega), show (172 + (x : Int) * 12 + (y : Int)).toNat = 172 + 12 * x + y by omega]
theorem ite_z0 {α : Type} (a c : α) : (if (0 : Int32) = 0 then a else c) = a := if_pos rfl
theorem ite_z1 {α : Type} (a c : α) : (if (1 : Int32) = 0 then a else c) = c := if_neg (by decide)
/-- one place of the links -/
theorem r_drop1 {M : xM} {t f g : Nat} (ht : t < 12) (hf : f < 12) (hg : g < 12) {c : Int} (h : sh t f < 12 → sh t g < 12 → gi M 28 0 (172 + 12 * sh t f + sh t g) = zi c) (hc : c = 0 ∨ c = 1) : b_M_drop_40 0 (zi t) (zi f) (zi g) M = b_M_drop_40 0 (zi t) (zi f) (zi ((g + 1 : Nat) : Int)) (xst M 28 0 (172 + 12 * f + g) (.int (if (decide (sh t f < 12) && decide (sh t g < 12)) && decide (c = 1) then 1 else 0))) := by
  have lz : ∀ a c : Nat, a < 100 → c < 100 → (zi (a : Int) < zi (c : Int)) = (a < c) := fun a c h1 h2 => by
    rw [zi_lt (by omega) (by omega) (by omega) (by omega)]; exact propext (by omega)
  have z12 : (12 : Int32) = zi ((12 : Nat) : Int) := rfl
  rw [e_b_M_drop_40, z12]
  simp only [zi_suc, lz f 12 (by omega) (by omega), lz g 12 (by omega) (by omega), lz f t (by omega) (by omega), lz g t (by omega) (by omega), lz (f + 1) 12 (by omega) (by omega), lz (g + 1) 12 (by omega) (by omega), r_setLink hf hg, xbV_r, hf, hg, if_true, ite_z1]
  unfold sh at h ⊢
  by_cases c1 : f < t
  · simp only [c1, if_true] at h ⊢
    by_cases c2 : g < t
    · simp only [c2, if_true] at h ⊢
      rw [r_linkv hf hg (h hf hg) hc, xbI_r, ite_b, decide_eq_true hf, decide_eq_true hg]
      cases decide (c = 1) <;> rfl
    · simp only [c2, if_false] at h ⊢
      by_cases c3 : g + 1 < 12
      · rw [if_pos c3, r_linkv hf c3 (h hf c3) hc, xbI_r, ite_b, decide_eq_true hf, decide_eq_true c3]
        cases decide (c = 1) <;> rfl
      · rw [if_neg c3, decide_eq_false c3, Bool.and_false, Bool.false_and]; rfl
  · simp only [c1, if_false] at h ⊢
    by_cases c2 : g < t
    · simp only [c2, if_true] at h ⊢
      by_cases c3 : f + 1 < 12
      · rw [if_pos c3, r_linkv c3 hg (h c3 hg) hc, xbI_r, ite_b, decide_eq_true c3, decide_eq_true hg]
        cases decide (c = 1) <;> rfl
      · rw [if_neg c3, decide_eq_false c3, Bool.false_and, Bool.false_and]; rfl
    · simp only [c2, if_false] at h ⊢
      by_cases c3 : f + 1 < 12
      · rw [if_pos c3]
        by_cases c4 : g + 1 < 12
        · rw [if_pos c4, r_linkv c3 c4 (h c3 c4) hc, xbI_r, ite_b, decide_eq_true c3, decide_eq_true c4]
          cases decide (c = 1) <;> rfl
        · rw [if_neg c4, decide_eq_false c4, Bool.and_false, Bool.false_and]; rfl
      · rw [if_neg c3, decide_eq_false c3, Bool.false_and, Bool.false_and]; rfl
/-- block 0 alone -/
def on280 (k o s : Nat) : Bool := (Nat.beq o 0 && Nat.beq k 28) && Nat.blt s 316
theorem on280_t {s : Nat} (h : s < 316) : on280 28 0 s = true := Nat.ble_eq_true_of_le (show s + 1 ≤ 316 by omega)
theorem r_drop {M : xM} {b : Nat → Int} (h : RB M b) (hw : wF b) {t : Nat} (ht : t < nT b) (h2 : 2 ≤ nT b) : ∃ M', m_M_drop 0 (zi t) M = rI (zi (nT b - 1 : Nat)) M' ∧ fz on280 M M' ∧ RB M' (dpB b t) := by
  have hS := hw.1
  have hl := hw.2.1
  have hn := wS_n hS
  rw [e_m_M_drop, zi_12, zi_mul]
  have key := lpM (B := fun i M' => b_M_drop_5 0 (zi t) (zi ((t : Int) * 12 + (i : Nat))) M') (n := 12 * (nT b - 1 - t)) (fun i M' => fz on280 M M' ∧ ∀ k, k < 316 → gi M' 28 0 k = zi (if 28 + 12 * t ≤ k ∧ k < 28 + 12 * t + i then b (k + 12) else b k)) (fun r => ∃ M', r = b_M_drop_34 0 (zi t) (zi ((0 : Nat) : Int)) M' ∧ fz on280 M M' ∧ ∀ k, k < 316 → gi M' 28 0 k = zi (if 28 + 12 * t ≤ k ∧ k < 16 + 12 * nT b then b (k + 12) else b k)) (fun i M1 hi ⟨f1, g1⟩ => ?_) (fun M1 ⟨f1, g1⟩ => ?_) 0 M (Nat.zero_le _) ⟨fz_refl M, fun k hk => by rw [if_neg (by omega)]; exact h k hk⟩
  · obtain ⟨M1, e1, f1, g1⟩ := key
    have e1 : b_M_drop_5 0 (zi t) (zi ((t : Int) * 12 + ((0 : Nat) : Int))) M = _ := e1
    rw [show (t : Int) * 12 + ((0 : Nat) : Int) = (t : Int) * 12 by omega] at e1
    rw [e1]
    -- what stands where, from one place on
    refine lpM (B := fun i M' => b_M_drop_34 0 (zi t) (zi (i : Nat)) M') (n := 12) (fun i M' => fz on280 M M' ∧ ∀ k, k < 316 → gi M' 28 0 k = zi (if 172 ≤ k ∧ k < 172 + 12 * i then (if dpL b t ((k - 172) / 12) ((k - 172) % 12) = true then 1 else 0) else if 28 + 12 * t ≤ k ∧ k < 16 + 12 * nT b then b (k + 12) else b k)) (fun r => ∃ M', r = rI (zi (nT b - 1 : Nat)) M' ∧ fz on280 M M' ∧ RB M' (dpB b t)) ?_ ?_ 0 M1 (Nat.zero_le _) ⟨f1, fun k hk => by rw [if_neg (by omega)]; exact g1 k hk⟩
    · intro f M2 hf ⟨f2, g2⟩
      show ∃ s', _ ∧ b_M_drop_34 0 (zi t) (zi (f : Nat)) M2 = b_M_drop_34 0 (zi t) (zi ((f + 1 : Nat) : Int)) s'
      rw [e_b_M_drop_34, zi_12, zif (by omega) (by omega) (by decide) (by decide), if_pos (by omega)]
      refine lpM (B := fun i M' => b_M_drop_40 0 (zi t) (zi (f : Nat)) (zi (i : Nat)) M') (n := 12) (fun i M' => fz on280 M M' ∧ ∀ k, k < 316 → gi M' 28 0 k = zi (if 172 ≤ k ∧ k < 172 + 12 * f + i then (if dpL b t ((k - 172) / 12) ((k - 172) % 12) = true then 1 else 0) else if 28 + 12 * t ≤ k ∧ k < 16 + 12 * nT b then b (k + 12) else b k)) (fun r => ∃ s', (fz on280 M s' ∧ ∀ k, k < 316 → gi s' 28 0 k = zi (if 172 ≤ k ∧ k < 172 + 12 * (f + 1) then (if dpL b t ((k - 172) / 12) ((k - 172) % 12) = true then 1 else 0) else if 28 + 12 * t ≤ k ∧ k < 16 + 12 * nT b then b (k + 12) else b k)) ∧ r = b_M_drop_34 0 (zi t) (zi ((f + 1 : Nat) : Int)) s') ?_ ?_ 0 M2 (Nat.zero_le _) ⟨f2, fun k hk => g2 k hk⟩
      · intro g M3 hg ⟨f3, g3⟩
        have rd : sh t f < 12 → sh t g < 12 → gi M3 28 0 (172 + 12 * sh t f + sh t g) = zi (b (172 + 12 * sh t f + sh t g)) := fun q1 q2 => by
          have l1 : f ≤ sh t f := by unfold sh; split <;> omega
          have l2 : g ≤ sh t g := by unfold sh; split <;> omega
          rw [g3 _ (by omega), if_neg (by omega), if_neg (by omega)]
        by_cases q : sh t f < 12 ∧ sh t g < 12
        · have cc := (hl _ _ q.1 q.2).1
          refine ⟨_, ⟨fz_step f3 (on280_t (by omega)), fun k hk => ?_⟩, r_drop1 (by omega) hf hg rd cc⟩
          by_cases e : k = 172 + 12 * f + g
          · subst e
            rw [gi_h]
            symm
            rw [if_pos (by omega), show (172 + 12 * f + g - 172) / 12 = f by omega, show (172 + 12 * f + g - 172) % 12 = g by omega]
            show _ = (if dpL b t f g = true then (1 : Int32) else 0)
            cases dpL b t f g <;> rfl
          · rw [gi_s e, g3 k hk]
            congr 1
            by_cases c : 172 ≤ k ∧ k < 172 + 12 * f + g
            · rw [if_pos c, if_pos (show 172 ≤ k ∧ k < 172 + 12 * f + (g + 1) by omega)]
            · rw [if_neg c, if_neg (show ¬ (172 ≤ k ∧ k < 172 + 12 * f + (g + 1)) by omega)]
        · refine ⟨_, ⟨fz_step f3 (on280_t (by omega)), fun k hk => ?_⟩, r_drop1 (c := 0) (by omega) hf hg (fun q1 q2 => absurd ⟨q1, q2⟩ q) (Or.inl rfl)⟩
          by_cases e : k = 172 + 12 * f + g
          · subst e
            rw [gi_h]
            symm
            rw [if_pos (by omega), show (172 + 12 * f + g - 172) / 12 = f by omega, show (172 + 12 * f + g - 172) % 12 = g by omega]
            have : dpL b t f g = false := by
              unfold dpL
              have : (decide (sh t f < 12) && decide (sh t g < 12)) = false := by
                rw [← Bool.not_eq_true, Bool.and_eq_true, decide_eq_true_iff, decide_eq_true_iff]; exact q
              rw [this]; rfl
            rw [this, show decide ((0 : Int) = 1) = false from rfl, Bool.and_false]
            rfl
          · rw [gi_s e, g3 k hk]
            congr 1
            by_cases c : 172 ≤ k ∧ k < 172 + 12 * f + g
            · rw [if_pos c, if_pos (show 172 ≤ k ∧ k < 172 + 12 * f + (g + 1) by omega)]
            · rw [if_neg c, if_neg (show ¬ (172 ≤ k ∧ k < 172 + 12 * f + (g + 1)) by omega)]
      · intro M3 ⟨f3, g3⟩
        refine ⟨M3, ⟨f3, fun k hk => ?_⟩, ?_⟩
        · rw [g3 k hk, show 172 + 12 * f + 12 = 172 + 12 * (f + 1) by omega]
        · show b_M_drop_40 0 (zi t) (zi (f : Nat)) (zi ((12 : Nat) : Int)) M3 = _
          rw [e_b_M_drop_40, zi_12, zif (by decide) (by decide) (by decide) (by decide), if_neg (by decide), zi_suc]
    · intro M2 ⟨f2, g2⟩
      have v2 : gi M2 28 0 2 = zi (nT b : Nat) := by
        rw [g2 2 (by omega), if_neg (by omega), if_neg (by omega), hn.2.2]
      refine ⟨xst M2 28 0 2 (.int (zi (nT b - 1 : Nat))), ?_, fz_step f2 (on280_t (by omega)), fun k hk => ?_⟩
      · show b_M_drop_34 0 (zi t) (zi ((12 : Nat) : Int)) M2 = _
        rw [e_b_M_drop_34, zi_12, zif (by decide) (by decide) (by decide) (by decide), if_neg (by decide), xck_2, xck_2, xck_2, ix_2, v2, zi_01, zi_sub, gi_h, show (nT b : Int) - 1 = ((nT b - 1 : Nat) : Int) by omega]
      · by_cases e : k = 2
        · subst e
          rw [gi_h]
          unfold dpB
          rw [if_pos rfl]
          congr 1
          omega
        · rw [gi_s e, g2 k hk]
          unfold dpB
          rw [if_neg e]
          congr 1
          by_cases c : 172 ≤ k ∧ k < 172 + 12 * 12
          · rw [if_pos c, if_neg (show ¬ (28 + 12 * t ≤ k ∧ k < 16 + 12 * nT b) by omega), if_pos (show 172 ≤ k ∧ k < 316 by omega)]
          · rw [if_neg c, if_neg (by omega : ¬ (172 ≤ k ∧ k < 316))]
  · refine ⟨xst M1 28 0 (28 + 12 * t + i) (.int (zi (b (28 + 12 * t + i + 12)))), ⟨fz_step f1 (on280_t (by omega)), fun k hk => ?_⟩, ?_⟩
    · by_cases e : k = 28 + 12 * t + i
      · subst e
        rw [gi_h, if_pos (by omega)]
      · rw [gi_s e, g1 k hk]
        congr 1
        by_cases c : 28 + 12 * t ≤ k ∧ k < 28 + 12 * t + i
        · rw [if_pos c, if_pos (by omega)]
        · rw [if_neg c, if_neg (by omega)]
    · show b_M_drop_5 0 (zi t) (zi ((t : Int) * 12 + (i : Nat))) M1 = b_M_drop_5 0 (zi t) (zi ((t : Int) * 12 + ((i + 1 : Nat) : Int))) _
      have v2 : gi M1 28 0 (ix 2) = zi (nT b : Nat) := by
        rw [ix_2, g1 2 (by omega), if_neg (by omega), hn.2.2]
      rw [e_b_M_drop_5, xck_2, v2, zi_01, zi_12, zi_28, zi_sub, zi_mul, zif (by omega) (by omega) (by omega) (by omega), if_pos (by omega), zi_add, zi_add, xck_z (by omega) (by omega) (by decide), xck_z (by omega) (by omega) (by decide), zixz (by omega) (by omega), zixz (by omega) (by omega), zi_add, show (28 + ((t : Int) * 12 + (i : Int)) + 12).toNat = 28 + 12 * t + i + 12 by omega, show (28 + ((t : Int) * 12 + (i : Int))).toNat = 28 + 12 * t + i by omega, g1 _ (by omega), if_neg (by omega), show (t : Int) * 12 + (i : Int) + 1 = (t : Int) * 12 + ((i + 1 : Nat) : Int) by omega]
  · refine ⟨M1, ?_, f1, fun k hk => ?_⟩
    · show b_M_drop_5 0 (zi t) (zi ((t : Int) * 12 + ((12 * (nT b - 1 - t) : Nat) : Int))) M1 = _
      have v2 : gi M1 28 0 (ix 2) = zi (nT b : Nat) := by
        rw [ix_2, g1 2 (by omega), if_neg (by omega), hn.2.2]
      rw [e_b_M_drop_5, xck_2, v2, zi_01, zi_12, zi_sub, zi_mul, zif (by omega) (by omega) (by omega) (by omega), if_neg (by omega)]
      rfl
    · rw [g1 k hk, show 28 + 12 * t + 12 * (nT b - 1 - t) = 16 + 12 * nT b by omega]
