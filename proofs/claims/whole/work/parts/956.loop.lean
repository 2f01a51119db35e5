/-! the law's loop -/
def LB (L i : Nat) (M : xM) (r : xR) : Prop := ∃ M2, r = b_L_law_2017 0 0 0 0 0 (zi (i : Nat)) M2 ∧ LX L M2 ∧ RX M M2
theorem ifor {c : Prop} [Decidable c] {a b : xR} {P : xR → Prop} (h1 : P a) (h2 : P b) : P (if c then a else b) := by
  by_cases h : c
  · rw [if_pos h]; exact h1
  · rw [if_neg h]; exact h2
theorem toLB {L i : Nat} {M : xM} {r : xR} (h : LX L M) (q : ∃ M2, r = b_L_law_2017 0 0 0 0 0 (zi (i : Nat)) M2 ∧ LW L M2 ∧ RM M M2 1 6) : LB L i M r := by
  obtain ⟨M2, e, h2, rm⟩ := q
  have := LX_1 h h2 rm
  exact ⟨M2, e, this.1, this.2⟩
theorem RX_refl (M : xM) : RX M M := ⟨by omega, by omega⟩
theorem law_step {M : xM} {L i : Nat} (h : LX L M) (hi : i + 6 ≤ L) (hL : L ≤ 3072) : LB L i M (b_L_law_17 0 0 0 0 0 (zi (i : Nat)) M) := by
  have l : gn M 151 0 0 = L := h.1.2.1
  rw [e_b_L_law_17, l, zi_n, zi_06, zi_sub, zif (by omega) (by omega) (by omega) (by omega), if_neg (by omega), xck_n (by omega) (by omega)]
  exact ifor (P := LB L i M) (toLB h (b30 h.1 hi hL)) (ifor (P := LB L i M) (toLB h (b106 h.1 hi hL)) (ifor (P := LB L i M) (toLB h (b142 h.1 hi hL)) (ifor (P := LB L i M) (toLB h (b168 h.1)) (ifor (P := LB L i M) (toLB h (b176 h.1)) (ifor (P := LB L i M) (toLB h (b184 h.1)) (ifor (P := LB L i M) (toLB h (b192 h.1)) (ifor (P := LB L i M) (toLB h (b200 h.1)) (ifor (P := LB L i M) (toLB h (b208 h.1 hi hL)) (ifor (P := LB L i M) (toLB h (b254 h.1 hi hL)) (ifor (P := LB L i M) (toLB h (b280 h.1 hi hL)) (ifor (P := LB L i M) (toLB h (b306 h.1 hi hL)) (ifor (P := LB L i M) (toLB h (b342 h.1 hi hL)) (ifor (P := LB L i M) (toLB h (b378 h.1 hi hL)) (ifor (P := LB L i M) (toLB h (b414 h.1 hi hL)) (ifor (P := LB L i M) (toLB h (b460 h.1)) (ifor (P := LB L i M) (toLB h (b468 h.1 hi hL)) (ifor (P := LB L i M) (toLB h (b517 h.1 hi hL)) (ifor (P := LB L i M) (toLB h (b566 h.1 hi hL)) (ifor (P := LB L i M) (toLB h (b602 h.1 hi hL)) (ifor (P := LB L i M) (toLB h (b638 h.1 hi hL)) (ifor (P := LB L i M) (toLB h (b674 h.1 hi hL)) (ifor (P := LB L i M) (toLB h (b720 h.1 hi hL)) (ifor (P := LB L i M) (toLB h (b756 h.1 hi hL)) (ifor (P := LB L i M) (toLB h (b792 h.1 hi hL)) (ifor (P := LB L i M) (toLB h (b828 h.1 hi hL)) (ifor (P := LB L i M) (toLB h (b864 h.1 hi hL)) (ifor (P := LB L i M) (toLB h (b903 h.1)) (ifor (P := LB L i M) (toLB h (b911 h.1)) (ifor (P := LB L i M) (toLB h (b919 h.1 hi hL)) (ifor (P := LB L i M) (toLB h (b955 h.1 hi hL)) (ifor (P := LB L i M) (toLB h (b991 h.1 hi hL)) (ifor (P := LB L i M) (toLB h (b1027 h.1 hi hL)) (ifor (P := LB L i M) (toLB h (b1063 h.1)) (ifor (P := LB L i M) (toLB h (b1071 h.1 hi hL)) (ifor (P := LB L i M) (toLB h (b1117 h.1 hi hL)) (ifor (P := LB L i M) (toLB h (b1153 h.1 hi hL)) (ifor (P := LB L i M) (toLB h (b1189 h.1 hi hL)) (ifor (P := LB L i M) (toLB h (b1235 h.1 hi hL)) (ifor (P := LB L i M) (toLB h (b1271 h.1)) (ifor (P := LB L i M) (toLB h (b1279 h.1 hi hL)) (ifor (P := LB L i M) (toLB h (b1327 h.1)) (ifor (P := LB L i M) (toLB h (b1349 h.1)) (ifor (P := LB L i M) (toLB h (b1357 h.1 hi hL)) (ifor (P := LB L i M) (toLB h (b1393 h.1)) (ifor (P := LB L i M) (toLB h (b1401 h.1 hi hL)) (ifor (P := LB L i M) (toLB h (b1437 h.1)) (ifor (P := LB L i M) (toLB h (b1445 h.1 hi hL)) (ifor (P := LB L i M) (toLB h (b1491 h.1 hi hL)) (ifor (P := LB L i M) (toLB h (b1537 h.1 hi hL)) (ifor (P := LB L i M) (toLB h (b1593 h.1 hi hL)) (ifor (P := LB L i M) (toLB h (b1639 h.1 hi hL)) (ifor (P := LB L i M) (toLB h (b1685 h.1 hi hL)) (ifor (P := LB L i M) (toLB h (b1731 h.1 hi hL)) (ifor (P := LB L i M) (toLB h (b1777 h.1 hi hL)) (ifor (P := LB L i M) (toLB h (b1813 h.1 hi hL)) (ifor (P := LB L i M) (toLB h (b1849 h.1 hi hL)) (ifor (P := LB L i M) (toLB h (b1875 h.1 hi hL)) (ifor (P := LB L i M) (toLB h (b1901 h.1 hi hL)) (ifor (P := LB L i M) (toLB h (b1937 h.1 hi hL)) (ifor (P := LB L i M) (b1973 h) (ifor (P := LB L i M) (toLB h (b1981 h.1 hi hL)) (⟨M, rfl, h, RX_refl M⟩))))))))))))))))))))))))))))))))))))))))))))))))))))))))))))))
theorem law_loop {L : Nat} (hL : L ≤ 3072) : ∀ (k i : Nat) (M : xM), L ≤ i + 6 * k + 5 → i ≤ 3100 → LX L M → ∃ M', b_L_law_17 0 0 0 0 0 (zi (i : Nat)) M = rI 1 M' ∧ gn M' 100 0 0 ≤ gn M 100 0 0 + 450 * k ∧ gn M' 100 0 1 ≤ gn M 100 0 1 + 2000 * k := by
  have fin : ∀ (i : Nat) (M : xM), L < i + 6 → i ≤ 3100 → LX L M → b_L_law_17 0 0 0 0 0 (zi (i : Nat)) M = rI 1 M := fun i M h1 h2 h => by
    have l : gn M 151 0 0 = L := h.1.2.1
    rw [e_b_L_law_17, l, zi_n, zi_06, zi_sub, zif (by omega) (by omega) (by omega) (by omega), if_pos (by omega)]
    rfl
  intro k
  induction k with
  | zero =>
    intro i M h1 h2 h
    exact ⟨M, fin i M (by omega) h2 h, by omega, by omega⟩
  | succ k ih =>
    intro i M h1 h2 h
    by_cases c : L < i + 6
    · exact ⟨M, fin i M c h2 h, by omega, by omega⟩
    · obtain ⟨M2, e2, x2, r1, r2⟩ := law_step h (show i + 6 ≤ L by omega) hL
      obtain ⟨M3, e3, s1, s2⟩ := ih (i + 6) M2 (by omega) (by omega) x2
      refine ⟨M3, ?_, by omega, by omega⟩
      rw [e2, e_b_L_law_2017, zi_06, zi_add, show (i : Int) + 6 = ((i + 6 : Nat) : Int) by omega]
      exact e3
/-- the law's whole run -/
theorem law_runs (L : Nat) (xs : Nat → Int32) (hL : L ≤ 3072) : ∃ M', m_L_law 0 (xM0 L xs) = rI 1 M' ∧ gn M' 100 0 0 ≤ 601024 ∧ gn M' 100 0 1 ≤ 7293034 := by
  obtain ⟨W, e1, h, r1, r2⟩ := s_start L xs
  obtain ⟨M', e2, s1, s2⟩ := law_loop hL 512 0 W (by omega) (by omega) h
  exact ⟨M', e1.trans e2, by omega, by omega⟩
