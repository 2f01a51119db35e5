/-! THE TABLES ARE RIGHT: every entry is what the code holds, every jump goes where it says (wip/p65/gen20.py writes this). -/
noncomputable def xokA (y : Nat) (C : List xE) : List xE → Nat → Bool
  | [], _ => true
  | [q], n => xok y C q n && xokC y C q.1 q.2.1 q.2.2.1
  | q :: q2 :: r, n => (xok y C q q2.1 && xokC y C q.1 q.2.1 q.2.2.1) && xokA y C (q2 :: r) n
theorem xokA_app {y : Nat} {C : List xE} : ∀ (a b : List xE), a ≠ [] → xokA y C a (xpc b) = true → xokT y C b = true → xokT y C (a ++ b) = true
  | [], _, h, _, _ => absurd rfl h
  | [q], b, _, h1, h2 => by
    show ((xok y C q (xpc b) && xokC y C q.1 q.2.1 q.2.2.1) && xokT y C b) = true
    rw [Bool.and_eq_true]
    exact ⟨h1, h2⟩
  | q :: q2 :: r, b, _, h1, h2 => by
    have h3 : ((xok y C q q2.1 && xokC y C q.1 q.2.1 q.2.2.1) && xokA y C (q2 :: r) (xpc b)) = true := h1
    rw [Bool.and_eq_true] at h3
    show ((xok y C q (xpc ((q2 :: r) ++ b)) && xokC y C q.1 q.2.1 q.2.2.1) && xokT y C ((q2 :: r) ++ b)) = true
    rw [Bool.and_eq_true]
    exact ⟨h3.1, xokA_app (q2 :: r) b (fun h => nomatch h) h3.2 h2⟩
noncomputable def xokG (a n : Nat) : Bool := (List.range n).all fun j => xokT (a + j) (xtab (a + j)) (xtab (a + j))
theorem xokG_ok {a n y : Nat} (h : xokG a n = true) (h1 : a ≤ y) (h2 : y < a + n) : xokT y (xtab y) (xtab y) = true := by
  have h3 := List.all_eq_true.mp h (y - a) (List.mem_range.mpr (by omega))
  rw [show a + (y - a) = y by omega] at h3
  exact h3
theorem xokg_0 : xokG 0 18 = true := by decide +kernel
theorem xokg_18 : xokG 18 6 = true := by decide +kernel
theorem xokg_24 : xokG 24 11 = true := by decide +kernel
theorem xokg_35 : xokG 35 6 = true := by decide +kernel
theorem xokg_41 : xokG 41 7 = true := by decide +kernel
theorem xokg_48 : xokG 48 12 = true := by decide +kernel
theorem xokg_60 : xokG 60 12 = true := by decide +kernel
theorem xokg_72 : xokG 72 5 = true := by decide +kernel
theorem xokg_77 : xokG 77 8 = true := by decide +kernel
theorem xokg_85 : xokG 85 10 = true := by decide +kernel
theorem xokg_95 : xokG 95 8 = true := by decide +kernel
theorem xokg_103 : xokG 103 7 = true := by decide +kernel
theorem xokg_110 : xokG 110 6 = true := by decide +kernel
theorem xokg_116 : xokG 116 10 = true := by decide +kernel
theorem xokg_126 : xokG 126 5 = true := by decide +kernel
theorem xokg_131 : xokG 131 8 = true := by decide +kernel
theorem xokg_139 : xokG 139 11 = true := by decide +kernel
theorem xokg_150 : xokG 150 14 = true := by decide +kernel
theorem xokg_164 : xokG 164 5 = true := by decide +kernel
theorem xokg_169 : xokG 169 10 = true := by decide +kernel
theorem xokg_179 : xokG 179 9 = true := by decide +kernel
theorem xokg_188 : xokG 188 7 = true := by decide +kernel
theorem xokg_195 : xokG 195 2 = true := by decide +kernel
theorem xok_tab {y : Nat} (hy : y < 197) : xokT y (xtab y) (xtab y) = true := by
  by_cases h : y < 18
  · exact xokG_ok xokg_0 (by omega) (by omega)
  by_cases h : y < 24
  · exact xokG_ok xokg_18 (by omega) (by omega)
  by_cases h : y < 35
  · exact xokG_ok xokg_24 (by omega) (by omega)
  by_cases h : y < 41
  · exact xokG_ok xokg_35 (by omega) (by omega)
  by_cases h : y < 48
  · exact xokG_ok xokg_41 (by omega) (by omega)
  by_cases h : y < 60
  · exact xokG_ok xokg_48 (by omega) (by omega)
  by_cases h : y < 72
  · exact xokG_ok xokg_60 (by omega) (by omega)
  by_cases h : y < 77
  · exact xokG_ok xokg_72 (by omega) (by omega)
  by_cases h : y < 85
  · exact xokG_ok xokg_77 (by omega) (by omega)
  by_cases h : y < 95
  · exact xokG_ok xokg_85 (by omega) (by omega)
  by_cases h : y < 103
  · exact xokG_ok xokg_95 (by omega) (by omega)
  by_cases h : y < 110
  · exact xokG_ok xokg_103 (by omega) (by omega)
  by_cases h : y < 116
  · exact xokG_ok xokg_110 (by omega) (by omega)
  by_cases h : y < 126
  · exact xokG_ok xokg_116 (by omega) (by omega)
  by_cases h : y < 131
  · exact xokG_ok xokg_126 (by omega) (by omega)
  by_cases h : y < 139
  · exact xokG_ok xokg_131 (by omega) (by omega)
  by_cases h : y < 150
  · exact xokG_ok xokg_139 (by omega) (by omega)
  by_cases h : y < 164
  · exact xokG_ok xokg_150 (by omega) (by omega)
  by_cases h : y < 169
  · exact xokG_ok xokg_164 (by omega) (by omega)
  by_cases h : y < 179
  · exact xokG_ok xokg_169 (by omega) (by omega)
  by_cases h : y < 188
  · exact xokG_ok xokg_179 (by omega) (by omega)
  by_cases h : y < 195
  · exact xokG_ok xokg_188 (by omega) (by omega)
  by_cases h : y < 197
  · exact xokG_ok xokg_195 (by omega) (by omega)
  exact absurd hy h
theorem xokT_at {y : Nat} {C : List xE} : ∀ {cs0 : List xE} (j : Nat) {q : xE} {cs : List xE}, xokT y C cs0 = true → cs0.drop j = q :: cs → xok y C q (xpc cs) = true ∧ xokC y C q.1 q.2.1 q.2.2.1 = true
  | [], j, q, cs, _, hd => by simp at hd
  | q0 :: r, 0, q, cs, h, hd => by
    simp only [List.drop_zero, List.cons.injEq] at hd
    obtain ⟨rfl, rfl⟩ := hd
    have h1 : ((xok y C q0 (xpc r) && xokC y C q0.1 q0.2.1 q0.2.2.1) && xokT y C r) = true := h
    rw [Bool.and_eq_true, Bool.and_eq_true] at h1
    exact h1.1
  | q0 :: r, j + 1, q, cs, h, hd => by
    have h1 : ((xok y C q0 (xpc r) && xokC y C q0.1 q0.2.1 q0.2.2.1) && xokT y C r) = true := h
    rw [Bool.and_eq_true] at h1
    exact xokT_at j h1.2 (by simpa using hd)
