/-! the law's table (wip/whole/gen20.py writes this) -/
theorem xokl_0 : xokA 383 T_L_law T_L_law_0 482 = true := by decide +kernel
theorem xokl_1 : xokA 383 T_L_law T_L_law_1 724 = true := by decide +kernel
theorem xokl_2 : xokA 383 T_L_law T_L_law_2 955 = true := by decide +kernel
theorem xokl_3 : xokA 383 T_L_law T_L_law_3 1185 = true := by decide +kernel
theorem xokl_4 : xokA 383 T_L_law T_L_law_4 1415 = true := by decide +kernel
theorem xokl_5 : xokA 383 T_L_law T_L_law_5 1651 = true := by decide +kernel
theorem xokl_6 : xokA 383 T_L_law T_L_law_6 1885 = true := by decide +kernel
theorem xokl_7 : xokA 383 T_L_law T_L_law_7 2111 = true := by decide +kernel
theorem xokl_8 : xokA 383 T_L_law T_L_law_8 2355 = true := by decide +kernel
theorem xokl_9 : xokA 383 T_L_law T_L_law_9 2584 = true := by decide +kernel
theorem xokl_10 : xokA 383 T_L_law T_L_law_10 2802 = true := by decide +kernel
theorem xokl_11 : xokA 383 T_L_law T_L_law_11 3029 = true := by decide +kernel
theorem xokl_12 : xokA 383 T_L_law T_L_law_12 3267 = true := by decide +kernel
theorem xokl_13 : xokT 383 T_L_law T_L_law_13 = true := by decide +kernel
theorem xok_law : xokT 383 T_L_law T_L_law = true := by
  have h : ∀ C : List xE, C = T_L_law → xokT 383 C T_L_law = true := fun C hC => by
    unfold T_L_law
    refine xokA_app _ _ (by unfold T_L_law_0; exact fun h => nomatch h) (by rw [hC]; exact xokl_0) ?_
    refine xokA_app _ _ (by unfold T_L_law_1; exact fun h => nomatch h) (by rw [hC]; exact xokl_1) ?_
    refine xokA_app _ _ (by unfold T_L_law_2; exact fun h => nomatch h) (by rw [hC]; exact xokl_2) ?_
    refine xokA_app _ _ (by unfold T_L_law_3; exact fun h => nomatch h) (by rw [hC]; exact xokl_3) ?_
    refine xokA_app _ _ (by unfold T_L_law_4; exact fun h => nomatch h) (by rw [hC]; exact xokl_4) ?_
    refine xokA_app _ _ (by unfold T_L_law_5; exact fun h => nomatch h) (by rw [hC]; exact xokl_5) ?_
    refine xokA_app _ _ (by unfold T_L_law_6; exact fun h => nomatch h) (by rw [hC]; exact xokl_6) ?_
    refine xokA_app _ _ (by unfold T_L_law_7; exact fun h => nomatch h) (by rw [hC]; exact xokl_7) ?_
    refine xokA_app _ _ (by unfold T_L_law_8; exact fun h => nomatch h) (by rw [hC]; exact xokl_8) ?_
    refine xokA_app _ _ (by unfold T_L_law_9; exact fun h => nomatch h) (by rw [hC]; exact xokl_9) ?_
    refine xokA_app _ _ (by unfold T_L_law_10; exact fun h => nomatch h) (by rw [hC]; exact xokl_10) ?_
    refine xokA_app _ _ (by unfold T_L_law_11; exact fun h => nomatch h) (by rw [hC]; exact xokl_11) ?_
    refine xokA_app _ _ (by unfold T_L_law_12; exact fun h => nomatch h) (by rw [hC]; exact xokl_12) ?_
    rw [hC]; exact xokl_13
  exact h _ rfl
theorem xok_tab {y : Nat} (hy : y < 384) : xokT y (xtab y) (xtab y) = true := by
  by_cases h : y < 383
  · exact xok_low h
  · obtain rfl : y = 383 := by omega
    exact xok_law
theorem xokT_at {y : Nat} {C : List xE} : ∀ {cs0 : List xE} (j : Nat) {q : xE} {cs : List xE}, xokT y C cs0 = true → cs0.drop j = q :: cs → xok y C q (xpc cs) = true ∧ xokC y C q.1 q.2.1 q.2.2.1 = true
  | [], j, q, cs, _, hd => by simp at hd
  | q0 :: r, 0, q, cs, h, hd => by
    simp only [List.drop_zero, List.cons.injEq] at hd
    obtain ⟨rfl, rfl⟩ := hd
    have h1 : ((xok y C q0 (xpc r) && xokC y C q0.1 q0.2.1 q0.2.2.1) && xokT y C r) = true := h
    rw [Bool.and_eq_true, Bool.and_eq_true] at h1
    exact h1.1
  | q0 :: r, j + 1, q, cs, h, hd => by
    have h1 : ((xok y C q0 (xpc r) && xokC y C q0.1 q0.2.1 q0.2.2.1) && xokT y C r) = true := h
    rw [Bool.and_eq_true] at h1
    exact xokT_at j h1.2 (by simpa using hd)
