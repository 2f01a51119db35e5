/-! THE TABLES ARE RIGHT: every entry is what the code holds, every jump goes where it says (wip/whole/gen20.py writes this). -/
noncomputable def xokA (y : Nat) (C : List xE) : List xE → Nat → Bool
  | [], _ => true
  | [q], n => xok y C q n && xokC y C q.1 q.2.1 q.2.2.1
  | q :: q2 :: r, n => (xok y C q q2.1 && xokC y C q.1 q.2.1 q.2.2.1) && xokA y C (q2 :: r) n
theorem xokA_app {y : Nat} {C : List xE} : ∀ (a b : List xE), a ≠ [] → xokA y C a (xpc b) = true → xokT y C b = true → xokT y C (a ++ b) = true
  | [], _, h, _, _ => absurd rfl h
  | [q], b, _, h1, h2 => by
    show ((xok y C q (xpc b) && xokC y C q.1 q.2.1 q.2.2.1) && xokT y C b) = true
    rw [Bool.and_eq_true]
    exact ⟨h1, h2⟩
  | q :: q2 :: r, b, _, h1, h2 => by
    have h3 : ((xok y C q q2.1 && xokC y C q.1 q.2.1 q.2.2.1) && xokA y C (q2 :: r) (xpc b)) = true := h1
    rw [Bool.and_eq_true] at h3
    show ((xok y C q (xpc ((q2 :: r) ++ b)) && xokC y C q.1 q.2.1 q.2.2.1) && xokT y C ((q2 :: r) ++ b)) = true
    rw [Bool.and_eq_true]
    exact ⟨h3.1, xokA_app (q2 :: r) b (fun h => nomatch h) h3.2 h2⟩
noncomputable def xokG (a n : Nat) : Bool := (List.range n).all fun j => xokT (a + j) (xtab (a + j)) (xtab (a + j))
theorem xokG_ok {a n y : Nat} (h : xokG a n = true) (h1 : a ≤ y) (h2 : y < a + n) : xokT y (xtab y) (xtab y) = true := by
  have h3 := List.all_eq_true.mp h (y - a) (List.mem_range.mpr (by omega))
  rw [show a + (y - a) = y by omega] at h3
  exact h3
theorem xokg_0 : xokG 0 18 = true := by decide +kernel
theorem xokg_18 : xokG 18 6 = true := by decide +kernel
theorem xokg_24 : xokG 24 11 = true := by decide +kernel
theorem xokg_35 : xokG 35 6 = true := by decide +kernel
theorem xokg_41 : xokG 41 4 = true := by decide +kernel
theorem xokg_45 : xokG 45 5 = true := by decide +kernel
theorem xokg_50 : xokG 50 7 = true := by decide +kernel
theorem xokg_57 : xokG 57 6 = true := by decide +kernel
theorem xokg_63 : xokG 63 4 = true := by decide +kernel
theorem xokg_67 : xokG 67 9 = true := by decide +kernel
theorem xokg_76 : xokG 76 20 = true := by decide +kernel
theorem xokg_96 : xokG 96 15 = true := by decide +kernel
theorem xokg_111 : xokG 111 17 = true := by decide +kernel
theorem xokg_128 : xokG 128 10 = true := by decide +kernel
theorem xokg_138 : xokG 138 9 = true := by decide +kernel
theorem xokg_147 : xokG 147 10 = true := by decide +kernel
theorem xokg_157 : xokG 157 8 = true := by decide +kernel
theorem xokg_165 : xokG 165 4 = true := by decide +kernel
theorem xokg_169 : xokG 169 11 = true := by decide +kernel
theorem xokg_180 : xokG 180 10 = true := by decide +kernel
theorem xokg_190 : xokG 190 6 = true := by decide +kernel
theorem xokg_196 : xokG 196 9 = true := by decide +kernel
theorem xokg_205 : xokG 205 8 = true := by decide +kernel
theorem xokg_213 : xokG 213 15 = true := by decide +kernel
theorem xokg_228 : xokG 228 7 = true := by decide +kernel
theorem xokg_235 : xokG 235 11 = true := by decide +kernel
theorem xokg_246 : xokG 246 8 = true := by decide +kernel
theorem xokg_254 : xokG 254 11 = true := by decide +kernel
theorem xokg_265 : xokG 265 12 = true := by decide +kernel
theorem xokg_277 : xokG 277 9 = true := by decide +kernel
theorem xokg_286 : xokG 286 10 = true := by decide +kernel
theorem xokg_296 : xokG 296 9 = true := by decide +kernel
theorem xokg_305 : xokG 305 8 = true := by decide +kernel
theorem xokg_313 : xokG 313 6 = true := by decide +kernel
theorem xokg_319 : xokG 319 7 = true := by decide +kernel
theorem xokg_326 : xokG 326 7 = true := by decide +kernel
theorem xokg_333 : xokG 333 4 = true := by decide +kernel
theorem xokg_337 : xokG 337 2 = true := by decide +kernel
theorem xokg_339 : xokG 339 13 = true := by decide +kernel
theorem xokg_352 : xokG 352 11 = true := by decide +kernel
theorem xokg_363 : xokG 363 8 = true := by decide +kernel
theorem xokg_371 : xokG 371 9 = true := by decide +kernel
theorem xokg_380 : xokG 380 3 = true := by decide +kernel
theorem xok_low {y : Nat} (hy : y < 383) : xokT y (xtab y) (xtab y) = true := by
  by_cases h : y < 18
  · exact xokG_ok xokg_0 (by omega) (by omega)
  by_cases h : y < 24
  · exact xokG_ok xokg_18 (by omega) (by omega)
  by_cases h : y < 35
  · exact xokG_ok xokg_24 (by omega) (by omega)
  by_cases h : y < 41
  · exact xokG_ok xokg_35 (by omega) (by omega)
  by_cases h : y < 45
  · exact xokG_ok xokg_41 (by omega) (by omega)
  by_cases h : y < 50
  · exact xokG_ok xokg_45 (by omega) (by omega)
  by_cases h : y < 57
  · exact xokG_ok xokg_50 (by omega) (by omega)
  by_cases h : y < 63
  · exact xokG_ok xokg_57 (by omega) (by omega)
  by_cases h : y < 67
  · exact xokG_ok xokg_63 (by omega) (by omega)
  by_cases h : y < 76
  · exact xokG_ok xokg_67 (by omega) (by omega)
  by_cases h : y < 96
  · exact xokG_ok xokg_76 (by omega) (by omega)
  by_cases h : y < 111
  · exact xokG_ok xokg_96 (by omega) (by omega)
  by_cases h : y < 128
  · exact xokG_ok xokg_111 (by omega) (by omega)
  by_cases h : y < 138
  · exact xokG_ok xokg_128 (by omega) (by omega)
  by_cases h : y < 147
  · exact xokG_ok xokg_138 (by omega) (by omega)
  by_cases h : y < 157
  · exact xokG_ok xokg_147 (by omega) (by omega)
  by_cases h : y < 165
  · exact xokG_ok xokg_157 (by omega) (by omega)
  by_cases h : y < 169
  · exact xokG_ok xokg_165 (by omega) (by omega)
  by_cases h : y < 180
  · exact xokG_ok xokg_169 (by omega) (by omega)
  by_cases h : y < 190
  · exact xokG_ok xokg_180 (by omega) (by omega)
  by_cases h : y < 196
  · exact xokG_ok xokg_190 (by omega) (by omega)
  by_cases h : y < 205
  · exact xokG_ok xokg_196 (by omega) (by omega)
  by_cases h : y < 213
  · exact xokG_ok xokg_205 (by omega) (by omega)
  by_cases h : y < 228
  · exact xokG_ok xokg_213 (by omega) (by omega)
  by_cases h : y < 235
  · exact xokG_ok xokg_228 (by omega) (by omega)
  by_cases h : y < 246
  · exact xokG_ok xokg_235 (by omega) (by omega)
  by_cases h : y < 254
  · exact xokG_ok xokg_246 (by omega) (by omega)
  by_cases h : y < 265
  · exact xokG_ok xokg_254 (by omega) (by omega)
  by_cases h : y < 277
  · exact xokG_ok xokg_265 (by omega) (by omega)
  by_cases h : y < 286
  · exact xokG_ok xokg_277 (by omega) (by omega)
  by_cases h : y < 296
  · exact xokG_ok xokg_286 (by omega) (by omega)
  by_cases h : y < 305
  · exact xokG_ok xokg_296 (by omega) (by omega)
  by_cases h : y < 313
  · exact xokG_ok xokg_305 (by omega) (by omega)
  by_cases h : y < 319
  · exact xokG_ok xokg_313 (by omega) (by omega)
  by_cases h : y < 326
  · exact xokG_ok xokg_319 (by omega) (by omega)
  by_cases h : y < 333
  · exact xokG_ok xokg_326 (by omega) (by omega)
  by_cases h : y < 337
  · exact xokG_ok xokg_333 (by omega) (by omega)
  by_cases h : y < 339
  · exact xokG_ok xokg_337 (by omega) (by omega)
  by_cases h : y < 352
  · exact xokG_ok xokg_339 (by omega) (by omega)
  by_cases h : y < 363
  · exact xokG_ok xokg_352 (by omega) (by omega)
  by_cases h : y < 371
  · exact xokG_ok xokg_363 (by omega) (by omega)
  by_cases h : y < 380
  · exact xokG_ok xokg_371 (by omega) (by omega)
  by_cases h : y < 383
  · exact xokG_ok xokg_380 (by omega) (by omega)
  exact absurd hy h
