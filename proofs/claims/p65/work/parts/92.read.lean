/-! the class reads the law's text: head, resources -/
theorem HAS_1 {l full pre : List Int} {c : Int} (hb : ∀ i, i < full.length → 0 ≤ full.getD i 0 ∧ full.getD i 0 < 128) (h : l <+: full) (e : l = pre ++ [c]) : bT full pre.length = c ∧ pre.length < full.length := by
  obtain ⟨a, b⟩ := HAS_at hb h e
  exact ⟨HAS_c a, b⟩
theorem l1_len (l : List Int) (o : Nat) : (l ++ sL o).length = l.length + cN o := by rw [List.length_append, sL_len]
theorem rd_head {full : List Int} {d : Nat} {C : Nat → Nat} (hb : ∀ i, i < full.length → 0 ≤ full.getD i 0 ∧ full.getD i 0 < 128) (hp : rsA d C 0 <+: full) (hd : d ≤ 3) {M : xM} (h : CT M 0 (bT full) full.length 0) (z1 : gi M 2 0 1 = 0) (z2 : gi M 2 0 2 = 0) : ∃ M1 b, m_U_readHead 0 0 M = rI (bz true) M1 ∧ fz (onC8 0 0) M M1 ∧ CT M1 0 (bT full) full.length (rsA d C 0).length ∧ CP M1 0 b ∧ wQ b 0 ∧ nT b = 0 ∧ nR b = 0 := by
  have s := sL_l
  have lA : (rsA d C 0).length = 10 := rsA_len d C 0
  have p1 : (sL 8 ++ [((48 + d : Nat) : Int)]) ++ [((59 : Nat) : Int)] <+: full := hp
  obtain ⟨b9, n9⟩ := HAS_1 hb p1 rfl
  rw [len1, s.1] at b9 n9
  obtain ⟨b8, n8⟩ := HAS_1 hb (pre_l p1) rfl
  rw [s.1] at b8 n8
  obtain ⟨hs, _⟩ := HAS_at (pre := []) hb (pre_l (pre_l p1)) rfl
  have hs : HAS (bT full) 0 (sL 8) := hs
  have bs : ∀ i, i < 8 → bT full i = cB 8 i := fun i hi => by
    have := HAS_s hs (i := i) (by rw [cN_8]; exact hi)
    rw [Nat.zero_add] at this
    exact this
  have b7 : bT full 7 = 32 := by rw [bs 7 (by decide), s8_tab.2]
  have w : ∀ i, i < cN 0 → bT full (0 + i) = cB 0 i := fun i hi => by
    rw [cN_0] at hi
    rw [Nat.zero_add, bs i (by omega), s8_tab.1 i hi]
  have l0 : isLt (bT full 0) = true := by
    have := w 0 (by rw [cN_0]; decide)
    rw [Nat.add_zero] at this
    rw [this]
    exact decide_eq_true ((lit_bd (o := 0) (by decide)).2 0 (by rw [cN_0]; decide))
  obtain ⟨a1, a2, a3, a4⟩ := tok_lit (n := full.length) (f := 0) (lit := 0) (by decide) (by rw [cN_0]; decide) (tF_0 (p := 0) (by omega) (lt_sp l0)) (by rw [cN_0]; omega) w (by rw [cN_0]; show isLt (bT full 7) = false; rw [b7]; rfl)
  rw [cN_0] at a1
  obtain ⟨c1, c2, c3⟩ := tok_dig (n := full.length) (p := 7) (v := d) (lo := 0) (hi := 3) (by omega) b7 b8 (by omega) (Or.inr b9) (by omega) (by omega)
  obtain ⟨e1, e2, e3⟩ := tok_sem (n := full.length) (p := 9) n9 b9
  obtain ⟨M1, r1, f1, g1, v0, v1, v2⟩ := y_head (p := 0) h a4 a1 c1 c3 e1 e3
  rw [c2] at v0
  rw [z1] at v1
  rw [z2] at v2
  have nTb : nT (fun k => if k = 0 then (d : Int) else 0) = 0 := rfl
  have nRb : nR (fun k => if k = 0 then (d : Int) else 0) = 0 := rfl
  refine ⟨M1, fun k => if k = 0 then (d : Int) else 0, r1, f1, by rw [lA]; exact g1, ⟨⟨by rw [nTb]; decide, by rw [nRb]; decide⟩, ⟨v0, v1, v2⟩, fun t ht => absurd ht (by rw [nTb]; exact Nat.not_lt_zero t), fun t ht => absurd ht (by rw [nRb]; exact Nat.not_lt_zero t), fun t r ht => absurd ht (by rw [nTb]; exact Nat.not_lt_zero t)⟩, ⟨⟨⟨Int.le_refl 0, by show (0 : Int) ≤ 12; decide⟩, ⟨Int.le_refl 0, by show (0 : Int) ≤ 3; decide⟩, fun t ht => absurd ht (by rw [nTb]; exact Nat.not_lt_zero t), fun t ht => absurd ht (by rw [nRb]; exact Nat.not_lt_zero t)⟩, ⟨by show (0 : Int) ≤ (d : Int); omega, by show (d : Int) ≤ 3; omega⟩, fun t ht => absurd ht (by rw [nRb]; exact Nat.not_lt_zero t), fun t ht => absurd ht (by rw [nTb]; exact Nat.not_lt_zero t), fun f t hf ht => ?_⟩, nTb, nRb⟩
  show ((if 172 + 12 * f + t = 0 then (d : Int) else 0) = 0 ∨ (if 172 + 12 * f + t = 0 then (d : Int) else 0) = 1) ∧ ((if 172 + 12 * f + t = 0 then (d : Int) else 0) = 1 → _)
  rw [if_neg (by omega)]
  exact ⟨Or.inl rfl, fun q => absurd q (by decide)⟩
theorem rd_res {full l : List Int} {C : Nat → Nat} {r : Nat} (hb : ∀ i, i < full.length → 0 ≤ full.getD i 0 ∧ full.getD i 0 < 128) (hp : rsX C l r <+: full) (hC : 1 ≤ C r ∧ C r ≤ 4) (hr : r < 3) {M : xM} {b : Nat → Int} (h : CT M 0 (bT full) full.length l.length) (hP : CP M 0 b) (hQ : wQ b 0) (hT : nT b = 0) (hR : nR b = r) (hS : ∀ j, j < r → bC b j = (C j : Int) ∧ pk b (4 + 8 * j) = nmV2 114 (97 + j)) : atW (bT full) full.length l.length 1 = true ∧ ∃ M1 b', m_U_readResource 0 0 M = rI (bz true) M1 ∧ fz (onC8 0 0) M M1 ∧ CT M1 0 (bT full) full.length (rsX C l r).length ∧ CP M1 0 b' ∧ wQ b' 0 ∧ nT b' = 0 ∧ nR b' = r + 1 ∧ ∀ j, j < r + 1 → bC b' j = (C j : Int) ∧ pk b' (4 + 8 * j) = nmV2 114 (97 + j) := by
  have s := sL_l
  have p1 : ((((l ++ sL 9) ++ [((97 + r : Nat) : Int)]) ++ [((32 : Nat) : Int)]) ++ [((48 + C r : Nat) : Int)]) ++ [((59 : Nat) : Int)] <+: full := hp
  have lX : (rsX C l r).length = l.length + 14 := by
    unfold rsX
    rw [len1, len1, len1, len1, l1_len, cN_9]
  obtain ⟨b13, n13⟩ := HAS_1 hb p1 rfl
  rw [len1, len1, len1, l1_len, cN_9] at b13 n13
  obtain ⟨b12, _⟩ := HAS_1 hb (pre_l p1) rfl
  rw [len1, len1, l1_len, cN_9] at b12
  obtain ⟨b11, _⟩ := HAS_1 hb (pre_l (pre_l p1)) rfl
  rw [len1, l1_len, cN_9] at b11
  obtain ⟨b10, _⟩ := HAS_1 hb (pre_l (pre_l (pre_l p1))) rfl
  rw [l1_len, cN_9] at b10
  obtain ⟨hs, _⟩ := HAS_at hb (pre_l (pre_l (pre_l (pre_l p1)))) rfl
  have bs : ∀ i, i < 10 → bT full (l.length + i) = cB 9 i := fun i hi => HAS_s hs (by rw [cN_9]; exact hi)
  generalize l.length = q at h b13 n13 b12 b11 b10 bs lX ⊢
  have w : ∀ i, i < cN 1 → bT full (q + i) = cB 1 i := fun i hi => by
    rw [cN_1] at hi
    rw [bs i (by omega), s9_tab.1 i hi]
  have b8 : bT full (q + 8) = 32 := by rw [bs 8 (by decide), s9_tab.2.1]
  have b9 : bT full (q + 8 + 1) = ((114 : Nat) : Int) := by rw [show q + 8 + 1 = q + 9 from rfl, bs 9 (by decide), s9_tab.2.2]; rfl
  have l0 : isLt (bT full q) = true := by
    have := w 0 (by rw [cN_1]; decide)
    rw [Nat.add_zero] at this
    rw [this]
    exact decide_eq_true ((lit_bd (o := 1) (by decide)).2 0 (by rw [cN_1]; decide))
  obtain ⟨a1, a2, a3, a4⟩ := tok_lit (n := full.length) (f := q) (lit := 1) (by decide) (by rw [cN_1]; decide) (tF_0 (p := q) (by omega) (lt_sp l0)) (by rw [cN_1]; omega) w (by rw [cN_1, b8]; rfl)
  rw [cN_1] at a1
  have b10 : bT full (q + 8 + 2) = ((97 + r : Nat) : Int) := b10
  have b11 : bT full (q + 8 + 3) = 32 := b11
  obtain ⟨c1, c2, c3⟩ := tok_nam (n := full.length) (p := q + 8) (by omega) b8 (by rw [b9]; rfl) (by rw [b10]; exact decide_eq_true (by omega)) (Or.inl b11)
  have pwn := pw_2 (B := bT full) (f := q + 8 + 1) (a := 114) (c := 97 + r) b9 b10
  obtain ⟨d1, d2, d3⟩ := tok_dig (n := full.length) (p := q + 11) (v := C r) (lo := 1) (hi := 9) (by omega) b11 b12 (by omega) (Or.inr b13) (by omega) (by omega)
  obtain ⟨e1, e2, e3⟩ := tok_sem (n := full.length) (p := q + 13) n13 b13
  refine ⟨a3, ?_⟩
  obtain ⟨M1, b', r1, f1, g1, g2, g3, g4, g5, g6, g7, g8, g9⟩ := y_res (q1 := q + 8) (f := q + 8 + 1) (k := 2) (q2 := q + 11) (q3 := q + 13) (q4 := q + 14) (v := (C r : Int)) h hP hQ hT (by omega) a4 a1 c1 c2 c3 (fun j hj e => by
    rw [hR] at hj
    rw [(hS j hj).2, pwn] at e
    have := nmV2_inj (by decide) (by omega) (by omega) e
    omega) (by decide) (by omega) d1 d2 d3 e1 e3
  rw [hR] at g5 g7 g8 g9
  refine ⟨M1, b', r1, f1, by rw [lX]; exact g1, g2, g3, g4, g5, fun j hj => ?_⟩
  by_cases e : j = r
  · subst e
    exact ⟨g9, g8.trans pwn⟩
  · obtain ⟨x1, x2⟩ := g7 j (by omega)
    obtain ⟨y1, y2⟩ := hS j (by omega)
    exact ⟨x2.trans y1, x1.trans y2⟩
