/-! the class reads the law's text: a task -/
theorem dmX_pre (dem : Nat → Nat) (l : List Int) {r : Nat} : ∀ {R : Nat}, r ≤ R → dmX dem l r <+: dmX dem l R := by
  intro R
  induction R with
  | zero => intro h; rw [show r = 0 by omega]; exact List.prefix_refl _
  | succ R ih =>
    intro h
    by_cases e : r = R + 1
    · rw [e]; exact List.prefix_refl _
    · refine List.IsPrefix.trans (ih (by omega)) ?_
      show dmX dem l R <+: (dmX dem l R ++ [_]) ++ [_]
      rw [List.append_assoc]
      exact List.prefix_append _ _
theorem lkX_pre (k z : Nat) (l : List Int) : l <+: lkX k z l := by
  unfold lkX
  by_cases c : hasN k z = true
  · rw [if_pos c]
    by_cases e : twoN k z = true
    · rw [if_pos e, List.append_assoc, List.append_assoc, List.append_assoc]; exact List.prefix_append _ _
    · rw [if_neg e, List.append_assoc]; exact List.prefix_append _ _
  · rw [if_neg c]; exact List.prefix_refl _
theorem rd_task {full l : List Int} {R k : Nat} {C Z : Nat → Nat} (hb : ∀ i, i < full.length → 0 ≤ full.getD i 0 ∧ full.getD i 0 < 128) (hp : tkX R C Z l k <+: full) (hC : ∀ r, r < R → C r ≤ 4) (hR1 : 1 ≤ R) (hk : k < 8) {M : xM} {b : Nat → Int} (h : CT M 0 (bT full) full.length l.length) (hP : CP M 0 b) (hQ : wQ b k) (hT : nT b = k) (hR : nR b = R) (hCb : ∀ r, r < R → bC b r = (C r : Int)) (hV : ∀ j, j < k → pk b (28 + 12 * j) = nmV2 116 (97 + j)) : atW (bT full) full.length l.length 1 = false ∧ tT (bT full) full.length l.length ≠ 4 ∧ ∃ M1 b', m_U_readTask 0 0 M = rI (bz true) M1 ∧ fz (onC8 0 0) M M1 ∧ CT M1 0 (bT full) full.length (tkX R C Z l k).length ∧ CP M1 0 b' ∧ wQ b' (k + 1) ∧ nT b' = k + 1 ∧ nR b' = R ∧ (∀ r, r < R → bC b' r = (C r : Int)) ∧ ∀ j, j < k + 1 → pk b' (28 + 12 * j) = nmV2 116 (97 + j) := by
  have s := sL_l
  have l0 := tk0_len Z l k
  have p0 : lkX k (Z k) (dmX (fun r => demN (Z k) r (C r)) (tk0 Z l k) R) ++ [((59 : Nat) : Int)] <+: full := hp
  have p1 := pre_l p0
  have p2 : dmX (fun r => demN (Z k) r (C r)) (tk0 Z l k) R <+: full := List.IsPrefix.trans (lkX_pre _ _ _) p1
  have p3 : (((l ++ sL 10) ++ [((97 + k : Nat) : Int)]) ++ [((32 : Nat) : Int)]) ++ [((48 + durN (Z k) : Nat) : Int)] <+: full := List.IsPrefix.trans (dmX_pre (fun r => demN (Z k) r (C r)) (tk0 Z l k) (r := 0) (Nat.zero_le R)) p2
  obtain ⟨b8, n8⟩ := HAS_1 hb p3 rfl
  rw [len1, len1, l1_len, cN_10] at b8 n8
  obtain ⟨b7, _⟩ := HAS_1 hb (pre_l p3) rfl
  rw [len1, l1_len, cN_10] at b7
  obtain ⟨b6, _⟩ := HAS_1 hb (pre_l (pre_l p3)) rfl
  rw [l1_len, cN_10] at b6
  obtain ⟨hs, _⟩ := HAS_at hb (pre_l (pre_l (pre_l p3))) rfl
  have bs : ∀ i, i < 6 → bT full (l.length + i) = cB 10 i := fun i hi => HAS_s hs (by rw [cN_10]; exact hi)
  have bd : ∀ r, r < R → bT full (l.length + 9 + 2 * r) = 32 ∧ bT full (l.length + 9 + 2 * r + 1) = ((48 + demN (Z k) r (C r) : Nat) : Int) ∧ l.length + 9 + 2 * r + 1 < full.length := fun r hr => by
    have q : (dmX (fun r => demN (Z k) r (C r)) (tk0 Z l k) r ++ [((32 : Nat) : Int)]) ++ [((48 + demN (Z k) r (C r) : Nat) : Int)] <+: full := List.IsPrefix.trans (dmX_pre (fun r => demN (Z k) r (C r)) (tk0 Z l k) (r := r + 1) (by omega)) p2
    obtain ⟨x1, x2⟩ := HAS_1 hb q rfl
    obtain ⟨y1, y2⟩ := HAS_1 hb (pre_l q) rfl
    rw [len1, dmX_len, l0] at x1 x2
    rw [dmX_len, l0] at y1
    exact ⟨y1, x1, x2⟩
  have lD : (dmX (fun r => demN (Z k) r (C r)) (tk0 Z l k) R).length = l.length + 9 + 2 * R := by rw [dmX_len, l0]
  have lX : (tkX R C Z l k).length = (lkX k (Z k) (dmX (fun r => demN (Z k) r (C r)) (tk0 Z l k) R)).length + 1 := len1 _ _
  rw [lX]
  have hdu : 1 ≤ durN (Z k) ∧ durN (Z k) < 8 := by unfold durN; omega
  have hdm : ∀ r, demN (Z k) r (C r) ≤ C r := fun r => Nat.le_of_lt_succ (Nat.mod_lt _ (by omega))
  subst hR
  generalize hq : l.length = q at *
  have w : ∀ i, i < cN 3 → bT full (q + i) = cB 3 i := fun i hi => by
    rw [cN_3] at hi
    rw [bs i (by omega), s10_tab.1 i hi]
  have b4 : bT full (q + 4) = 32 := by rw [bs 4 (by decide), s10_tab.2.1]
  have b5 : bT full (q + 4 + 1) = ((116 : Nat) : Int) := by rw [show q + 4 + 1 = q + 5 from rfl, bs 5 (by decide), s10_tab.2.2]; rfl
  have i0 : isLt (bT full q) = true := by
    have := w 0 (by rw [cN_3]; decide)
    rw [Nat.add_zero] at this
    rw [this]
    exact decide_eq_true ((lit_bd (o := 3) (by decide)).2 0 (by rw [cN_3]; decide))
  have f0 : tF (bT full) full.length q = q := tF_0 (p := q) (by omega) (lt_sp i0)
  obtain ⟨a1, a2, a3, a4⟩ := tok_lit (n := full.length) (f := q) (lit := 3) (by decide) (by rw [cN_3]; decide) f0 (by rw [cN_3]; omega) w (by rw [cN_3, b4]; rfl)
  rw [cN_3] at a1
  have no1 : atW (bT full) full.length q 1 = false := by
    unfold atW wdE
    rw [f0, a1, cN_1, decide_eq_false (show ¬ q + 4 - q = 8 by omega), Bool.false_and, Bool.and_false]
  have b6 : bT full (q + 4 + 2) = ((97 + k : Nat) : Int) := b6
  have b7' : bT full (q + 4 + 3) = 32 := b7
  obtain ⟨c1, c2, c3⟩ := tok_nam (n := full.length) (p := q + 4) (by omega) b4 (by rw [b5]; rfl) (by rw [b6]; exact decide_eq_true (by omega)) (Or.inl b7')
  have pwn := pw_2 (B := bT full) (f := q + 4 + 1) (a := 116) (c := 97 + k) b5 b6
  have b9 := (bd 0 (by omega)).1
  have n10 := (bd 0 (by omega)).2.2
  obtain ⟨d1, d2, d3⟩ := tok_dig (n := full.length) (p := q + 7) (v := durN (Z k)) (lo := 1) (hi := 30) (by omega) b7 b8 (by omega) (Or.inl b9) (by omega) (by omega)
  have core : ∀ (L : List (Nat × Nat)) (q6 : Nat), (bT full (q + 9 + 2 * nR b) = 32 ∨ bT full (q + 9 + 2 * nR b) = 59) → q + 9 + 2 * nR b < full.length → ((L = [] ∧ atW (bT full) full.length (q + 9 + 2 * nR b) 2 = false ∧ q6 = q + 9 + 2 * nR b) ∨ (L ≠ [] ∧ atW (bT full) full.length (q + 9 + 2 * nR b) 2 = true ∧ (L.map Prod.fst).Nodup ∧ L.length ≤ 12 ∧ (∀ x, x ∈ L.map Prod.fst → x < 12) ∧ lky (bT full) full.length k (fun j => nmV2 116 (97 + j)) (tE (bT full) full.length (q + 9 + 2 * nR b)) L ∧ q6 = lkye (tE (bT full) full.length (q + 9 + 2 * nR b)) L)) → q6 < full.length → bT full q6 = 59 → ∃ M1 b', m_U_readTask 0 0 M = rI (bz true) M1 ∧ fz (onC8 0 0) M M1 ∧ CT M1 0 (bT full) full.length (q6 + 1) ∧ CP M1 0 b' ∧ wQ b' (k + 1) ∧ nT b' = k + 1 ∧ nR b' = nR b ∧ (∀ r, r < nR b → bC b' r = (C r : Int)) ∧ ∀ j, j < k + 1 → pk b' (28 + 12 * j) = nmV2 116 (97 + j) := by
    intro L q6 be ne HL n6 b59
    obtain ⟨e1, e2, e3⟩ := tok_sem (n := full.length) (p := q6) n6 b59
    obtain ⟨M1, b', g0, g1, g2, g3, g4, g5, g6, g7, g8⟩ := y_task (V := fun j => nmV2 116 (97 + j)) (qd := fun r => q + 9 + 2 * r) (q1 := q + 4) (f := q + 4 + 1) (k := 2) (q2 := q + 7) (v := (durN (Z k) : Int)) (q6 := q6) (q7 := q6 + 1) L h hP hQ hT (by omega) hV (fun i j hi hj e => by
      have := nmV2_inj (by decide) (by omega) (by omega) e
      omega) a4 a1 c1 c2 c3 pwn (by decide) (by omega) d1 d2 d3 (fun r hr => by
      obtain ⟨x1, x2, x3⟩ := bd r hr
      have dm := hdm r
      have c4 := hC r hr
      have nxt : bT full (q + 9 + 2 * r + 2) = 32 ∨ bT full (q + 9 + 2 * r + 2) = 59 := by
        by_cases e : r + 1 < nR b
        · exact Or.inl (bd (r + 1) e).1
        · have : q + 9 + 2 * r + 2 = q + 9 + 2 * nR b := by omega
          rw [this]; exact be
      have nn : q + 9 + 2 * r + 2 < full.length := by
        by_cases e : r + 1 < nR b
        · have := (bd (r + 1) e).2.2
          omega
        · omega
      obtain ⟨y1, _, y3⟩ := tok_dig (n := full.length) (p := q + 9 + 2 * r) (v := demN (Z k) r (C r)) (lo := 0) (hi := bC b r) nn x1 x2 (by omega) nxt (by omega) (by rw [hCb r hr]; omega)
      exact ⟨y1, y3⟩) HL e1 e3
    exact ⟨M1, b', g0, g1, g2, g3, g4, g5, g6, fun r hr => (g7 r hr).trans (hCb r hr), g8⟩
  refine ⟨no1, by rw [a2]; decide, ?_⟩
  have t59 : ∀ p, p < full.length → bT full p = 59 → tT (bT full) full.length p ≠ 0 := fun p hp h => by
    rw [(tok_sem (n := full.length) hp h).2.1]; decide
  -- the links
  have link : ∀ (p x : Nat), x < k → p + 3 < full.length → bT full p = 32 → bT full (p + 1) = 116 → bT full (p + 2) = ((97 + x : Nat) : Int) → (bT full (p + 3) = 32 ∨ bT full (p + 3) = 59) → tT (bT full) full.length p = 0 ∧ x < k ∧ tF (bT full) full.length p ≤ p + 3 ∧ tE (bT full) full.length p = p + 3 ∧ pw (bT full) (tF (bT full) full.length p) (p + 3 - tF (bT full) full.length p) = nmV2 116 (97 + x) := fun p x hx hn h0 h1 h2 h3 => by
    obtain ⟨x1, x2, x3⟩ := tok_nam (n := full.length) (p := p) hn h0 (by rw [h1]; rfl) (by rw [h2]; exact decide_eq_true (by omega)) h3
    refine ⟨x1, hx, by omega, x3, ?_⟩
    rw [x2, show p + 3 - (p + 1) = 2 by omega]
    exact pw_2 (a := 116) h1 h2
  by_cases hh : hasN k (Z k) = true
  · have k0 : 0 < k := by
      unfold hasN at hh
      rw [Bool.and_eq_true] at hh
      exact of_decide_eq_true hh.1
    have x1 : lk1 k (Z k) < k := Nat.mod_lt _ k0
    have x2 : lk2 k (Z k) < k := Nat.mod_lt _ k0
    have aft5 : ∀ e, HAS (bT full) e (sL 11) → e + 9 < full.length → bT full e = 32 ∧ atW (bT full) full.length e 2 = true ∧ tE (bT full) full.length e = e + 6 ∧ bT full (e + 6) = 32 ∧ bT full (e + 6 + 1) = 116 := fun e he hn => by
      have bb : ∀ i, i < 8 → bT full (e + i) = cB 11 i := fun i hi => HAS_s he (by rw [cN_11]; exact hi)
      have y0 : bT full e = 32 := by
        have := bb 0 (by decide)
        rw [Nat.add_zero] at this
        rw [this, s11_tab.1]
      have y6 : bT full (e + 6) = 32 := by rw [bb 6 (by decide), s11_tab.2.2.1]
      have y7 : bT full (e + 6 + 1) = 116 := by rw [show e + 6 + 1 = e + 7 from rfl, bb 7 (by decide), s11_tab.2.2.2]
      have w2 : ∀ i, i < cN 2 → bT full (e + 1 + i) = cB 2 i := fun i hi => by
        rw [cN_2] at hi
        rw [show e + 1 + i = e + (1 + i) by omega, bb (1 + i) (by omega), s11_tab.2.1 i hi]
      have j0 : isLt (bT full (e + 1)) = true := by
        have := w2 0 (by rw [cN_2]; decide)
        rw [Nat.add_zero] at this
        rw [this]
        exact decide_eq_true ((lit_bd (o := 2) (by decide)).2 0 (by rw [cN_2]; decide))
      obtain ⟨z1, z2, z3, z4⟩ := tok_lit (n := full.length) (f := e + 1) (lit := 2) (p := e) (by decide) (by rw [cN_2]; decide) (tF_1 (by omega) (by rw [y0]; rfl) (lt_sp j0)) (by rw [cN_2]; omega) w2 (by rw [cN_2, show e + 1 + 5 = e + 6 from rfl, y6]; rfl)
      rw [cN_2] at z1
      exact ⟨y0, z3, z1, y6, y7⟩
    unfold lkX at p0 ⊢
    rw [if_pos hh] at p0 ⊢
    by_cases ht : twoN k (Z k) = true
    · rw [if_pos ht] at p0 ⊢
      have ne12 : lk2 k (Z k) ≠ lk1 k (Z k) := by
        unfold twoN at ht
        rw [Bool.and_eq_true, Bool.not_eq_true'] at ht
        exact of_decide_eq_false ht.1
      obtain ⟨y1, n1⟩ := HAS_1 hb p0 rfl
      rw [len1, l1_len, len1, l1_len, lD, cN_11, cN_12] at y1 n1
      obtain ⟨y2, _⟩ := HAS_1 hb (pre_l p0) rfl
      rw [l1_len, len1, l1_len, lD, cN_11, cN_12] at y2
      obtain ⟨y3, _⟩ := HAS_at hb (pre_l (pre_l p0)) rfl
      rw [len1, l1_len, lD, cN_11] at y3
      obtain ⟨y4, _⟩ := HAS_1 hb (pre_l (pre_l (pre_l p0))) rfl
      rw [l1_len, lD, cN_11] at y4
      obtain ⟨y5, _⟩ := HAS_at hb (pre_l (pre_l (pre_l (pre_l p0)))) rfl
      rw [lD] at y5
      generalize q + 9 + 2 * nR b = e at *
      obtain ⟨u0, u1, u2, u3, u4⟩ := aft5 e y5 (by omega)
      have v0 : bT full (e + 9) = 32 := by
        have := HAS_s y3 (i := 0) (by rw [cN_12]; decide)
        rw [s12_tab.1] at this
        exact this
      have v1 : bT full (e + 9 + 1) = 116 := by
        have := HAS_s y3 (i := 1) (by rw [cN_12]; decide)
        rw [s12_tab.2] at this
        exact this
      have k1 := link (e + 6) (lk1 k (Z k)) x1 (by omega) u3 u4 y4 (Or.inl v0)
      have k2 := link (e + 9) (lk2 k (Z k)) x2 (by omega) v0 v1 y2 (Or.inr y1)
      obtain ⟨M1, b', g⟩ := core [(lk1 k (Z k), e + 9), (lk2 k (Z k), e + 12)] (e + 12) (Or.inl u0) (by omega) (Or.inr ⟨by simp, u1, by
        show [lk1 k (Z k), lk2 k (Z k)].Nodup
        simp only [List.nodup_cons, List.mem_singleton, List.not_mem_nil, not_false_iff, List.nodup_nil, and_true]
        exact fun e => ne12 e.symm, by simp, fun x hx => by
        have hx : x ∈ [lk1 k (Z k), lk2 k (Z k)] := hx
        simp only [List.mem_cons, List.not_mem_nil, or_false] at hx
        omega, by
        rw [u2]
        exact ⟨k1, k2, t59 _ (by omega) y1⟩, by rw [u2]; rfl⟩) (by omega) y1
      refine ⟨M1, b', ?_⟩
      rw [len1, l1_len, len1, l1_len, lD, cN_11, cN_12]
      exact g
    · rw [if_neg ht] at p0 ⊢
      obtain ⟨y1, n1⟩ := HAS_1 hb p0 rfl
      rw [len1, l1_len, lD, cN_11] at y1 n1
      obtain ⟨y4, _⟩ := HAS_1 hb (pre_l p0) rfl
      rw [l1_len, lD, cN_11] at y4
      obtain ⟨y5, _⟩ := HAS_at hb (pre_l (pre_l p0)) rfl
      rw [lD] at y5
      generalize q + 9 + 2 * nR b = e at *
      obtain ⟨u0, u1, u2, u3, u4⟩ := aft5 e y5 (by omega)
      have k1 := link (e + 6) (lk1 k (Z k)) x1 (by omega) u3 u4 y4 (Or.inr y1)
      obtain ⟨M1, b', g⟩ := core [(lk1 k (Z k), e + 9)] (e + 9) (Or.inl u0) (by omega) (Or.inr ⟨by simp, u1, by
        show [lk1 k (Z k)].Nodup
        simp, by simp, fun x hx => by
        have hx : x ∈ [lk1 k (Z k)] := hx
        simp only [List.mem_cons, List.not_mem_nil, or_false] at hx
        omega, by
        rw [u2]
        exact ⟨k1, t59 _ (by omega) y1⟩, by rw [u2]; rfl⟩) (by omega) y1
      refine ⟨M1, b', ?_⟩
      rw [len1, l1_len, lD, cN_11]
      exact g
  · unfold lkX at p0 ⊢
    rw [if_neg hh] at p0 ⊢
    obtain ⟨y1, n1⟩ := HAS_1 hb p0 rfl
    rw [lD] at y1 n1
    obtain ⟨M1, b', g⟩ := core [] (q + 9 + 2 * nR b) (Or.inr y1) n1 (Or.inl ⟨rfl, atW_0 (t59 _ n1 y1), rfl⟩) n1 y1
    refine ⟨M1, b', ?_⟩
    rw [lD]
    exact g
