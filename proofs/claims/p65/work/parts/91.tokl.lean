/-! tokens in the law's text -/
theorem nx_eq {P : Int → Bool} {B : Nat → Int} {n p q : Nat} (hq : p ≤ q) (hn : q ≤ n) (h1 : ∀ i, p ≤ i → i < q → P (B i) = true) (h2 : q < n → P (B q) = false) : nx P B n p = q := by
  have b := nx_bd (P := P) (B := B) (n := n) (p := p) (by omega)
  by_cases l : nx P B n p < q
  · have a := nx_at (P := P) (B := B) (n := n) (p := p) (by omega) (by omega)
    rw [h1 _ b.1 l] at a; cases a
  · by_cases g : q < nx P B n p
    · have a := nx_in (P := P) (B := B) (n := n) (p := p) (i := q) hq g
      rw [h2 (by omega)] at a; cases a
    · omega
theorem tF_0 {B : Nat → Int} {n p : Nat} (h : p < n) (hs : isSp (B p) = false) : tF B n p = p := nx_eq (Nat.le_refl _) (by omega) (fun i h1 h2 => by omega) (fun _ => hs)
theorem tF_1 {B : Nat → Int} {n p : Nat} (h : p + 1 < n) (h0 : isSp (B p) = true) (hs : isSp (B (p + 1)) = false) : tF B n p = p + 1 := nx_eq (by omega) (by omega) (fun i h1 h2 => by rw [show i = p by omega]; exact h0) (fun _ => hs)
theorem lt_sp {x : Int} (h : isLt x = true) : isSp x = false := by
  have := of_decide_eq_true h
  exact decide_eq_false (by omega)
theorem dg_sp {x : Int} (h : isDg x = true) : isSp x = false ∧ isLt x = false := by
  have := of_decide_eq_true h
  exact ⟨decide_eq_false (by omega), decide_eq_false (by omega)⟩
theorem t_word_at {B : Nat → Int} {n f p k : Nat} (hf : tF B n p = f) (h0 : 0 < k) (hn : f + k < n) (h8 : k ≤ 8) (hl : ∀ i, i < k → isLt (B (f + i)) = true) (he : isLt (B (f + k)) = false) : tE B n p = f + k ∧ tT B n p = 0 := by
  have e : nx isLt B n f = f + k := nx_eq (by omega) (by omega) (fun i h1 h2 => by
    have := hl (i - f) (by omega)
    rw [show f + (i - f) = i by omega] at this
    exact this) (fun _ => he)
  have l0 : isLt (B f) = true := hl 0 h0
  unfold tE tT
  rw [hf, if_neg (by omega), if_pos l0, e, if_neg (by omega), if_pos l0, if_neg (by omega)]
  exact ⟨rfl, rfl⟩
theorem t_num_at {B : Nat → Int} {n f p : Nat} (hf : tF B n p = f) (hn : f + 1 < n) (hd : isDg (B f) = true) (he : isDg (B (f + 1)) = false) : tE B n p = f + 1 ∧ tT B n p = 1 ∧ numV B n p = B f - 48 := by
  have e : nx isDg B n f = f + 1 := nx_eq (by omega) (by omega) (fun i h1 h2 => by rw [show i = f by omega]; exact hd) (fun _ => he)
  have nl := (dg_sp hd).2
  have eE : tE B n p = f + 1 := by
    unfold tE
    rw [hf, if_neg (by omega), if_neg (by rw [nl]; decide), if_pos hd, e]
  refine ⟨eE, ?_, ?_⟩
  · unfold tT
    rw [hf, if_neg (by omega), if_neg (by rw [nl]; decide), if_pos hd, e, if_neg (by omega)]
  · unfold numV
    rw [hf, eE, show f + 1 - f = 1 by omega]
    show dgV B f 0 * 10 + (B (f + 0) - 48) = _
    have : dgV B f 0 = 0 := rfl
    rw [this, Nat.add_zero]
    omega
theorem t_semi_at {B : Nat → Int} {n f p : Nat} (hf : tF B n p = f) (hn : f < n) (h : B f = 59) : tE B n p = f + 1 ∧ tT B n p = 2 := by
  have nl : isLt (B f) = false := by rw [h]; rfl
  have nd : isDg (B f) = false := by rw [h]; rfl
  unfold tE tT
  rw [hf, if_neg (by omega), if_neg (by rw [nl]; decide), if_neg (by rw [nd]; decide), if_neg (by omega), if_neg (by rw [nl]; decide), if_neg (by rw [nd]; decide), if_pos h]
  exact ⟨rfl, rfl⟩
theorem tok_lit {B : Nat → Int} {n p f lit : Nat} (hl : lit < 4) (h0 : 0 < cN lit) (hf : tF B n p = f) (hn : f + cN lit < n) (hB : ∀ i, i < cN lit → B (f + i) = cB lit i) (he : isLt (B (f + cN lit)) = false) : tE B n p = f + cN lit ∧ tT B n p = 0 ∧ atW B n p lit = true ∧ opE B n p lit true = 0 := by
  have bd := lit_bd hl
  obtain ⟨a, c⟩ := t_word_at hf h0 hn bd.1 (fun i hi => by rw [hB i hi]; exact decide_eq_true (bd.2 i hi)) he
  have w : atW B n p lit = true := by
    unfold atW wdE
    rw [decide_eq_true c, hf, a, decide_eq_true (show f + cN lit - f = cN lit by omega), Bool.true_and, Bool.true_and]
    exact allN_iff.mpr (fun i hi => decide_eq_true (hB i hi))
  refine ⟨a, c, w, ?_⟩
  unfold opE
  rw [if_pos w, if_pos rfl]
theorem nE_ok {B : Nat → Int} {n p : Nat} {lo hi v : Int} (h1 : tT B n p = 1) (h2 : numV B n p = v) (h3 : lo ≤ v) (h4 : v ≤ hi) : numE B n p lo hi = 0 := by
  unfold numE
  rw [if_pos h1, h2, if_pos ⟨h3, h4⟩]
theorem sE_ok {B : Nat → Int} {n p : Nat} (h : tT B n p = 2) : semE B n p = 0 := by
  unfold semE
  rw [if_pos h]
/-- a digit behind a blank -/
theorem tok_dig {B : Nat → Int} {n p v : Nat} {hi : Int} {lo : Int} (hn : p + 2 < n) (h0 : B p = 32) (h1 : B (p + 1) = ((48 + v : Nat) : Int)) (hv : v < 10) (h2 : B (p + 2) = 32 ∨ B (p + 2) = 59) (h3 : lo ≤ (v : Int)) (h4 : (v : Int) ≤ hi) : numE B n p lo hi = 0 ∧ numV B n p = (v : Int) ∧ tE B n p = p + 2 := by
  have hd : isDg (B (p + 1)) = true := by rw [h1]; exact decide_eq_true (by omega)
  have hf : tF B n p = p + 1 := tF_1 (by omega) (by rw [h0]; rfl) (dg_sp hd).1
  obtain ⟨a, c, d⟩ := t_num_at hf (by omega) hd (by rcases h2 with h | h <;> rw [show p + 1 + 1 = p + 2 from rfl, h] <;> rfl)
  have d : numV B n p = (v : Int) := by rw [d, h1]; omega
  exact ⟨nE_ok c d h3 h4, d, a⟩
theorem tok_sem {B : Nat → Int} {n p : Nat} (hn : p < n) (h : B p = 59) : semE B n p = 0 ∧ tT B n p = 2 ∧ tE B n p = p + 1 := by
  obtain ⟨a, c⟩ := t_semi_at (tF_0 hn (by rw [h]; rfl)) hn h
  exact ⟨sE_ok c, c, a⟩
/-- a name of two letters behind a blank -/
theorem tok_nam {B : Nat → Int} {n p : Nat} (hn : p + 3 < n) (h0 : B p = 32) (h1 : isLt (B (p + 1)) = true) (h2 : isLt (B (p + 2)) = true) (h3 : B (p + 3) = 32 ∨ B (p + 3) = 59) : tT B n p = 0 ∧ tF B n p = p + 1 ∧ tE B n p = p + 1 + 2 := by
  have hf : tF B n p = p + 1 := tF_1 (by omega) (by rw [h0]; rfl) (lt_sp h1)
  obtain ⟨a, c⟩ := t_word_at (k := 2) hf (by decide) (by omega) (by decide) (fun i hi => by
    have : i = 0 ∨ i = 1 := by omega
    rcases this with rfl | rfl
    · exact h1
    · exact h2) (by rcases h3 with h | h <;> rw [show p + 1 + 2 = p + 3 from rfl, h] <;> rfl)
  exact ⟨c, hf, a⟩
/-- a piece of the text -/
def HAS (B : Nat → Int) (p : Nat) (m : List Int) : Prop := ∀ i, i < m.length → B (p + i) = m.getD i 0
def bT (l : List Int) : Nat → Int := fun i => ((chL l i : Nat) : Int)
theorem HAS_at {l full pre m : List Int} (hb : ∀ i, i < full.length → 0 ≤ full.getD i 0 ∧ full.getD i 0 < 128) (h : l <+: full) (e : l = pre ++ m) : HAS (bT full) pre.length m ∧ pre.length + m.length ≤ full.length := by
  obtain ⟨s, hs⟩ := h
  have ll : pre.length + m.length ≤ full.length := by
    rw [← hs, e, List.length_append, List.length_append]; omega
  refine ⟨fun i hi => ?_, ll⟩
  have b := hb (pre.length + i) (by omega)
  unfold bT chL
  rw [if_pos (by omega), Int.toNat_of_nonneg b.1, ← hs, e, List.append_assoc, gD_r (by omega), show pre.length + i - pre.length = i by omega, gD_l hi]
theorem HAS_s {B : Nat → Int} {p o : Nat} (h : HAS B p (sL o)) {i : Nat} (hi : i < cN o) : B (p + i) = cB o i := by
  rw [h i (by rw [sL_len]; exact hi), sL_at hi]
theorem HAS_c {B : Nat → Int} {p : Nat} {c : Int} (h : HAS B p [c]) : B p = c := by
  have := h 0 (by show 0 < 1; decide)
  rw [Nat.add_zero] at this
  exact this
theorem pre_l {l m full : List Int} (h : l ++ m <+: full) : l <+: full := List.IsPrefix.trans (List.prefix_append l m) h
theorem cN_0 : cN 0 = 7 := by decide +kernel
theorem cN_1 : cN 1 = 8 := by decide +kernel
theorem cN_2 : cN 2 = 5 := by decide +kernel
theorem cN_3 : cN 3 = 4 := by decide +kernel
theorem s8_tab : (∀ i, i < 7 → cB 8 i = cB 0 i) ∧ cB 8 7 = 32 := by decide +kernel
theorem s9_tab : (∀ i, i < 8 → cB 9 i = cB 1 i) ∧ cB 9 8 = 32 ∧ cB 9 9 = 114 := by decide +kernel
theorem s10_tab : (∀ i, i < 4 → cB 10 i = cB 3 i) ∧ cB 10 4 = 32 ∧ cB 10 5 = 116 := by decide +kernel
theorem s11_tab : cB 11 0 = 32 ∧ (∀ i, i < 5 → cB 11 (1 + i) = cB 2 i) ∧ cB 11 6 = 32 ∧ cB 11 7 = 116 := by decide +kernel
theorem s12_tab : cB 12 0 = 32 ∧ cB 12 1 = 116 := by decide +kernel
/-- the code of a name of two letters -/
def nmV2 (a c : Nat) : Int64 := Int64.ofNat (a + c * 256)
theorem pw_2 {B : Nat → Int} {f a c : Nat} (h1 : B f = (a : Int)) (h2 : B (f + 1) = (c : Int)) : pw B f 2 = nmV2 a c := by
  unfold pw nmV2
  refine congrArg Int64.ofNat ?_
  show (0 + (B (f + 0)).toNat * 256 ^ 0) + (B (f + 1)).toNat * 256 ^ 1 = _
  rw [Nat.add_zero, h1, h2, Int.toNat_natCast, Int.toNat_natCast]
  omega
theorem nmV2_inj {a c e : Nat} (ha : a < 256) (hc : c < 256) (he : e < 256) (h : nmV2 a c = nmV2 a e) : c = e := by
  have := i64_inj (by omega) (by omega) h
  omega
