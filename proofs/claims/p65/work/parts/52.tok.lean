/-! the class's half of the part 52 of the proof of whole (wip/p65/mkhalf.py) -/
def isLt (x : Int) : Bool := decide (97 ≤ x ∧ x ≤ 122)
def isDg (x : Int) : Bool := decide (48 ≤ x ∧ x ≤ 57)
def isSp (x : Int) : Bool := decide (x = 32 ∨ x = 10)
/-- a byte, as the class keeps it -/
def sb (x : Int) : Int := if x < 128 then x else x - 256
def nx (P : Int → Bool) (B : Nat → Int) (n p : Nat) : Nat := p + fstN (fun i => !P (B (p + i))) (n - p)
theorem nx_bd {P : Int → Bool} {B : Nat → Int} {n p : Nat} (h : p ≤ n) : p ≤ nx P B n p ∧ nx P B n p ≤ n := by
  have := fstN_le (fun i => !P (B (p + i))) (n - p)
  unfold nx
  omega
theorem nx_in {P : Int → Bool} {B : Nat → Int} {n p i : Nat} (h1 : p ≤ i) (h2 : i < nx P B n p) : P (B i) = true := by
  have := fstN_no (P := fun i => !P (B (p + i))) (n := n - p) (i - p) (by unfold nx at h2; omega)
  rw [show p + (i - p) = i by omega] at this
  simpa using this
theorem nx_at {P : Int → Bool} {B : Nat → Int} {n p : Nat} (h : p ≤ n) (h2 : nx P B n p < n) : P (B (nx P B n p)) = false := by
  have := fstN_yes (P := fun i => !P (B (p + i))) (n := n - p) (by unfold nx at h2; omega)
  unfold nx
  simpa using this
theorem nx_gt {P : Int → Bool} {B : Nat → Int} {n p : Nat} (h : p < n) (h2 : P (B p) = true) : p < nx P B n p := by
  have h3 := (nx_bd (P := P) (B := B) (Nat.le_of_lt h)).1
  by_cases e : nx P B n p = p
  · have := nx_at (P := P) (B := B) (Nat.le_of_lt h) (by omega)
    rw [e, h2] at this; cases this
  · omega
def tF (B : Nat → Int) (n p : Nat) : Nat := nx isSp B n p
def tE (B : Nat → Int) (n p : Nat) : Nat := if n ≤ tF B n p then tF B n p else if isLt (B (tF B n p)) = true then nx isLt B n (tF B n p) else if isDg (B (tF B n p)) = true then nx isDg B n (tF B n p) else tF B n p + 1
/-- 0 a word, 1 a number, 2 a semicolon, 3 none of these, 4 the end -/
def tT (B : Nat → Int) (n p : Nat) : Nat := if n ≤ tF B n p then 4 else if isLt (B (tF B n p)) = true then (if 8 < nx isLt B n (tF B n p) - tF B n p then 3 else 0) else if isDg (B (tF B n p)) = true then (if 3 < nx isDg B n (tF B n p) - tF B n p then 3 else 1) else if B (tF B n p) = 59 then 2 else 3
def dgV (B : Nat → Int) (f : Nat) (k : Nat) : Int := match k with
  | 0 => 0
  | k + 1 => dgV B f k * 10 + (B (f + k) - 48)
def pw (B : Nat → Int) (f k : Nat) : Int64 := Int64.ofNat (pkN (fun i => (B (f + i)).toNat) k)
theorem tF_bd {B : Nat → Int} {n p : Nat} (h : p ≤ n) : p ≤ tF B n p ∧ tF B n p ≤ n := nx_bd h
theorem tE_bd {B : Nat → Int} {n p : Nat} (h : p ≤ n) : tF B n p ≤ tE B n p ∧ tE B n p ≤ n := by
  have := tF_bd (B := B) h
  unfold tE
  by_cases c : n ≤ tF B n p
  · rw [if_pos c]; omega
  · rw [if_neg c]
    have a1 := nx_bd (P := isLt) (B := B) (n := n) (p := tF B n p) (by omega)
    have a2 := nx_bd (P := isDg) (B := B) (n := n) (p := tF B n p) (by omega)
    split
    · exact a1
    · split
      · exact a2
      · omega
theorem tT_w {B : Nat → Int} {n p : Nat} (hp : p ≤ n) (h : tT B n p = 0) : tF B n p < tE B n p ∧ tE B n p - tF B n p ≤ 8 ∧ ∀ i, tF B n p ≤ i → i < tE B n p → 97 ≤ B i ∧ B i ≤ 122 := by
  unfold tT at h
  by_cases c : n ≤ tF B n p
  · rw [if_pos c] at h; omega
  · rw [if_neg c] at h
    by_cases c1 : isLt (B (tF B n p)) = true
    · rw [if_pos c1] at h
      have e : tE B n p = nx isLt B n (tF B n p) := by unfold tE; rw [if_neg c, if_pos c1]
      have := nx_gt (P := isLt) (B := B) (n := n) (p := tF B n p) (by omega) c1
      rw [e]
      refine ⟨this, ?_, fun i h1 h2 => ?_⟩
      · by_cases q : 8 < nx isLt B n (tF B n p) - tF B n p
        · rw [if_pos q] at h; omega
        · omega
      · exact of_decide_eq_true (nx_in h1 h2)
    · rw [if_neg c1] at h
      split at h
      · split at h <;> omega
      · split at h <;> omega
theorem tT_n {B : Nat → Int} {n p : Nat} (hp : p ≤ n) (h : tT B n p = 1) : tE B n p - tF B n p ≤ 3 ∧ ∀ i, tF B n p ≤ i → i < tE B n p → 48 ≤ B i ∧ B i ≤ 57 := by
  unfold tT at h
  by_cases c : n ≤ tF B n p
  · rw [if_pos c] at h; omega
  · rw [if_neg c] at h
    by_cases c1 : isLt (B (tF B n p)) = true
    · rw [if_pos c1] at h
      split at h <;> omega
    · rw [if_neg c1] at h
      by_cases c2 : isDg (B (tF B n p)) = true
      · rw [if_pos c2] at h
        have e : tE B n p = nx isDg B n (tF B n p) := by unfold tE; rw [if_neg c, if_neg c1, if_pos c2]
        rw [e]
        refine ⟨?_, fun i h1 h2 => of_decide_eq_true (nx_in h1 h2)⟩
        by_cases q : 3 < nx isDg B n (tF B n p) - tF B n p
        · rw [if_pos q] at h; omega
        · omega
      · rw [if_neg c2] at h
        split at h <;> omega
theorem dgV_bd {B : Nat → Int} {f : Nat} : ∀ k, (∀ i, i < k → 48 ≤ B (f + i) ∧ B (f + i) ≤ 57) → 0 ≤ dgV B f k ∧ dgV B f k < 10 ^ k := by
  intro k
  induction k with
  | zero => intro _; exact ⟨Int.le_refl _, show (0 : Int) < 10 ^ 0 by decide⟩
  | succ k ih =>
    intro h
    have h1 := ih (fun i hi => h i (by omega))
    have h2 := h k (by omega)
    have e : (10 : Int) ^ (k + 1) = 10 ^ k * 10 := Int.pow_succ 10 k
    show 0 ≤ dgV B f k * 10 + (B (f + k) - 48) ∧ dgV B f k * 10 + (B (f + k) - 48) < 10 ^ (k + 1)
    rw [e]
    omega
theorem num_bd {B : Nat → Int} {n p : Nat} (hp : p ≤ n) (h : tT B n p = 1) : 0 ≤ dgV B (tF B n p) (tE B n p - tF B n p) ∧ dgV B (tF B n p) (tE B n p - tF B n p) ≤ 999 := by
  obtain ⟨h1, h2⟩ := tT_n hp h
  have := dgV_bd (B := B) (f := tF B n p) (tE B n p - tF B n p) (fun i hi => h2 _ (by omega) (by omega))
  have h3 : (10 : Int) ^ (tE B n p - tF B n p) ≤ 10 ^ 3 := by
    have : tE B n p - tF B n p = 0 ∨ tE B n p - tF B n p = 1 ∨ tE B n p - tF B n p = 2 ∨ tE B n p - tF B n p = 3 := by omega
    rcases this with e | e | e | e <;> rw [e] <;> decide
  have h4 : (10 : Int) ^ 3 = 1000 := by decide
  omega
theorem pkN_lt {g : Nat → Nat} {n : Nat} (h : ∀ i, i < n → g i < 256) : pkN g n < 256 ^ n := by
  induction n with
  | zero => exact Nat.lt_succ_self 0
  | succ n ih =>
    show pkN g n + g n * 256 ^ n < 256 ^ (n + 1)
    have h1 := ih (fun i hi => h i (by omega))
    have h2 := h n (by omega)
    have h3 : g n * 256 ^ n ≤ 255 * 256 ^ n := Nat.mul_le_mul_right _ (by omega)
    rw [Nat.pow_succ]
    omega
theorem pkN_inj {g h : Nat → Nat} : ∀ (i j : Nat), (∀ k, k < i → 0 < g k ∧ g k < 256) → (∀ k, k < j → 0 < h k ∧ h k < 256) → pkN g i = pkN h j → i = j ∧ ∀ k, k < i → g k = h k := by
  have low : ∀ (g : Nat → Nat) (i : Nat), pkN g (i + 1) = g 0 + 256 * pkN (fun k => g (k + 1)) i := by
    intro g i
    induction i with
    | zero => show 0 + g 0 * 256 ^ 0 = g 0 + 256 * 0; simp
    | succ i ih =>
      show pkN g (i + 1) + g (i + 1) * 256 ^ (i + 1) = g 0 + 256 * (pkN (fun k => g (k + 1)) i + g (i + 1) * 256 ^ i)
      rw [ih, Nat.mul_add, Nat.pow_succ]
      have : g (i + 1) * (256 ^ i * 256) = 256 * (g (i + 1) * 256 ^ i) := by
        rw [← Nat.mul_assoc, Nat.mul_comm]
      omega
  intro i
  induction i generalizing g h with
  | zero =>
    intro j h1 h2 e
    cases j with
    | zero => exact ⟨rfl, fun k hk => absurd hk (Nat.not_lt_zero k)⟩
    | succ j =>
      rw [low h j] at e
      have := h2 0 (by omega)
      have e : 0 = h 0 + 256 * pkN (fun k => h (k + 1)) j := e
      omega
  | succ i ih =>
    intro j h1 h2 e
    have a1 := h1 0 (by omega)
    cases j with
    | zero =>
      rw [low g i] at e
      have e : g 0 + 256 * pkN (fun k => g (k + 1)) i = 0 := e
      omega
    | succ j =>
      have a2 := h2 0 (by omega)
      rw [low g i, low h j] at e
      have e1 : g 0 = h 0 := by omega
      obtain ⟨e2, e3⟩ := ih (g := fun k => g (k + 1)) (h := fun k => h (k + 1)) j (fun k hk => h1 (k + 1) (by omega)) (fun k hk => h2 (k + 1) (by omega)) (by omega)
      refine ⟨by omega, fun k hk => ?_⟩
      cases k with
      | zero => exact e1
      | succ k => exact e3 k (by omega)
theorem i64_inj {a c : Nat} (ha : a < 18446744073709551616) (hc : c < 18446744073709551616) (h : Int64.ofNat a = Int64.ofNat c) : a = c := by
  have h1 := congrArg (fun x => x.toBitVec.toNat) h
  have e : ∀ a : Nat, (Int64.ofNat a).toBitVec.toNat = a % 18446744073709551616 := fun a => by
    show (BitVec.ofNat 64 a).toNat = _
    rw [BitVec.toNat_ofNat]
  simp only [e] at h1
  omega
theorem pk8 {n : Nat} (h : n ≤ 8) : (256 : Nat) ^ n ≤ 18446744073709551616 := by
  have : (256 : Nat) ^ n ≤ 256 ^ 8 := Nat.pow_le_pow_right (by decide) h
  have e : (256 : Nat) ^ 8 = 18446744073709551616 := by decide
  omega
theorem shl_tab : ∀ i : Nat, i < 8 → (List.range 128).all (fun x => (Int32.toInt64 (zi ((x : Nat) : Int)) <<< ((Int32.toInt64 ((8 : Int32) * zi ((i : Nat) : Int))) &&& 63) : Int64) == Int64.ofNat (x * 256 ^ i)) = true := by decide +kernel
theorem or_add {N x i : Nat} (h : N < 256 ^ i) : N ||| (x * 256 ^ i) = N + x * 256 ^ i := by
  have e : (256 : Nat) ^ i = 2 ^ (8 * i) := by rw [Nat.pow_mul]
  rw [e] at h ⊢
  rw [Nat.or_comm, Nat.mul_comm, ← Nat.two_pow_add_eq_or_of_lt h, Nat.add_comm]
/-- a letter more -/
theorem pk_or {N x i : Nat} (hi : i < 8) (hx : x < 128) (h : N < 256 ^ i) : (Int64.ofNat N ||| (Int32.toInt64 (zi ((x : Nat) : Int)) <<< ((Int32.toInt64 ((8 : Int32) * zi ((i : Nat) : Int))) &&& 63) : Int64)) = Int64.ofNat (N + x * 256 ^ i) := by
  have h1 := List.all_eq_true.mp (shl_tab i hi) x (List.mem_range.mpr hx)
  rw [eq_of_beq h1, ← or_add h]
  apply Int64.toBitVec_inj.mp
  rw [Int64.toBitVec_or]
  show BitVec.ofNat 64 N ||| BitVec.ofNat 64 (x * 256 ^ i) = BitVec.ofNat 64 (N ||| x * 256 ^ i)
  rw [BitVec.ofNat_or]
theorem pw_or {B : Nat → Int} {f i : Nat} (hi : i < 8) (h : ∀ k, k ≤ i → 97 ≤ B (f + k) ∧ B (f + k) ≤ 122) : (pw B f i ||| (Int32.toInt64 (zi (B (f + i))) <<< ((Int32.toInt64 ((8 : Int32) * zi ((i : Nat) : Int))) &&& 63) : Int64)) = pw B f (i + 1) := by
  have hx := h i (Nat.le_refl _)
  have := pk_or (N := pkN (fun k => (B (f + k)).toNat) i) (x := (B (f + i)).toNat) hi (by omega) (pkN_lt (fun k hk => by have := h k (by omega); omega))
  rw [show (((B (f + i)).toNat : Nat) : Int) = B (f + i) by omega] at this
  exact this
theorem lg_z {x y : Int64} : (lg_cmp x y = 0) = (x = y) := by
  apply propext
  unfold lg_cmp
  constructor
  · intro h
    split at h
    · exact absurd h (by decide)
    · rename_i c
      split at h
      · assumption
      · exact absurd h (by decide)
  · rintro rfl
    rw [if_neg (Int64.lt_irrefl), if_pos rfl]
theorem s_isLetter {x : Int} (h1 : -2147483648 ≤ x) (h2 : x < 2147483648) (M : xM) : m_C_isLetter (zi x) M = rI (bz (isLt x)) M := by
  rw [e_m_C_isLetter, show (97 : Int32) = zi 97 from rfl, show (122 : Int32) = zi 122 from rfl, zif h1 h2 (by decide) (by decide), zif (by decide) (by decide) h1 h2, xnar_0, xnar_1]
  unfold isLt
  by_cases c : x < 97
  · rw [if_pos c, decide_eq_false (by omega)]
  · rw [if_neg c]
    by_cases c2 : 122 < x
    · rw [if_pos c2, decide_eq_false (by omega)]
    · rw [if_neg c2, decide_eq_true (by omega)]
theorem s_isDigit {x : Int} (h1 : -2147483648 ≤ x) (h2 : x < 2147483648) (M : xM) : m_C_isDigit (zi x) M = rI (bz (isDg x)) M := by
  rw [e_m_C_isDigit, show (48 : Int32) = zi 48 from rfl, show (57 : Int32) = zi 57 from rfl, zif h1 h2 (by decide) (by decide), zif (by decide) (by decide) h1 h2, xnar_0, xnar_1]
  unfold isDg
  by_cases c : x < 48
  · rw [if_pos c, decide_eq_false (by omega)]
  · rw [if_neg c]
    by_cases c2 : 57 < x
    · rw [if_pos c2, decide_eq_false (by omega)]
    · rw [if_neg c2, decide_eq_true (by omega)]
theorem s_isSep {x : Int} (h1 : -2147483648 ≤ x) (h2 : x < 2147483648) (M : xM) : m_T_isSeparator (zi x) M = rI (bz (isSp x)) M := by
  rw [e_m_T_isSeparator, show (32 : Int32) = zi 32 from rfl, zi_10, zife h1 h2 (by decide) (by decide), zife h1 h2 (by decide) (by decide), xnar_0, xnar_1]
  unfold isSp
  by_cases c : x = 32
  · rw [if_pos c, decide_eq_true (Or.inl c)]
  · rw [if_neg c]
    by_cases c2 : x = 10
    · rw [if_pos c2, decide_eq_true (Or.inr c2)]
    · rw [if_neg c2, decide_eq_false (by omega)]
theorem sb_lt {x : Int} (h : 0 ≤ x ∧ x < 256) : -128 ≤ sb x ∧ sb x < 128 ∧ isLt (sb x) = isLt x ∧ isDg (sb x) = isDg x ∧ isSp (sb x) = isSp x ∧ (sb x = 59 ↔ x = 59) := by
  unfold sb isLt isDg isSp
  by_cases c : x < 128
  · rw [if_pos c]
    exact ⟨by omega, by omega, rfl, rfl, rfl, Iff.rfl⟩
  · rw [if_neg c]
    refine ⟨by omega, by omega, ?_, ?_, ?_, by omega⟩
    · rw [decide_eq_false (by omega), decide_eq_false (by omega)]
    · rw [decide_eq_false (by omega), decide_eq_false (by omega)]
    · rw [decide_eq_false (by omega), decide_eq_false (by omega)]
theorem sb_id {x : Int} (h : isLt x = true ∨ isDg x = true) : sb x = x := by
  unfold sb
  rcases h with h | h
  · have := of_decide_eq_true h
    rw [if_pos (by omega)]
  · have := of_decide_eq_true h
    rw [if_pos (by omega)]
