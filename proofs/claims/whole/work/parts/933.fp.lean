/-! floats: a quotient of whole numbers is no NaN -/
def okD (f : FP.Core.Fmt) : FP.Core.Datum → Prop
  | .nan => False
  | .inf _ => True
  | .fin _ c q => c < 2 ^ f.p ∧ f.qmin ≤ q ∧ q ≤ f.qmax
theorem bd_ok {f : FP.Core.Fmt} {s : Bool} {c : Nat} {q : Int} (h1 : c < 2 ^ f.p) (h2 : f.qmin ≤ q) : okD f (FP.Core.bound f s c q) := by
  unfold FP.Core.bound
  by_cases h : q ≤ f.qmax
  · rw [if_pos h]; exact ⟨h1, h2, h⟩
  · rw [if_neg h]; exact trivial
theorem st_ok {f : FP.Core.Fmt} (ht : f.tails < 2 ^ f.p) {s : Bool} {c : Nat} {q : Int} (h2 : f.qmin ≤ q) : okD f (FP.Core.settle f s c q) := by
  unfold FP.Core.settle
  by_cases h : c < 2 ^ f.p
  · rw [if_pos h]; exact bd_ok h h2
  · rw [if_neg h]; exact bd_ok ht (by omega)
theorem rr_ok {f : FP.Core.Fmt} (ht : f.tails < 2 ^ f.p) (hq : f.qmin ≤ f.qmax) (s : Bool) (num den : Nat) (e : Int) : okD f (FP.Core.roundRatio f s num den e) := by
  unfold FP.Core.roundRatio
  by_cases h : num = 0
  · rw [if_pos h]; exact ⟨Nat.pow_pos (by decide), Int.le_refl _, hq⟩
  · rw [if_neg h]
    exact st_ok ht (Int.le_max_left _ _)
theorem rd_ok {f : FP.Core.Fmt} (ht : f.tails < 2 ^ f.p) (hq : f.qmin ≤ f.qmax) {d : FP.Core.Datum} (h : d ≠ .nan) : okD f (FP.Core.round f d) := by
  cases d with
  | nan => exact absurd rfl h
  | inf s => exact trivial
  | fin s c q => exact rr_ok ht hq s c 1 q
theorem enc32 {d : FP.Core.Datum} (h : okD FP.Core.b32 d) : FP.Core.encode FP.Core.b32 d % 2147483648 ≤ 2139095040 ∧ FP.Core.encode FP.Core.b32 d < 4294967296 := by
  have e1 : FP.Core.b32.tails = 8388608 := by decide
  have e2 : FP.Core.b32.exps = 256 := by decide
  have e3 : FP.Core.b32.qmin = -149 := by decide
  have e4 : FP.Core.b32.qmax = 104 := by decide
  have e5 : 2 ^ FP.Core.b32.p = 16777216 := by decide
  cases d with
  | nan => exact absurd h id
  | inf s => cases s <;> decide
  | fin s c q =>
    obtain ⟨h1, h2, h3⟩ := h
    rw [e5] at h1; rw [e3] at h2; rw [e4] at h3
    have e : FP.Core.encode FP.Core.b32 (.fin s c q) = if c < 8388608 then (s.toNat * 256 + 0) * 8388608 + c else (s.toNat * 256 + ((q - -149).toNat + 1)) * 8388608 + (c - 8388608) := by
      rw [← e1, ← e2, ← e3]; rfl
    rw [e]
    have sb : s.toNat = 0 ∨ s.toNat = 1 := by cases s <;> decide
    by_cases k : c < 8388608
    · rw [if_pos k]; rcases sb with b | b <;> rw [b] <;> omega
    · rw [if_neg k]; rcases sb with b | b <;> rw [b] <;> omega
theorem enc64 {d : FP.Core.Datum} (h : okD FP.Core.b64 d) : FP.Core.encode FP.Core.b64 d % 9223372036854775808 ≤ 9218868437227405312 ∧ FP.Core.encode FP.Core.b64 d < 18446744073709551616 := by
  have e1 : FP.Core.b64.tails = 4503599627370496 := by decide
  have e2 : FP.Core.b64.exps = 2048 := by decide
  have e3 : FP.Core.b64.qmin = -1074 := by decide
  have e4 : FP.Core.b64.qmax = 971 := by decide
  have e5 : 2 ^ FP.Core.b64.p = 9007199254740992 := by decide
  cases d with
  | nan => exact absurd h id
  | inf s => cases s <;> decide
  | fin s c q =>
    obtain ⟨h1, h2, h3⟩ := h
    rw [e5] at h1; rw [e3] at h2; rw [e4] at h3
    have e : FP.Core.encode FP.Core.b64 (.fin s c q) = if c < 4503599627370496 then (s.toNat * 2048 + 0) * 4503599627370496 + c else (s.toNat * 2048 + ((q - -1074).toNat + 1)) * 4503599627370496 + (c - 4503599627370496) := by
      rw [← e1, ← e2, ← e3]; rfl
    rw [e]
    have sb : s.toNat = 0 ∨ s.toNat = 1 := by cases s <;> decide
    by_cases k : c < 4503599627370496
    · rw [if_pos k]; rcases sb with b | b <;> rw [b] <;> omega
    · rw [if_neg k]; rcases sb with b | b <;> rw [b] <;> omega
/-- a whole number as a float: finite, and nought only if it is nought -/
def finN (d : FP.Core.Datum) (z : Bool) : Bool := match d with
  | .fin _ c _ => z || !(Nat.beq c 0)
  | _ => false
set_option maxRecDepth 100000 in
theorem i2f_tab : (List.range 4600).all (fun b => finN (FP.Core.decode FP.Core.b32 (FP.i2f (zi ((b : Nat) : Int))).toNat) (Nat.beq b 0)) = true := by decide +kernel
