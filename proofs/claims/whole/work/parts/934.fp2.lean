/-! floats: the quotient that utilization gives -/
theorem i2f_fin {b : Nat} (hb : b < 4600) : ∃ (s : Bool) (c : Nat) (q : Int), FP.Core.decode FP.Core.b32 (FP.i2f (zi ((b : Nat) : Int))).toNat = .fin s c q ∧ (b ≠ 0 → c ≠ 0) := by
  have h := List.all_eq_true.mp i2f_tab b (List.mem_range.mpr hb)
  cases e : FP.Core.decode FP.Core.b32 (FP.i2f (zi ((b : Nat) : Int))).toNat with
  | nan => rw [e] at h; exact nomatch (show false = true from h)
  | inf s => rw [e] at h; exact nomatch (show false = true from h)
  | fin s c q =>
    refine ⟨s, c, q, rfl, fun h0 hc => ?_⟩
    rw [e, hc] at h
    have h : (Nat.beq b 0 || !(Nat.beq 0 0)) = true := h
    rw [beq_ff h0] at h
    exact nomatch (show false = true from h)
theorem fq_ok {a c : Nat} (ha : a < 4600) (hc : c < 4600) (h0 : c ≠ 0) : okD FP.Core.b32 (FP.Core.quotient FP.Core.b32 (FP.Core.decode FP.Core.b32 (FP.i2f (zi ((a : Nat) : Int))).toNat) (FP.Core.decode FP.Core.b32 (FP.i2f (zi ((c : Nat) : Int))).toNat)) := by
  obtain ⟨s, m, q, e1, _⟩ := i2f_fin ha
  obtain ⟨t, d, r, e2, n0⟩ := i2f_fin hc
  rw [e1, e2]
  show okD FP.Core.b32 (if d = 0 then (if m = 0 then .nan else .inf (s != t)) else FP.Core.roundRatio FP.Core.b32 (s != t) m d (q - r))
  rw [if_neg (n0 h0)]
  exact rr_ok (by decide) (by decide) _ _ _ _
theorem u32_mask {n : Nat} (h : n % 2147483648 ≤ 2139095040) : UInt32.ofNat n &&& 0x7fffffff ≤ 0x7f800000 := by
  rw [UInt32.le_iff_toNat_le, UInt32.toNat_and]
  have e1 : (UInt32.ofNat n).toNat = n % 4294967296 := rfl
  have e2 : (0x7fffffff : UInt32).toNat = 2 ^ 31 - 1 := by decide
  have e3 : (0x7f800000 : UInt32).toNat = 2139095040 := by decide
  rw [e1, e2, e3, Nat.and_two_pow_sub_one_eq_mod]
  omega
theorem u64_mask {n : Nat} (h : n % 9223372036854775808 ≤ 9218868437227405312) : UInt64.ofNat n &&& 0x7fffffffffffffff ≤ 0x7ff0000000000000 := by
  rw [UInt64.le_iff_toNat_le, UInt64.toNat_and]
  have e1 : (UInt64.ofNat n).toNat = n % 18446744073709551616 := rfl
  have e2 : (0x7fffffffffffffff : UInt64).toNat = 2 ^ 63 - 1 := by decide
  have e3 : (0x7ff0000000000000 : UInt64).toNat = 9218868437227405312 := by decide
  rw [e1, e2, e3, Nat.and_two_pow_sub_one_eq_mod]
  omega
theorem fdiv_nn {a c : Nat} (ha : a < 4600) (hc : c < 4600) (h0 : c ≠ 0) : FP.fdiv (FP.i2f (zi ((a : Nat) : Int))) (FP.i2f (zi ((c : Nat) : Int))) &&& 0x7fffffff ≤ 0x7f800000 := u32_mask (enc32 (fq_ok ha hc h0)).1
