/-! floats: made wider; compared with itself -/
theorem dec32 {n : Nat} (h : n % 2147483648 ≤ 2139095040) : FP.Core.decode FP.Core.b32 n ≠ .nan := by
  have e : FP.Core.decode FP.Core.b32 n = if n / 8388608 % 256 = 255 then (if n % 8388608 = 0 then .inf (FP.Core.fieldS FP.Core.b32 n) else .nan) else if n / 8388608 % 256 = 0 then .fin (FP.Core.fieldS FP.Core.b32 n) (n % 8388608) FP.Core.b32.qmin else .fin (FP.Core.fieldS FP.Core.b32 n) (8388608 + n % 8388608) (FP.Core.b32.qmin + (((n / 8388608 % 256 : Nat) : Int) - 1)) := rfl
  rw [e]
  by_cases c : n / 8388608 % 256 = 255
  · rw [if_pos c, if_pos (show n % 8388608 = 0 by omega)]
    exact fun q => nomatch q
  · rw [if_neg c]
    by_cases d : n / 8388608 % 256 = 0
    · rw [if_pos d]; exact fun q => nomatch q
    · rw [if_neg d]; exact fun q => nomatch q
theorem f2d_nn {d : FP.Core.Datum} (h : okD FP.Core.b32 d) : FP.f2d (UInt32.ofNat (FP.Core.encode FP.Core.b32 d)) &&& 0x7fffffffffffffff ≤ 0x7ff0000000000000 := by
  obtain ⟨h1, h2⟩ := enc32 h
  have e1 : (UInt32.ofNat (FP.Core.encode FP.Core.b32 d)).toNat = FP.Core.encode FP.Core.b32 d := (show _ = FP.Core.encode FP.Core.b32 d % 4294967296 from rfl).trans (Nat.mod_eq_of_lt h2)
  have nn : FP.Core.decode FP.Core.b32 (UInt32.ofNat (FP.Core.encode FP.Core.b32 d)).toNat ≠ .nan := by rw [e1]; exact dec32 h1
  have e : FP.f2d (UInt32.ofNat (FP.Core.encode FP.Core.b32 d)) = UInt64.ofNat (FP.Core.encode FP.Core.b64 (FP.Core.round FP.Core.b64 (FP.Core.decode FP.Core.b32 (UInt32.ofNat (FP.Core.encode FP.Core.b32 d)).toNat))) := by
    show (if decide (FP.Core.decode FP.Core.b32 (UInt32.ofNat (FP.Core.encode FP.Core.b32 d)).toNat = .nan) = true then _ else _) = _
    rw [decide_eq_false nn, if_neg (by decide)]
    rfl
  rw [e]
  exact u64_mask (enc64 (rd_ok (by decide) (by decide) nn)).1
theorem cmp_self (a : Int) : compare a a = Ordering.eq := by
  show compareOfLessAndEq a a = Ordering.eq
  unfold compareOfLessAndEq
  rw [if_neg (Int.lt_irrefl a), if_pos rfl]
theorem ord_self {d : FP.Core.Datum} (h : d ≠ .nan) : FP.Core.order d d = some Ordering.eq := by
  cases d with
  | nan => exact absurd rfl h
  | inf s => exact congrArg some (cmp_self _)
  | fin s c q => exact congrArg some (cmp_self _)
