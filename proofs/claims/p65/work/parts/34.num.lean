/-! the class's half of the part 34 of the proof of whole (wip/p65/mkhalf.py) -/
def zi (x : Int) : Int32 := Int32.ofInt x
theorem zi_add (x y : Int) : zi x + zi y = zi (x + y) := (Int32.ofInt_add x y).symm
theorem zi_sub (x y : Int) : zi x - zi y = zi (x - y) := (Int32.ofInt_sub x y).symm
theorem zi_mul (x y : Int) : zi x * zi y = zi (x * y) := (Int32.ofInt_mul x y).symm
theorem zi_neg (x : Int) : - zi x = zi (- x) := (Int32.ofInt_neg x).symm
theorem zi_toInt {x : Int} (h1 : -2147483648 ≤ x) (h2 : x < 2147483648) : (zi x).toInt = x := Int32.toInt_ofInt_of_le h1 h2
theorem zi_of (a : Int32) : zi a.toInt = a := Int32.ofInt_toInt a
theorem zi_lt {x y : Int} (h1 : -2147483648 ≤ x) (h2 : x < 2147483648) (h3 : -2147483648 ≤ y) (h4 : y < 2147483648) : (zi x < zi y) = (x < y) := by
  rw [Int32.lt_iff_toInt_lt, zi_toInt h1 h2, zi_toInt h3 h4]
theorem zi_eq {x y : Int} (h1 : -2147483648 ≤ x) (h2 : x < 2147483648) (h3 : -2147483648 ≤ y) (h4 : y < 2147483648) : (zi x = zi y) = (x = y) := by
  rw [← Int32.toInt_inj, zi_toInt h1 h2, zi_toInt h3 h4]
theorem zi_ix {x : Int} (h1 : -2147483648 ≤ x) (h2 : x < 2147483648) : ix (zi x) = x.toNat := by
  show (zi x).toInt.toNat = _
  rw [zi_toInt h1 h2]
theorem zi_nat (n : Nat) : Int32.ofNat n = zi n := rfl
theorem zi_range (a : Int32) : -2147483648 ≤ a.toInt ∧ a.toInt < 2147483648 := ⟨Int32.le_toInt a, Int32.toInt_lt a⟩
def mkN (P : Nat → Bool) (n : Nat) : Nat := match n with
  | 0 => 0
  | n + 1 => mkN P n + (if P n then 2 ^ n else 0)
theorem mkN_lt (P : Nat → Bool) (n : Nat) : mkN P n < 2 ^ n := by
  induction n with
  | zero => exact Nat.lt_succ_self 0
  | succ n ih =>
    show mkN P n + _ < _
    rw [Nat.pow_succ]
    split <;> omega
theorem mkN_bit (P : Nat → Bool) (n t : Nat) : (mkN P n).testBit t = (decide (t < n) && P t) := by
  induction n with
  | zero => simp [mkN]
  | succ n ih =>
    show (mkN P n + _).testBit t = _
    by_cases hp : P n = true
    · rw [if_pos hp, Nat.add_comm]
      have h := mkN_lt P n
      by_cases e : t = n
      · subst e
        rw [Nat.testBit_two_pow_add_eq, Nat.testBit_lt_two_pow h]
        simp [hp]
      · by_cases l : t < n
        · rw [Nat.testBit_two_pow_add_gt l, ih]
          simp [l, Nat.lt_succ_of_lt l]
        · have h2 : 2 ^ n + mkN P n < 2 ^ t := by
            have : 2 ^ (n + 1) ≤ 2 ^ t := Nat.pow_le_pow_right (by omega) (by omega)
            rw [Nat.pow_succ] at this
            omega
          rw [Nat.testBit_lt_two_pow h2]
          have : ¬ t < n + 1 := by omega
          simp [this]
    · rw [if_neg hp, Nat.add_zero, ih]
      by_cases e : t = n
      · subst e; simp [hp]
      · have : (t < n) = (t < n + 1) := by
          apply propext; omega
        simp [this]
def mk (P : Nat → Bool) : Int32 := Int32.ofNat (mkN P 12)
theorem mk_bv (P : Nat → Bool) : (mk P).toBitVec = BitVec.ofNat 32 (mkN P 12) := rfl
theorem mk_bit (P : Nat → Bool) (t : Nat) : (mk P).toBitVec.getLsbD t = (decide (t < 12) && P t) := by
  rw [mk_bv, BitVec.getLsbD_ofNat, mkN_bit]
  by_cases h : t < 12
  · have : t < 32 := by omega
    simp [h, this]
  · simp [h]
theorem mk_ext {P Q : Nat → Bool} (h : ∀ t, t < 12 → P t = Q t) : mk P = mk Q := by
  apply Int32.toBitVec_inj.mp
  apply BitVec.eq_of_getLsbD_eq
  intro i hi
  rw [mk_bit, mk_bit]
  by_cases l : i < 12
  · simp [l, h i l]
  · simp [l]
theorem mk_inj {P Q : Nat → Bool} (h : mk P = mk Q) (t : Nat) (ht : t < 12) : P t = Q t := by
  have := congrArg (fun x => x.toBitVec.getLsbD t) h
  simp only [mk_bit, ht, decide_true, Bool.true_and] at this
  exact this
theorem mk_of {x : Int32} {P : Nat → Bool} (h : ∀ t, t < 32 → x.toBitVec.getLsbD t = (decide (t < 12) && P t)) : x = mk P := by
  apply Int32.toBitVec_inj.mp
  apply BitVec.eq_of_getLsbD_eq
  intro i hi
  rw [mk_bit, h i hi]
theorem mk_or (P Q : Nat → Bool) : (mk P ||| mk Q) = mk (fun t => P t || Q t) := by
  apply mk_of
  intro t ht
  rw [Int32.toBitVec_or, BitVec.getLsbD_or, mk_bit, mk_bit]
  by_cases l : t < 12 <;> simp [l]
theorem mk_0 : (0 : Int32) = mk (fun _ => false) := by
  apply mk_of
  intro t ht
  simp
theorem sh_amt : ∀ t : Nat, t < 12 → (zi t &&& 31).toBitVec.smod 32 = BitVec.ofNat 32 t := by decide
theorem mk_shl {t : Nat} (h : t < 12) : ((1 : Int32) <<< (zi t &&& 31) : Int32) = mk (fun x => x == t) := by
  revert t; decide
theorem mk_has (P : Nat → Bool) {t : Nat} (h : t < 12) : ((mk P >>> (zi t &&& 31) : Int32) &&& (1 : Int32)) = if P t then 1 else 0 := by
  apply Int32.toBitVec_inj.mp
  apply BitVec.eq_of_getLsbD_eq
  intro i hi
  rw [Int32.toBitVec_and, BitVec.getLsbD_and, Int32.toBitVec_shiftRight, sh_amt t h, BitVec.sshiftRight_eq', BitVec.getLsbD_sshiftRight]
  have e : (BitVec.ofNat 32 t).toNat = t := by rw [BitVec.toNat_ofNat]; exact Nat.mod_eq_of_lt (by omega)
  rw [e]
  have e1 : (Int32.toBitVec 1).getLsbD i = decide (i = 0) := by
    show (1#32).getLsbD i = _
    rw [BitVec.getLsbD_one]; simp
  rw [e1]
  by_cases z : i = 0
  · subst z
    have := mk_bit P (t + 0)
    rw [this]
    have l : t < 32 := by omega
    have l2 : ¬ (32 ≤ t) := by omega
    by_cases p : P t = true
    · simp [l, h, p]
    · simp [l2, h, p]
  · by_cases p : P t = true
    · simp [z, p]
    · simp [z, p]
theorem mk_sub (P Q : Nat → Bool) : ((mk P &&& (mk Q ^^^ (-1 : Int32))) = 0) = (∀ t, t < 12 → P t = true → Q t = true) := by
  apply propext
  have key : ∀ t, t < 32 → (mk P &&& (mk Q ^^^ (-1 : Int32))).toBitVec.getLsbD t = (decide (t < 12) && (P t && !Q t)) := by
    intro t ht
    rw [Int32.toBitVec_and, Int32.toBitVec_xor, BitVec.getLsbD_and, BitVec.getLsbD_xor, mk_bit, mk_bit]
    have : (Int32.toBitVec (-1)).getLsbD t = true := by
      show (BitVec.allOnes 32).getLsbD t = true
      rw [BitVec.getLsbD_allOnes]; simp [ht]
    rw [this]
    by_cases l : t < 12 <;> simp [l]
  constructor
  · intro h t ht p
    have := key t (by omega)
    rw [h] at this
    simp [ht, p] at this
    cases q : Q t with
    | true => rfl
    | false => rw [q] at this; simp at this
  · intro h
    rw [mk_0]
    apply mk_of
    intro t ht
    rw [key t ht]
    by_cases l : t < 12
    · cases p : P t with
      | true => simp [h t l p]
      | false => simp
    · simp [l]
theorem mk_del (P : Nat → Bool) {t : Nat} (h : t < 12) : (mk P &&& (((1 : Int32) <<< (zi t &&& 31) : Int32) ^^^ (-1 : Int32))) = mk (fun x => P x && !(x == t)) := by
  rw [mk_shl h]
  apply mk_of
  intro i ht
  rw [Int32.toBitVec_and, Int32.toBitVec_xor, BitVec.getLsbD_and, BitVec.getLsbD_xor, mk_bit, mk_bit]
  have : (Int32.toBitVec (-1)).getLsbD i = true := by
    show (BitVec.allOnes 32).getLsbD i = true
    rw [BitVec.getLsbD_allOnes]; simp [ht]
  rw [this]
  by_cases l : i < 12 <;> simp [l]
def cnt (P : Nat → Bool) (n : Nat) : Nat := match n with
  | 0 => 0
  | n + 1 => cnt P n + (if P n then 1 else 0)
def pcX (a1 : Int32) : Int32 :=
((((((((a1 - ((((Int32.toUInt32 a1) >>> ((Int32.toUInt32 1) &&& Int32.toUInt32 31)).toInt32) &&& (1431655765 : Int32))) &&& (858993459 : Int32)) + ((((Int32.toUInt32 (a1 - ((((Int32.toUInt32 a1) >>> ((Int32.toUInt32 1) &&& Int32.toUInt32 31)).toInt32) &&& (1431655765 : Int32)))) >>> ((Int32.toUInt32 2) &&& Int32.toUInt32 31)).toInt32) &&& (858993459 : Int32))) + (((Int32.toUInt32 (((a1 - ((((Int32.toUInt32 a1) >>> ((Int32.toUInt32 1) &&& Int32.toUInt32 31)).toInt32) &&& (1431655765 : Int32))) &&& (858993459 : Int32)) + ((((Int32.toUInt32 (a1 - ((((Int32.toUInt32 a1) >>> ((Int32.toUInt32 1) &&& Int32.toUInt32 31)).toInt32) &&& (1431655765 : Int32)))) >>> ((Int32.toUInt32 2) &&& Int32.toUInt32 31)).toInt32) &&& (858993459 : Int32)))) >>> ((Int32.toUInt32 4) &&& Int32.toUInt32 31)).toInt32)) &&& (252645135 : Int32)) + (((Int32.toUInt32 (((((a1 - ((((Int32.toUInt32 a1) >>> ((Int32.toUInt32 1) &&& Int32.toUInt32 31)).toInt32) &&& (1431655765 : Int32))) &&& (858993459 : Int32)) + ((((Int32.toUInt32 (a1 - ((((Int32.toUInt32 a1) >>> ((Int32.toUInt32 1) &&& Int32.toUInt32 31)).toInt32) &&& (1431655765 : Int32)))) >>> ((Int32.toUInt32 2) &&& Int32.toUInt32 31)).toInt32) &&& (858993459 : Int32))) + (((Int32.toUInt32 (((a1 - ((((Int32.toUInt32 a1) >>> ((Int32.toUInt32 1) &&& Int32.toUInt32 31)).toInt32) &&& (1431655765 : Int32))) &&& (858993459 : Int32)) + ((((Int32.toUInt32 (a1 - ((((Int32.toUInt32 a1) >>> ((Int32.toUInt32 1) &&& Int32.toUInt32 31)).toInt32) &&& (1431655765 : Int32)))) >>> ((Int32.toUInt32 2) &&& Int32.toUInt32 31)).toInt32) &&& (858993459 : Int32)))) >>> ((Int32.toUInt32 4) &&& Int32.toUInt32 31)).toInt32)) &&& (252645135 : Int32))) >>> ((Int32.toUInt32 8) &&& Int32.toUInt32 31)).toInt32)) + (((Int32.toUInt32 ((((((a1 - ((((Int32.toUInt32 a1) >>> ((Int32.toUInt32 1) &&& Int32.toUInt32 31)).toInt32) &&& (1431655765 : Int32))) &&& (858993459 : Int32)) + ((((Int32.toUInt32 (a1 - ((((Int32.toUInt32 a1) >>> ((Int32.toUInt32 1) &&& Int32.toUInt32 31)).toInt32) &&& (1431655765 : Int32)))) >>> ((Int32.toUInt32 2) &&& Int32.toUInt32 31)).toInt32) &&& (858993459 : Int32))) + (((Int32.toUInt32 (((a1 - ((((Int32.toUInt32 a1) >>> ((Int32.toUInt32 1) &&& Int32.toUInt32 31)).toInt32) &&& (1431655765 : Int32))) &&& (858993459 : Int32)) + ((((Int32.toUInt32 (a1 - ((((Int32.toUInt32 a1) >>> ((Int32.toUInt32 1) &&& Int32.toUInt32 31)).toInt32) &&& (1431655765 : Int32)))) >>> ((Int32.toUInt32 2) &&& Int32.toUInt32 31)).toInt32) &&& (858993459 : Int32)))) >>> ((Int32.toUInt32 4) &&& Int32.toUInt32 31)).toInt32)) &&& (252645135 : Int32)) + (((Int32.toUInt32 (((((a1 - ((((Int32.toUInt32 a1) >>> ((Int32.toUInt32 1) &&& Int32.toUInt32 31)).toInt32) &&& (1431655765 : Int32))) &&& (858993459 : Int32)) + ((((Int32.toUInt32 (a1 - ((((Int32.toUInt32 a1) >>> ((Int32.toUInt32 1) &&& Int32.toUInt32 31)).toInt32) &&& (1431655765 : Int32)))) >>> ((Int32.toUInt32 2) &&& Int32.toUInt32 31)).toInt32) &&& (858993459 : Int32))) + (((Int32.toUInt32 (((a1 - ((((Int32.toUInt32 a1) >>> ((Int32.toUInt32 1) &&& Int32.toUInt32 31)).toInt32) &&& (1431655765 : Int32))) &&& (858993459 : Int32)) + ((((Int32.toUInt32 (a1 - ((((Int32.toUInt32 a1) >>> ((Int32.toUInt32 1) &&& Int32.toUInt32 31)).toInt32) &&& (1431655765 : Int32)))) >>> ((Int32.toUInt32 2) &&& Int32.toUInt32 31)).toInt32) &&& (858993459 : Int32)))) >>> ((Int32.toUInt32 4) &&& Int32.toUInt32 31)).toInt32)) &&& (252645135 : Int32))) >>> ((Int32.toUInt32 8) &&& Int32.toUInt32 31)).toInt32))) >>> ((Int32.toUInt32 16) &&& Int32.toUInt32 31)).toInt32)) &&& (63 : Int32))
def bitsN (m n : Nat) : Nat := match n with
  | 0 => 0
  | n + 1 => bitsN m n + (if m.testBit n then 1 else 0)
theorem pcX_tab : (List.range 4096).all (fun m => pcX (Int32.ofNat m) == Int32.ofNat (bitsN m 12)) = true := by decide +kernel
theorem bitsN_mk (P : Nat → Bool) (k n : Nat) (h : n ≤ k) : bitsN (mkN P k) n = cnt P n := by
  induction n with
  | zero => rfl
  | succ n ih =>
    show bitsN _ n + _ = cnt P n + _
    rw [ih (by omega), mkN_bit]
    have : n < k := by omega
    simp [this]
theorem pcX_mk (P : Nat → Bool) : pcX (mk P) = zi (cnt P 12) := by
  have h := List.all_eq_true.mp pcX_tab (mkN P 12) (List.mem_range.mpr (mkN_lt P 12))
  have h2 := eq_of_beq h
  rw [bitsN_mk P 12 12 (Nat.le_refl _)] at h2
  exact h2
def wbX (a1 a2 : Int32) : Int32 := ((a1 &&& (((1 : Int32) <<< (a2 &&& 31) : Int32) - (1 : Int32))) ||| ((a1 >>> (1 &&& 31) : Int32) &&& ((((1 : Int32) <<< (a2 &&& 31) : Int32) - (1 : Int32)) ^^^ ((-1) : Int32))))
def wbP (P : Nat → Bool) (b t : Nat) : Bool := if t < b then P t else (decide (t < 11) && P (t + 1))
theorem mk_low {b : Nat} (h : b < 13) : (((1 : Int32) <<< (zi b &&& 31) : Int32) - (1 : Int32)) = mk (fun t => decide (t < b)) := by
  revert b; decide
theorem mk_shr1 (P : Nat → Bool) : (mk P >>> (1 &&& 31) : Int32) = mk (fun t => decide (t < 11) && P (t + 1)) := by
  apply mk_of
  intro i hi
  have e : ((1 : Int32) &&& 31).toBitVec.smod 32 = BitVec.ofNat 32 1 := by decide
  rw [Int32.toBitVec_shiftRight, e, BitVec.sshiftRight_eq', BitVec.getLsbD_sshiftRight]
  have e : (BitVec.ofNat 32 1).toNat = 1 := rfl
  rw [e, Nat.add_comm 1 i, mk_bit]
  have hm : (mk P).toBitVec.msb = false := by
    rw [BitVec.msb_eq_getLsbD_last, mk_bit]; rfl
  rw [hm]
  by_cases l : i < 11
  · have a : i + 1 < 12 := by omega
    have b : i + 1 < 32 := by omega
    have c : ¬ 32 ≤ i := by omega
    have d : i < 12 := by omega
    simp [l, a, b, c, d]
  · have a : ¬ i + 1 < 12 := by omega
    simp [l, a]
theorem wbX_mk (P : Nat → Bool) {b : Nat} (h : b < 12) : wbX (mk P) (zi b) = mk (wbP P b) := by
  unfold wbX
  rw [mk_low (by omega), mk_shr1]
  apply mk_of
  intro i hi
  rw [Int32.toBitVec_or, BitVec.getLsbD_or, Int32.toBitVec_and, Int32.toBitVec_and, BitVec.getLsbD_and, BitVec.getLsbD_and, Int32.toBitVec_xor, BitVec.getLsbD_xor, mk_bit, mk_bit, mk_bit]
  have : (Int32.toBitVec (-1)).getLsbD i = true := by
    show (BitVec.allOnes 32).getLsbD i = true
    rw [BitVec.getLsbD_allOnes]; simp [hi]
  rw [this]
  unfold wbP
  by_cases l : i < 12
  · by_cases m : i < b
    · simp [l, m]
    · simp [l, m]
  · simp [l]
