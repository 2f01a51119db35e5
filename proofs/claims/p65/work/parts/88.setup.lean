/-! the law's text is made -/
theorem zn_div {x y : Nat} (h2 : x < 2147483648) (h3 : 0 < y) (h4 : y < 2147483648) : zi (x : Nat) / zi (y : Nat) = zi ((x / y : Nat) : Int) := by
  rw [zi_div (by omega) (by omega) (by omega) (by omega)]
  exact congrArg zi rfl
theorem zn_rem {x y : Nat} (h2 : x < 2147483648) (h3 : 0 < y) (h4 : y < 2147483648) : zi (x : Nat) - zi (x : Nat) / zi (y : Nat) * zi (y : Nat) = zi ((x % y : Nat) : Int) := by
  rw [zi_rem (by omega) (by omega) (by omega) (by omega)]
  exact congrArg zi rfl
theorem zn_shr {x s : Nat} (h : x < 2147483648) (hs : s < 31) : ((zi (x : Nat) >>> (zi (s : Nat) &&& 31)) : Int32) = zi ((x / 2 ^ s : Nat) : Int) := by
  have e : (((zi (s : Nat)) &&& 31 : Int32).toBitVec.smod 32).toNat = s := by
    have h : (List.range 32).all (fun s => (((zi (s : Nat)) &&& 31 : Int32).toBitVec.smod 32).toNat == s) = true := by decide +kernel
    exact eq_of_beq (List.all_eq_true.mp h s (List.mem_range.mpr (by omega)))
  have nx : (zi (x : Nat)).toBitVec.toNat = x := by
    show (BitVec.ofInt 32 ((x : Nat) : Int)).toNat = x
    rw [BitVec.ofInt_natCast, BitVec.toNat_ofNat]
    omega
  have lt : x / 2 ^ s ≤ x := Nat.div_le_self _ _
  apply Int32.toBitVec_inj.mp
  rw [Int32.toBitVec_shiftRight, BitVec.sshiftRight_eq', e]
  show (zi (x : Nat)).toBitVec.sshiftRight s = BitVec.ofInt 32 ((x / 2 ^ s : Nat) : Int)
  have ms : (zi (x : Nat)).toBitVec.msb = false := by
    rw [BitVec.msb_eq_false_iff_two_mul_lt, nx]
    omega
  rw [BitVec.sshiftRight_eq_of_msb_false ms, BitVec.ofInt_natCast]
  apply BitVec.eq_of_toNat_eq
  rw [BitVec.toNat_ushiftRight, nx, Nat.shiftRight_eq_div_pow, BitVec.toNat_ofNat]
  exact (Nat.mod_eq_of_lt (Nat.lt_of_le_of_lt lt (Nat.lt_trans h (by decide)))).symm
theorem z_ch {k : Nat} (h : 97 + k < 128) : ((Int32.toUInt32 ((97 : Int32) + zi (k : Nat))) % 65536).toInt32 = zi ((97 + k : Nat) : Int) := by
  rw [show (97 : Int32) = zi 97 from rfl, zi_add, show (97 : Int) + (k : Nat) = ((97 + k : Nat) : Int) by omega, u16_eq h]
def durN (z : Nat) : Nat := 1 + z % 7
def demN (z r c : Nat) : Nat := z / 2 ^ (3 + 3 * r) % (c + 1)
def hasN (k z : Nat) : Bool := decide (0 < k) && decide (0 < z / 4096 % 4)
def lk1 (k z : Nat) : Nat := z / 16384 % k
def lk2 (k z : Nat) : Nat := z / 262144 % k
def twoN (k z : Nat) : Bool := !decide (lk2 k z = lk1 k z) && decide (z / 4194304 % 2 = 0)
def dmX (dem : Nat → Nat) (l : List Int) (n : Nat) : List Int := match n with
  | 0 => l
  | n + 1 => (dmX dem l n ++ [((32 : Nat) : Int)]) ++ [((48 + dem n : Nat) : Int)]
def lkX (k z : Nat) (l : List Int) : List Int := if hasN k z = true then (if twoN k z = true then (((l ++ sL 11) ++ [((97 + lk1 k z : Nat) : Int)]) ++ sL 12) ++ [((97 + lk2 k z : Nat) : Int)] else (l ++ sL 11) ++ [((97 + lk1 k z : Nat) : Int)]) else l
def tk0 (Z : Nat → Nat) (l : List Int) (k : Nat) : List Int := (((l ++ sL 10) ++ [((97 + k : Nat) : Int)]) ++ [((32 : Nat) : Int)]) ++ [((48 + durN (Z k) : Nat) : Int)]
def tkX (R : Nat) (C Z : Nat → Nat) (l : List Int) (k : Nat) : List Int := lkX k (Z k) (dmX (fun r => demN (Z k) r (C r)) (tk0 Z l k) R) ++ [((59 : Nat) : Int)]
def rsX (C : Nat → Nat) (l : List Int) (r : Nat) : List Int := ((((l ++ sL 9) ++ [((97 + r : Nat) : Int)]) ++ [((32 : Nat) : Int)]) ++ [((48 + C r : Nat) : Int)]) ++ [((59 : Nat) : Int)]
def rsA (d : Nat) (C : Nat → Nat) (n : Nat) : List Int := match n with
  | 0 => (sL 8 ++ [((48 + d : Nat) : Int)]) ++ [((59 : Nat) : Int)]
  | n + 1 => rsX C (rsA d C n) n
def tkA (d R : Nat) (C Z : Nat → Nat) (n : Nat) : List Int := match n with
  | 0 => rsA d C R
  | n + 1 => tkX R C Z (tkA d R C Z n) n
theorem cN_8 : cN 8 = 8 := by decide +kernel
theorem cN_9 : cN 9 = 10 := by decide +kernel
theorem cN_10 : cN 10 = 6 := by decide +kernel
theorem cN_11 : cN 11 = 8 := by decide +kernel
theorem cN_12 : cN 12 = 2 := by decide +kernel
theorem sL_l : (sL 8).length = 8 ∧ (sL 9).length = 10 ∧ (sL 10).length = 6 ∧ (sL 11).length = 8 ∧ (sL 12).length = 2 := by
  simp only [sL_len, cN_8, cN_9, cN_10, cN_11, cN_12]
  exact ⟨trivial, trivial, trivial, trivial, trivial⟩
theorem len1 (l : List Int) (c : Int) : (l ++ [c]).length = l.length + 1 := by rw [List.length_append]; rfl
theorem dmX_len (dem : Nat → Nat) (l : List Int) (n : Nat) : (dmX dem l n).length = l.length + 2 * n := by
  induction n with
  | zero => rfl
  | succ n ih =>
    show ((dmX dem l n ++ [_]) ++ [_]).length = _
    rw [len1, len1, ih]; omega
theorem lkX_len (k z : Nat) (l : List Int) : l.length ≤ (lkX k z l).length ∧ (lkX k z l).length ≤ l.length + 12 := by
  have s := sL_l
  unfold lkX
  by_cases c : hasN k z = true
  · rw [if_pos c]
    by_cases e : twoN k z = true
    · rw [if_pos e, len1, List.length_append, len1, List.length_append]; omega
    · rw [if_neg e, len1, List.length_append]; omega
  · rw [if_neg c]; omega
theorem tk0_len (Z : Nat → Nat) (l : List Int) (k : Nat) : (tk0 Z l k).length = l.length + 9 := by
  have s := sL_l
  unfold tk0
  rw [len1, len1, len1, List.length_append]; omega
theorem tkX_len (R : Nat) (C Z : Nat → Nat) (l : List Int) (k : Nat) : l.length + 10 + 2 * R ≤ (tkX R C Z l k).length ∧ (tkX R C Z l k).length ≤ l.length + 22 + 2 * R := by
  have a := lkX_len k (Z k) (dmX (fun r => demN (Z k) r (C r)) (tk0 Z l k) R)
  rw [dmX_len, tk0_len] at a
  unfold tkX
  rw [len1]; omega
theorem rsA_len (d : Nat) (C : Nat → Nat) (n : Nat) : (rsA d C n).length = 10 + 14 * n := by
  have s := sL_l
  induction n with
  | zero =>
    show ((sL 8 ++ [_]) ++ [_]).length = _
    rw [len1, len1]; omega
  | succ n ih =>
    show (rsX C (rsA d C n) n).length = _
    unfold rsX
    rw [len1, len1, len1, len1, List.length_append, ih]; omega
theorem tkA_len (d : Nat) {R : Nat} (hR : R ≤ 3) (C Z : Nat → Nat) (n : Nat) : (tkA d R C Z n).length ≤ 52 + 28 * n := by
  induction n with
  | zero =>
    show (rsA d C R).length ≤ _
    rw [rsA_len]; omega
  | succ n ih =>
    have a := tkX_len R C Z (tkA d R C Z n) n
    show (tkX R C Z (tkA d R C Z n) n).length ≤ _
    omega
/-- the numbers that the text is made of -/
def pD (M : xM) (a : Nat) : Nat := (pkV M a 2 4).toNat
def pC (M : xM) (a r : Nat) : Nat := 1 + (pkV M a (3 + r) 4).toNat
def pZ (M : xM) (a k : Nat) : Nat := (pkV M a (6 + k) 268435456).toNat
theorem Wx_41 {M M' : xM} {a : Nat} (f : fz onWx M M') (k : Nat) (n : Int) : pkV M' a k n = pkV M a k n := pkV_eq (fun s => f 41 a s rfl) (f 151 a 0 rfl) k n
theorem Wx_L {M M' : xM} {a : Nat} (f : fz onWx M M') : gn M' 151 a 0 = gn M 151 a 0 := fz_gn f rfl
theorem x_pick {M M' : xM} {a k : Nat} {n : Int} (f : fz onWx M M') (hk : k < 1000) (hL : gn M 151 a 0 < 1000) (h1 : 0 < n) (h2 : n < 2147483648) : m_L_pick a (zi (k : Nat)) (zi n) M' = rI (zi (((pkV M a k n).toNat : Nat) : Int)) M' := by
  rw [q_pick hk (by rw [Wx_L f]; exact hL) h1 h2, Wx_41 f, Int.toNat_of_nonneg (pkV_rg h1).1]
theorem xa_s (o s : Nat) : xain (xsl 4) [(50, .ref o), (46, .ref s)] = true := rfl
theorem xa_c (o : Nat) (c : Int32) : xain (xsl 4) [(50, .ref o), (0, .int c)] = true := rfl
theorem xa_b (o : Nat) : xain (xsl 4) [(50, .ref o)] = true := rfl
theorem st_res {M M1 : xM} {a R T sb k : Nat} {l : List Int} (hK : KC M) (hL : gn M 151 a 0 < 1000) (hk : k < R) (hR : R ≤ 3) (h : CWX M M1 sb (ofL l)) (hl : l.length ≤ 100) : ∃ M2, b_L_setup_15 a (zi (R : Nat)) (zi (T : Nat)) sb (zi (k : Nat)) M1 = b_L_setup_15 a (zi (R : Nat)) (zi (T : Nat)) sb (zi ((k + 1 : Nat) : Int)) M2 ∧ CWX M M2 sb (ofL (rsX (pC M a) l k)) := by
  have s := sL_l
  have pr := pkV_rg (M := M) (a := a) (k := 3 + k) (n := 4) (by decide)
  obtain ⟨A1, e1, h1⟩ := S_st hK h (o := 9) (by decide) (by rw [cN_9]; decide) (by rw [cN_9]; omega)
  obtain ⟨A2, e2, h2⟩ := S_ch h1 (c := 97 + k) (by omega) (by rw [List.length_append]; omega)
  obtain ⟨A3, e3, h3⟩ := S_ch h2 (c := 32) (by decide) (by rw [len1, List.length_append]; omega)
  have ep := x_pick (a := a) (k := 3 + k) (n := 4) (CWX_f h3) (by omega) hL (by decide) (by decide)
  obtain ⟨A4, e4, h4⟩ := S_dg hK h3 (x := pC M a k) (by unfold pC; omega) (by rw [len1, len1, List.length_append]; omega)
  obtain ⟨A5, e5, h5⟩ := S_ch h4 (c := 59) (by decide) (by rw [len1, len1, len1, List.length_append]; omega)
  refine ⟨A5, ?_, h5⟩
  have i3 : (3 : Int32) + zi (k : Nat) = zi ((3 + k : Nat) : Int) := by
    rw [show (3 : Int32) = zi 3 from rfl, zi_add]; exact congrArg zi (by omega)
  have c1 : (1 : Int32) + zi (((pkV M a (3 + k) 4).toNat : Nat) : Int) = zi ((pC M a k : Nat) : Int) := by
    rw [show (1 : Int32) = zi 1 from rfl, zi_add]; exact congrArg zi (by unfold pC; omega)
  have ep : m_L_pick a (zi ((3 + k : Nat) : Int)) 4 A3 = rI (zi (((pkV M a (3 + k) 4).toNat : Nat) : Int)) A3 := ep
  have e3 : m_JB_append_3 sb 32 A2 = some (.inl (some (50, .ref sb)), A3) := e3
  have e5 : m_JB_append_3 sb 59 A4 = some (.inl (some (50, .ref sb)), A5) := e5
  rw [e_b_L_setup_15, if_pos (zi_ltn hk (by omega)), gd4 (xa_s _ _), e1, xret_v, xbR_r, z_ch (by omega), gd4 (xa_c _ _), e2, xret_v, xbR_r, gd4 (xa_c _ _), e3, xret_v, xbR_r, i3, ep, xret_v, xbI_r, c1, gd4 (xa_c _ _), e4, xret_v, xbR_r, gd4 (xa_c _ _), e5, xret_v, xbR_r, zi_suc]
theorem st_dem {M M1 : xM} {a R T sb k z r : Nat} {l : List Int} (hK : KC M) (hL : gn M 151 a 0 < 1000) (hr : r < R) (hR : R ≤ 3) (hz : z < 268435456) (h : CWX M M1 sb (ofL l)) (hl : l.length ≤ 400) : ∃ M2, b_L_setup_75 a (zi (R : Nat)) (zi (T : Nat)) sb (zi (k : Nat)) (zi (z : Nat)) (zi (r : Nat)) M1 = b_L_setup_75 a (zi (R : Nat)) (zi (T : Nat)) sb (zi (k : Nat)) (zi (z : Nat)) (zi ((r + 1 : Nat) : Int)) M2 ∧ CWX M M2 sb (ofL ((l ++ [((32 : Nat) : Int)]) ++ [((48 + demN z r (pC M a r) : Nat) : Int)])) := by
  have pr := pkV_rg (M := M) (a := a) (k := 3 + r) (n := 4) (by decide)
  obtain ⟨A3, e3, h3⟩ := S_ch h (c := 32) (by decide) (by omega)
  have ep := x_pick (a := a) (k := 3 + r) (n := 4) (CWX_f h3) (by omega) hL (by decide) (by decide)
  have dm : demN z r (pC M a r) < pC M a r + 1 := Nat.mod_lt _ (by omega)
  have pc : pC M a r ≤ 4 := by unfold pC; omega
  obtain ⟨A4, e4, h4⟩ := S_dg hK h3 (x := demN z r (pC M a r)) (by omega) (by rw [len1]; omega)
  refine ⟨A4, ?_, h4⟩
  have i3 : (3 : Int32) + zi (r : Nat) = zi ((3 + r : Nat) : Int) := by
    rw [show (3 : Int32) = zi 3 from rfl, zi_add]; exact congrArg zi (by omega)
  have i33 : (3 : Int32) + (3 : Int32) * zi (r : Nat) = zi ((3 + 3 * r : Nat) : Int) := by
    rw [show (3 : Int32) = zi 3 from rfl, zi_mul, zi_add]; exact congrArg zi (by omega)
  have c2 : (2 : Int32) + zi (((pkV M a (3 + r) 4).toNat : Nat) : Int) = zi ((pC M a r + 1 : Nat) : Int) := by
    rw [show (2 : Int32) = zi 2 from rfl, zi_add]; exact congrArg zi (by unfold pC; omega)
  have n2 : ¬ zi ((pC M a r + 1 : Nat) : Int) = 0 := by rw [zi_00, zi_eq (by omega) (by omega) (by decide) (by decide)]; omega
  have lt : z / 2 ^ (3 + 3 * r) ≤ z := Nat.div_le_self _ _
  have ep : m_L_pick a (zi ((3 + r : Nat) : Int)) 4 A3 = rI (zi (((pkV M a (3 + r) 4).toNat : Nat) : Int)) A3 := ep
  have e3 : m_JB_append_3 sb 32 M1 = some (.inl (some (50, .ref sb)), A3) := e3
  rw [e_b_L_setup_75, if_pos (zi_ltn hr (by omega)), gd4 (xa_c _ _), e3, xret_v, xbR_r, i3, ep, xret_v, xbI_r, c2, if_neg n2, i33, zn_shr (by omega) (by omega), zn_rem (by omega) (by omega) (by omega), gd4 (xa_c _ _)]
  have e4 : m_JB_append_2 sb (zi ((z / 2 ^ (3 + 3 * r) % (pC M a r + 1) : Nat) : Int)) A3 = some (.inl (some (50, .ref sb)), A4) := e4
  rw [e4, xret_v, xbR_r, zi_suc]
