/-! the class's half of the part 36 of the proof of whole (wip/p65/mkhalf.py) -/
theorem gi_st (M : xM) (k o s : Nat) (v : Value) (k' o' s' : Nat) : gi (xst M k o s v) k' o' s' = if k' = k ∧ o' = o ∧ s' = s then (match v with
  | .int x => x
  | _ => 0) else gi M k' o' s' := by
  unfold gi xst
  by_cases h : k' = k ∧ o' = o ∧ s' = s
  · rw [if_pos h, if_pos h]
    cases v <;> rfl
  · rw [if_neg h, if_neg h]
theorem gl_st (M : xM) (k o s : Nat) (v : Value) (k' o' s' : Nat) : gl (xst M k o s v) k' o' s' = if k' = k ∧ o' = o ∧ s' = s then (match v with
  | .long x => x
  | _ => 0) else gl M k' o' s' := by
  unfold gl xst
  by_cases h : k' = k ∧ o' = o ∧ s' = s
  · rw [if_pos h, if_pos h]
    cases v <;> rfl
  · rw [if_neg h, if_neg h]
theorem gi_k {M : xM} {k o s : Nat} {v : Value} {k' o' s' : Nat} (h : k' ≠ k) : gi (xst M k o s v) k' o' s' = gi M k' o' s' := by
  rw [gi_st, if_neg (fun q => h q.1)]
theorem gi_s {M : xM} {k o s : Nat} {v : Value} {k' o' s' : Nat} (h : s' ≠ s) : gi (xst M k o s v) k' o' s' = gi M k' o' s' := by
  rw [gi_st, if_neg (fun q => h q.2.2)]
theorem gi_o {M : xM} {k o s : Nat} {v : Value} {k' o' s' : Nat} (h : o' ≠ o) : gi (xst M k o s v) k' o' s' = gi M k' o' s' := by
  rw [gi_st, if_neg (fun q => h q.2.1)]
theorem gi_h (M : xM) (k o s : Nat) (x : Int32) : gi (xst M k o s (.int x)) k o s = x := by
  rw [gi_st, if_pos ⟨rfl, rfl, rfl⟩]
theorem gl_k {M : xM} {k o s : Nat} {v : Value} {k' o' s' : Nat} (h : k' ≠ k) : gl (xst M k o s v) k' o' s' = gl M k' o' s' := by
  rw [gl_st, if_neg (fun q => h q.1)]
theorem gl_s {M : xM} {k o s : Nat} {v : Value} {k' o' s' : Nat} (h : s' ≠ s) : gl (xst M k o s v) k' o' s' = gl M k' o' s' := by
  rw [gl_st, if_neg (fun q => h q.2.2)]
theorem gl_h (M : xM) (k o s : Nat) (x : Int64) : gl (xst M k o s (.long x)) k o s = x := by
  rw [gl_st, if_pos ⟨rfl, rfl, rfl⟩]
theorem gn_k {M : xM} {k o s : Nat} {v : Value} {k' o' s' : Nat} (h : k' ≠ k) : gn (xst M k o s v) k' o' s' = gn M k' o' s' := by
  rw [gn_xst, if_neg (fun q => h q.1)]
theorem gn_s {M : xM} {k o s : Nat} {v : Value} {k' o' s' : Nat} (h : s' ≠ s) : gn (xst M k o s v) k' o' s' = gn M k' o' s' := by
  rw [gn_xst, if_neg (fun q => h q.2.2)]
theorem gn_h (M : xM) (k o s : Nat) (x : Nat) : gn (xst M k o s (.ref x)) k o s = x := by
  rw [gn_xst, if_pos ⟨rfl, rfl, rfl⟩]
/-- all but the places of K is as it was -/
def fr (K : Nat → Nat → Bool) (M M' : xM) : Prop := ∀ k o s, K k o = false → M' k o s = M k o s
theorem fr_refl {K : Nat → Nat → Bool} (M : xM) : fr K M M := fun _ _ _ _ => rfl
theorem fr_trans {K : Nat → Nat → Bool} {M M1 M2 : xM} (h1 : fr K M M1) (h2 : fr K M1 M2) : fr K M M2 := fun k o s h => (h2 k o s h).trans (h1 k o s h)
theorem fr_mono {K K' : Nat → Nat → Bool} {M M' : xM} (h : ∀ k o, K k o = true → K' k o = true) (h1 : fr K M M') : fr K' M M' := fun k o s q => h1 k o s (by
  cases e : K k o with
  | false => rfl
  | true => rw [h k o e] at q; cases q)
theorem fr_st {K : Nat → Nat → Bool} {M : xM} {k o s : Nat} {v : Value} (h : K k o = true) : fr K M (xst M k o s v) := fun k' o' s' q => by
  unfold xst
  rw [if_neg]
  rintro ⟨rfl, rfl, -⟩
  rw [h] at q; cases q
theorem fr_step {K : Nat → Nat → Bool} {M M1 : xM} {k o s : Nat} {v : Value} (h1 : fr K M M1) (h : K k o = true) : fr K M (xst M1 k o s v) := fr_trans h1 (fr_st h)
theorem fr_gi {K : Nat → Nat → Bool} {M M' : xM} (h : fr K M M') {k o : Nat} (hk : K k o = false) (s : Nat) : gi M' k o s = gi M k o s := by
  unfold gi; rw [h k o s hk]
theorem fr_gl {K : Nat → Nat → Bool} {M M' : xM} (h : fr K M M') {k o : Nat} (hk : K k o = false) (s : Nat) : gl M' k o s = gl M k o s := by
  unfold gl; rw [h k o s hk]
theorem fr_gn {K : Nat → Nat → Bool} {M M' : xM} (h : fr K M M') {k o : Nat} (hk : K k o = false) (s : Nat) : gn M' k o s = gn M k o s := by
  unfold gn; rw [h k o s hk]
abbrev rI (x : Int32) (M : xM) : xR := some (.inl (some (0, .int x)), M)
abbrev rV (M : xM) : xR := some (.inl none, M)
abbrev rE (E : Nat) (M : xM) : xR := some (.inr E, M)
theorem xbI_r (x : Int32) (M : xM) (f : Int32 → xM → xR) : xbI (some (.inl (some (0, .int x)), M)) f = f x M := rfl
theorem xbI_e (E : Nat) (M : xM) (f : Int32 → xM → xR) : xbI (some (.inr E, M)) f = some (.inr E, M) := rfl
theorem xbL_r (x : Int64) (M : xM) (f : Int64 → xM → xR) : xbL (some (.inl (some (0, .long x)), M)) f = f x M := rfl
theorem xbF_r (x : UInt32) (M : xM) (f : UInt32 → xM → xR) : xbF (some (.inl (some (0, .float x)), M)) f = f x M := rfl
theorem xbD_r (x : UInt64) (M : xM) (f : UInt64 → xM → xR) : xbD (some (.inl (some (0, .double x)), M)) f = f x M := rfl
theorem xbV_r (M : xM) (f : xM → xR) : xbV (some (.inl none, M)) f = f M := rfl
theorem xbV_e (E : Nat) (M : xM) (f : xM → xR) : xbV (some (.inr E, M)) f = some (.inr E, M) := rfl
theorem xbR_r (k o : Nat) (M : xM) (f : Nat → xM → xR) : xbR (some (.inl (some (k, .ref o)), M)) k f = f o M := by
  show (if k = k then f o M else none) = _
  rw [if_pos rfl]
theorem xret_I (x : Int32) (M : xM) : xret (some (.inl (some (0, .int x)), M)) = some (.inl (some (0, .int x)), M) := rfl
theorem xret_v (v : Option xV) (M : xM) : xret (some (.inl v, M)) = some (.inl v, M) := rfl
theorem xhI_r (x : Int32) (M : xM) (f : Int32 → xM → xR) (h : Nat → xM → xR) : xhI (some (.inl (some (0, .int x)), M)) f h = f x M := rfl
theorem xhI_e (E : Nat) (M : xM) (f : Int32 → xM → xR) (h : Nat → xM → xR) : xhI (some (.inr E, M)) f h = h E M := rfl
/-- an index in its row -/
theorem xck_z {x : Int} {n : Nat} {k : xR} (h1 : 0 ≤ x) (h2 : x < n) (h3 : n ≤ 2147483648) : xck (zi x) n k = k := by
  unfold xck
  rw [if_neg]
  rintro (h | h)
  · rw [show (0 : Int32) = zi 0 from rfl, zi_lt (by omega) (by omega) (by decide) (by decide)] at h
    omega
  · rw [zi_ix (by omega) (by omega)] at h
    omega
theorem xck_n {i n : Nat} {k : xR} (h2 : i < n) (h3 : n ≤ 2147483648) : xck (zi i) n k = k := xck_z (by omega) (by omega) h3
theorem zix {i : Nat} (h : i < 2147483648) : ix (zi (i : Int)) = i := by
  rw [zi_ix (by omega) (by omega)]
  exact Int.toNat_natCast i
theorem zixz {x : Int} (h1 : 0 ≤ x) (h : x < 2147483648) : ix (zi x) = x.toNat := zi_ix (by omega) (by omega)
/-- numbers that are written -/
theorem zi_00 : (0 : Int32) = zi 0 := rfl
theorem zi_01 : (1 : Int32) = zi 1 := rfl
theorem zi_02 : (2 : Int32) = zi 2 := rfl
theorem zi_03 : (3 : Int32) = zi 3 := rfl
theorem zi_04 : (4 : Int32) = zi 4 := rfl
theorem zi_05 : (5 : Int32) = zi 5 := rfl
theorem zi_06 : (6 : Int32) = zi 6 := rfl
theorem zi_07 : (7 : Int32) = zi 7 := rfl
theorem zi_08 : (8 : Int32) = zi 8 := rfl
theorem zi_09 : (9 : Int32) = zi 9 := rfl
theorem zi_10 : (10 : Int32) = zi 10 := rfl
theorem zi_12 : (12 : Int32) = zi 12 := rfl
theorem zi_20 : (20 : Int32) = zi 20 := rfl
theorem zi_28 : (28 : Int32) = zi 28 := rfl
theorem zi_30 : (30 : Int32) = zi 30 := rfl
theorem zi_99 : (99 : Int32) = zi 99 := rfl
theorem zi_144 : (144 : Int32) = zi 144 := rfl
theorem zi_172 : (172 : Int32) = zi 172 := rfl
theorem zi_316 : (316 : Int32) = zi 316 := rfl
theorem zi_480 : (480 : Int32) = zi 480 := rfl
theorem zi_600 : (600 : Int32) = zi 600 := rfl
theorem zi_999 : (999 : Int32) = zi 999 := rfl
theorem zi_1440 : (1440 : Int32) = zi 1440 := rfl
theorem zi_m1 : (-1 : Int32) = zi (-1) := rfl
theorem zi_n (n : Nat) : Int32.ofNat n = zi n := rfl
/-- a number that is given -/
theorem zi_ex (a : Int32) : ∃ x : Int, a = zi x ∧ -2147483648 ≤ x ∧ x < 2147483648 := ⟨a.toInt, (zi_of a).symm, Int32.le_toInt a, Int32.toInt_lt a⟩
/-- yes or no -/
def bz (c : Bool) : Int32 := if c = true then 1 else 0
theorem bz_0 (c : Bool) : (bz c = 0) = (c = false) := by cases c <;> decide
theorem bz_zi (c : Bool) : bz c = zi (if c = true then 1 else 0) := by cases c <;> rfl
theorem xnar_b (c : Bool) : xnar 1 (bz c) = bz c := by cases c <;> decide
theorem xnar_0 : xnar 1 0 = bz false := by decide
theorem xnar_1 : xnar 1 1 = bz true := by decide
theorem bz_t : (1 : Int32) = bz true := rfl
theorem bz_f : (0 : Int32) = bz false := rfl
theorem ite_tt {α : Type} (a b : α) : (if true = false then a else b) = b := if_neg (by decide)
theorem ite_b {α : Type} (c : Bool) (a b : α) : (if bz c = 0 then a else b) = if c = true then b else a := by cases c <;> rfl
