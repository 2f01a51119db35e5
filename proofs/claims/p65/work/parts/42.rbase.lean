/-! the class's half of the part 42 of the proof of whole (wip/p65/mkhalf.py) -/
/-- all but the places of K is as it was -/
def fz (K : Nat → Nat → Nat → Bool) (M M' : xM) : Prop := ∀ k o s, K k o s = false → M' k o s = M k o s
theorem fz_refl {K : Nat → Nat → Nat → Bool} (M : xM) : fz K M M := fun _ _ _ _ => rfl
theorem fz_trans {K : Nat → Nat → Nat → Bool} {M M1 M2 : xM} (h1 : fz K M M1) (h2 : fz K M1 M2) : fz K M M2 := fun k o s h => (h2 k o s h).trans (h1 k o s h)
theorem fz_mono {K K' : Nat → Nat → Nat → Bool} {M M' : xM} (h : ∀ k o s, K k o s = true → K' k o s = true) (h1 : fz K M M') : fz K' M M' := fun k o s q => h1 k o s (by
  cases e : K k o s with
  | false => rfl
  | true => rw [h k o s e] at q; cases q)
theorem fz_of {K : Nat → Nat → Bool} {M M' : xM} (h : fr K M M') : fz (fun k o _ => K k o) M M' := h
theorem fz_st {K : Nat → Nat → Nat → Bool} {M : xM} {k o s : Nat} {v : Value} (h : K k o s = true) : fz K M (xst M k o s v) := fun k' o' s' q => by
  unfold xst
  rw [if_neg]
  rintro ⟨rfl, rfl, rfl⟩
  rw [h] at q; cases q
theorem fz_step {K : Nat → Nat → Nat → Bool} {M M1 : xM} {k o s : Nat} {v : Value} (h1 : fz K M M1) (h : K k o s = true) : fz K M (xst M1 k o s v) := fz_trans h1 (fz_st h)
theorem fz_gi {K : Nat → Nat → Nat → Bool} {M M' : xM} (h : fz K M M') {k o s : Nat} (hk : K k o s = false) : gi M' k o s = gi M k o s := by
  unfold gi; rw [h k o s hk]
theorem fz_gl {K : Nat → Nat → Nat → Bool} {M M' : xM} (h : fz K M M') {k o s : Nat} (hk : K k o s = false) : gl M' k o s = gl M k o s := by
  unfold gl; rw [h k o s hk]
theorem fz_gn {K : Nat → Nat → Nat → Bool} {M M' : xM} (h : fz K M M') {k o s : Nat} (hk : K k o s = false) : gn M' k o s = gn M k o s := by
  unfold gn; rw [h k o s hk]
/-- block 0 -/
def RB (M : xM) (b : Nat → Int) : Prop := ∀ k, k < 316 → gi M 28 0 k = zi (b k)
/-- where the reference reckons: dates, steps, schedule -/
def onB (k o s : Nat) : Bool := Nat.beq o 0 && ((Nat.beq k 27 && Nat.beq s 13) || (Nat.ble 32 k && Nat.ble k 37))
theorem RB_fz {K : Nat → Nat → Nat → Bool} {M M' : xM} {b : Nat → Int} (h : RB M b) (f : fz K M M') (hK : ∀ s, K 28 0 s = false) : RB M' b := fun k hk => (fz_gi f (hK k)).trans (h k hk)
theorem RB_B {M M' : xM} {b : Nat → Int} (h : RB M b) (f : fz onB M M') : RB M' b := RB_fz h f (fun _ => rfl)
theorem xck_0 (k : xR) : xck 0 3160 k = k := if_neg (by decide)
theorem xck_1 (k : xR) : xck 1 3160 k = k := if_neg (by decide)
theorem xck_2 (k : xR) : xck 2 3160 k = k := if_neg (by decide)
theorem xck_01 (k : xR) : xck 0 1 k = k := if_neg (by decide)
theorem ix_0 : ix 0 = 0 := rfl
theorem ix_1 : ix 1 = 1 := rfl
theorem ix_2 : ix 2 = 2 := rfl
theorem RB_0 {M : xM} {b : Nat → Int} (h : RB M b) : gi M 28 0 (ix 0) = zi (b 0) := h 0 (by decide)
theorem RB_R {M : xM} {b : Nat → Int} (h : RB M b) (hw : wS b) : gi M 28 0 (ix 1) = zi (nR b) := by
  rw [ix_1, h 1 (by decide), (wS_r hw).2.2]
theorem RB_T {M : xM} {b : Nat → Int} (h : RB M b) (hw : wS b) : gi M 28 0 (ix 2) = zi (nT b) := by
  rw [ix_2, h 2 (by decide), (wS_n hw).2.2]
theorem wL_1 {b : Nat → Int} (hl : wL b) {f t : Nat} (hf : f < 12) (ht : t < 12) : (zi (b (172 + 12 * f + t)) = (1 : Int32)) = (bL b f t = true) := by
  have := (hl f t hf ht).1
  rw [zi_01, zi_eq (by omega) (by omega) (by decide) (by decide)]
  unfold bL
  rw [decide_eq_true_iff]
theorem bL_lt {b : Nat → Int} (hl : wL b) {f t : Nat} (hf : f < 12) (ht : t < 12) (h : bL b f t = true) : f < nT b ∧ t < nT b := (hl f t hf ht).2 (of_decide_eq_true h)
/-- what is thrown -/
def thr (M : xM) (n : Nat) : xM := xst M 27 0 9 (.int (zi n))
theorem RB_thr {M : xM} {b : Nat → Int} (h : RB M b) (n : Nat) : RB (thr M n) b := fun k hk => (gi_k (by decide)).trans (h k hk)
theorem bz_1 (c : Bool) : (bz c = 1) = (c = true) := by cases c <;> decide
