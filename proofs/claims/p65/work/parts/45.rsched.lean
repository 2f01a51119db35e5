/-! the class's half of the part 45 of the proof of whole (wip/p65/mkhalf.py) -/
def on36 (k o _ : Nat) : Bool := Nat.beq o 0 && Nat.beq k 36
def onZ (k o _ : Nat) : Bool := Nat.beq o 0 && (Nat.beq k 32 || (Nat.ble 35 k && Nat.ble k 37))
theorem on36_Z {M M' : xM} (f : fz on36 M M') : fz onZ M M' := fz_mono (fun k o s h => by
  obtain ⟨h1, h2⟩ := Bool.and_eq_true_iff.mp h
  obtain rfl := Nat.eq_of_beq_eq_true h1
  obtain rfl := Nat.eq_of_beq_eq_true h2
  rfl) f
theorem on32_Z {M M' : xM} (f : fz on32 M M') : fz onZ M M' := fz_mono (fun k o s h => by
  obtain ⟨h1, h2⟩ := Bool.and_eq_true_iff.mp h
  obtain rfl := Nat.eq_of_beq_eq_true h1
  obtain rfl := Nat.eq_of_beq_eq_true h2
  rfl) f
theorem onZ_B {M M' : xM} (f : fz onZ M M') : fz onB M M' := fz_mono (fun k o s h => by
  obtain ⟨h1, h2⟩ := Bool.and_eq_true_iff.mp h
  obtain rfl := Nat.eq_of_beq_eq_true h1
  rcases Bool.or_eq_true_iff.mp h2 with h2 | h2
  · obtain rfl := Nat.eq_of_beq_eq_true h2; rfl
  · obtain ⟨h3, h4⟩ := Bool.and_eq_true_iff.mp h2
    have h3 := Nat.le_of_ble_eq_true h3
    unfold onB
    rw [h4, Nat.ble_eq_true_of_le (show 32 ≤ k by omega), Bool.and_self, Bool.or_true]; rfl) f
theorem RB_Z {M M' : xM} {b : Nat → Int} (h : RB M b) (f : fz onZ M M') : RB M' b := RB_fz h f (fun _ => rfl)
theorem RB_36 {M M' : xM} {b : Nat → Int} (h : RB M b) (f : fz on36 M M') : RB M' b := RB_fz h f (fun _ => rfl)
theorem RD_Z {M M' : xM} {b : Nat → Int} (h : RD M b) (f : fz onZ M M') : RD M' b := ⟨(fz_gi f rfl).trans h.1, fun t ht => ⟨(fz_gi f rfl).trans (h.2 t ht).1, (fz_gi f rfl).trans (h.2 t ht).2⟩⟩
/-- where the tasks are placed -/
def SP (M : xM) (b : Nat → Int) (P : Nat → Bool) (s : Nat → Int) : Prop := ∀ t, t < nT b → gi M 35 0 t = zi (s t) ∧ (P t = true → 0 ≤ s t ∧ s t ≤ 1000) ∧ (P t = false → s t = -1)
def keyR (b : Nat → Int) (t : Nat) : Int := if b 0 = 0 then (t : Int) else if b 0 = 1 then lsB b t else if b 0 = 2 then - bD b t else - (cnt (fun x => aft (nT b) (bL b) t x) (nT b) : Nat)
theorem bst_R {b : Nat → Int} (hw : wS b) (el : Nat → Bool) (n : Nat) : bst el (keyR b) n = bst el (keyS b) n := by
  have h0 := hw.2.2.1
  by_cases c : b 0 = 0
  · have e1 : keyR b = fun t : Nat => (t : Int) := by
      funext t; unfold keyR; rw [if_pos c]
    have e2 : keyS b = fun _ => 0 := by
      funext t; unfold keyS; rw [if_neg (by omega), if_neg (by omega), if_neg (by omega)]
    rw [e1, e2]
    exact bst_num (fun i j h => by omega) n
  · have e1 : keyR b = keyS b := by
      funext t
      unfold keyR keyS
      rw [if_neg c]
      by_cases c1 : b 0 = 1
      · rw [if_pos c1, if_pos c1]
      · rw [if_neg c1, if_neg c1]
        by_cases c2 : b 0 = 2
        · rw [if_pos c2, if_pos c2]
        · rw [if_neg c2, if_neg c2, if_pos (by omega)]
    rw [e1]
/-- how many are behind a task -/
def AH (M : xM) (b : Nat → Int) : Prop := ∀ t, t < nT b → gi M 37 0 t = zi (cnt (fun x => aft (nT b) (bL b) t x) (nT b) : Nat)
theorem keyR_bd {b : Nat → Int} (hw : wS b) {t : Nat} (ht : t < nT b) : -1000 ≤ keyR b t ∧ keyR b t ≤ 1000 := by
  have hn := wS_n hw
  have a1 := hw.2.2.2.1 t ht
  have a2 := lsB_lo hw ht
  have a3 := lsB_hi hw ht
  have a4 := esB_lo hw ht
  have a5 := etB_hi hw
  have a6 := cnt_le (fun x => aft (nT b) (bL b) t x) (nT b)
  unfold keyR
  split
  · omega
  · split
    · omega
    · split <;> omega
/-- what is used -/
def US (M : xM) (b : Nat → Int) (F : Nat → Nat → Int) : Prop := ∀ r d, r < nR b → d < 480 → gi M 36 0 (480 * r + d) = zi (F r d)
theorem allN_comm {n m : Nat} {P : Nat → Nat → Bool} : allN n (fun i => allN m (fun j => P i j)) = allN m (fun j => allN n (fun i => P i j)) := by
  rw [Bool.eq_iff_iff, allN_iff, allN_iff]
  constructor
  · intro h j hj
    exact allN_iff.mpr (fun i hi => allN_iff.mp (h i hi) j hj)
  · intro h i hi
    exact allN_iff.mpr (fun j hj => allN_iff.mp (h j hj) i hi)
