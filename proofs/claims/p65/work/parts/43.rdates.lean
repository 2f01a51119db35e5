/-! the class's half of the part 43 of the proof of whole (wip/p65/mkhalf.py) -/
def on32 (k o _ : Nat) : Bool := Nat.beq o 0 && Nat.beq k 32
def on33 (k o _ : Nat) : Bool := Nat.beq o 0 && Nat.beq k 33
def on34 (k o _ : Nat) : Bool := Nat.beq o 0 && Nat.beq k 34
def onE (k o s : Nat) : Bool := Nat.beq o 0 && ((Nat.beq k 27 && Nat.beq s 13) || (Nat.beq k 33 || Nat.beq k 34))
theorem on32_B {M M' : xM} (f : fz on32 M M') : fz onB M M' := fz_mono (fun k o s h => by
  obtain ⟨h1, h2⟩ := Bool.and_eq_true_iff.mp h
  obtain rfl := Nat.eq_of_beq_eq_true h1
  obtain rfl := Nat.eq_of_beq_eq_true h2
  rfl) f
theorem on33_E {M M' : xM} (f : fz on33 M M') : fz onE M M' := fz_mono (fun k o s h => by
  obtain ⟨h1, h2⟩ := Bool.and_eq_true_iff.mp h
  obtain rfl := Nat.eq_of_beq_eq_true h1
  obtain rfl := Nat.eq_of_beq_eq_true h2
  rfl) f
theorem on34_E {M M' : xM} (f : fz on34 M M') : fz onE M M' := fz_mono (fun k o s h => by
  obtain ⟨h1, h2⟩ := Bool.and_eq_true_iff.mp h
  obtain rfl := Nat.eq_of_beq_eq_true h1
  obtain rfl := Nat.eq_of_beq_eq_true h2
  rfl) f
theorem onE_B {M M' : xM} (f : fz onE M M') : fz onB M M' := fz_mono (fun k o s h => by
  obtain ⟨h1, h2⟩ := Bool.and_eq_true_iff.mp h
  obtain rfl := Nat.eq_of_beq_eq_true h1
  rcases Bool.or_eq_true_iff.mp h2 with h2 | h2
  · obtain ⟨h3, h4⟩ := Bool.and_eq_true_iff.mp h2
    obtain rfl := Nat.eq_of_beq_eq_true h3
    obtain rfl := Nat.eq_of_beq_eq_true h4
    rfl
  · rcases Bool.or_eq_true_iff.mp h2 with h2 | h2
    · obtain rfl := Nat.eq_of_beq_eq_true h2; rfl
    · obtain rfl := Nat.eq_of_beq_eq_true h2; rfl) f
theorem RB_32 {M M' : xM} {b : Nat → Int} (h : RB M b) (f : fz on32 M M') : RB M' b := RB_fz h f (fun _ => rfl)
theorem RB_E {M M' : xM} {b : Nat → Int} (h : RB M b) (f : fz onE M M') : RB M' b := RB_fz h f (fun _ => rfl)
theorem RB_33 {M M' : xM} {b : Nat → Int} (h : RB M b) (f : fz on33 M M') : RB M' b := RB_fz h f (fun _ => rfl)
theorem RB_34 {M M' : xM} {b : Nat → Int} (h : RB M b) (f : fz on34 M M') : RB M' b := RB_fz h f (fun _ => rfl)
/-- steps in the middle of a level -/
def wkF (d : Nat → Int) (k : Nat) (A : Nat → Bool) (s : Nat) : Int := if d s ≠ -1 then d s else if A s = true then (k : Int) + 1 else -1
theorem wkF_bd {d : Nat → Int} {k : Nat} {A : Nat → Bool} {s : Nat} (h : -1 ≤ d s ∧ d s ≤ k) : -1 ≤ wkF d k A s ∧ wkF d k A s ≤ k + 1 := by
  unfold wkF
  split
  · omega
  · split <;> omega
theorem wkF_k {d : Nat → Int} {k : Nat} {A : Nat → Bool} {s : Nat} (h : -1 ≤ d s ∧ d s ≤ k) : (wkF d k A s = k) = (d s = k) := by
  apply propext
  unfold wkF
  split
  · exact Iff.rfl
  · rename_i c
    split <;> omega
theorem wkF_ext {d : Nat → Int} {k : Nat} {A B : Nat → Bool} {s : Nat} (h : A s = B s) : wkF d k A s = wkF d k B s := by
  unfold wkF; rw [h]
theorem wkF_up {d : Nat → Int} {k : Nat} {A : Nat → Bool} {t s : Nat} : wkF d k (fun x => A x || (x == t)) s = if s = t ∧ wkF d k A t = -1 then (k : Int) + 1 else wkF d k A s := by
  by_cases e : s = t
  · subst e
    unfold wkF
    by_cases c : d s = -1
    · cases A s <;> simp [c]
    · simp [c]
  · have : (s == t) = false := by simp [e]
    rw [wkF_ext (A := fun x => A x || (x == t)) (B := A) (by simp [this])]
    exact (if_neg (fun q => e q.1)).symm
