/-! what is remembered, on both sides -/
def onAll (k o s : Nat) : Bool := onI k o s || (Nat.beq k 28 && Nat.blt s 2212) || Nat.beq k 17 || (Nat.beq k 27 && Nat.beq s 2) || ((Nat.ble 2 k && Nat.ble k 9) && !(Nat.beq o 7 || Nat.beq o 8))
theorem All_I {M M' : xM} (f : fz onI M M') : fz onAll M M' := fz_mono (fun k o s h => by unfold onAll; rw [h]; rfl) f
theorem beq_ff {a c : Nat} (h : a ≠ c) : Nat.beq a c = false := by
  cases e : Nat.beq a c with
  | false => rfl
  | true => exact absurd (Nat.eq_of_beq_eq_true e) h
theorem onP_All {p k o s : Nat} (hp : p ≠ 7 ∧ p ≠ 8) (h : onP p k o = true) : onAll k o s = true := by
  unfold onP at h
  obtain ⟨h1, h2⟩ := Bool.and_eq_true_iff.mp h
  obtain rfl := Nat.eq_of_beq_eq_true h2
  unfold onAll
  rw [h1, beq_ff hp.1, beq_ff hp.2]
  exact Bool.or_true _
theorem All_P {p : Nat} (hp : p ≠ 7 ∧ p ≠ 8) {M M' : xM} (f : fr (onP p) M M') : fz onAll M M' := fz_mono (fun k o s h => onP_All hp h) (fr_fz f)
theorem blt_t {a c : Nat} (h : a < c) : Nat.blt a c = true := Nat.ble_eq_true_of_le h
theorem All_H {M M' : xM} (f : fz onH M M') : fz onAll M M' := fz_mono (fun k o s h => by
  unfold onH at h
  obtain ⟨h1, h2⟩ := Bool.and_eq_true_iff.mp h
  obtain rfl := Nat.eq_of_beq_eq_true h1
  rcases Bool.or_eq_true_iff.mp h2 with h | h
  · obtain ⟨h3, h4⟩ := Bool.and_eq_true_iff.mp h
    obtain rfl := Nat.eq_of_beq_eq_true h3
    obtain rfl := Nat.eq_of_beq_eq_true h4
    rfl
  · obtain ⟨h3, h4⟩ := Bool.and_eq_true_iff.mp h
    obtain ⟨_, h5⟩ := Bool.and_eq_true_iff.mp h4
    obtain rfl := Nat.eq_of_beq_eq_true h3
    unfold onAll
    rw [h5]; rfl) f
theorem All_BK {M M' : xM} (f : fz onBK M M') : fz onAll M M' := fz_mono (fun k o s e => by
  unfold onBK at e
  rcases Bool.or_eq_true_iff.mp e with e | e
  · obtain ⟨rfl, ⟨rfl, rfl⟩ | h⟩ := onB_i e
    · rfl
    · have : k = 32 ∨ k = 33 ∨ k = 34 ∨ k = 35 ∨ k = 36 ∨ k = 37 := by omega
      rcases this with rfl | rfl | rfl | rfl | rfl | rfl <;> rfl
  · unfold on280 at e
    obtain ⟨h1, h2⟩ := Bool.and_eq_true_iff.mp e
    obtain ⟨h3, h4⟩ := Bool.and_eq_true_iff.mp h1
    obtain rfl := Nat.eq_of_beq_eq_true h4
    have lt : s < 316 := Nat.le_of_ble_eq_true h2
    unfold onAll
    rw [blt_t (show s < 2212 by omega)]; rfl) f
theorem All_17 {M : xM} {s : Nat} {v : Value} : fz onAll M (xst M 17 0 s v) := fz_st rfl
theorem All_28 {i k : Nat} (h : 7 ≤ i) : onAll 28 0 (316 * i + k) = false := by
  unfold onAll
  have : Nat.blt (316 * i + k) 2212 = false := by
    cases e : Nat.blt (316 * i + k) 2212 with
    | false => rfl
    | true =>
      have : 316 * i + k < 2212 := Nat.le_of_ble_eq_true e
      omega
  rw [this]; rfl
theorem All_p {k p s : Nat} (h1 : 2 ≤ k) (h2 : k ≤ 9) (hp : p = 7 ∨ p = 8) : onAll k p s = false := by
  have : k = 2 ∨ k = 3 ∨ k = 4 ∨ k = 5 ∨ k = 6 ∨ k = 7 ∨ k = 8 ∨ k = 9 := by omega
  rcases hp with rfl | rfl <;> rcases this with rfl | rfl | rfl | rfl | rfl | rfl | rfl | rfl <;> rfl
