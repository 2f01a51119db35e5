/-! the class's half of the part 49 of the proof of whole (wip/p65/mkhalf.py) -/
def onP (p : Nat) : Nat → Nat → Bool := fun k o => (Nat.ble 2 k && Nat.ble k 9) && Nat.beq o p
theorem onP_k {p k o : Nat} (h : k < 2 ∨ 9 < k ∨ o ≠ p) : onP p k o = false := by
  unfold onP
  cases h1 : Nat.ble 2 k with
  | false => rfl
  | true =>
    cases h2 : Nat.ble k 9 with
    | false => rfl
    | true =>
      cases h3 : Nat.beq o p with
      | false => rfl
      | true =>
        have := Nat.le_of_ble_eq_true h1
        have := Nat.le_of_ble_eq_true h2
        have := Nat.eq_of_beq_eq_true h3
        omega
theorem gi_cpy (M : xM) (ks os kd od sp dp n k o s : Nat) : gi (xcpy M ks os kd od sp dp n) k o s = if k = kd ∧ o = od ∧ dp ≤ s ∧ s < dp + n then gi M ks os (sp + (s - dp)) else gi M k o s := by
  unfold gi xcpy
  by_cases h : k = kd ∧ o = od ∧ dp ≤ s ∧ s < dp + n
  · rw [if_pos h, if_pos h]
  · rw [if_neg h, if_neg h]
theorem gl_cpy (M : xM) (ks os kd od sp dp n k o s : Nat) : gl (xcpy M ks os kd od sp dp n) k o s = if k = kd ∧ o = od ∧ dp ≤ s ∧ s < dp + n then gl M ks os (sp + (s - dp)) else gl M k o s := by
  unfold gl xcpy
  by_cases h : k = kd ∧ o = od ∧ dp ≤ s ∧ s < dp + n
  · rw [if_pos h, if_pos h]
  · rw [if_neg h, if_neg h]
theorem fr_cpy {K : Nat → Nat → Bool} {M M1 : xM} {ks os kd od sp dp n : Nat} (h1 : fr K M M1) (h : K kd od = true) : fr K M (xcpy M1 ks os kd od sp dp n) := fr_trans h1 (fun k o s q => by
  unfold xcpy
  rw [if_neg]
  rintro ⟨rfl, rfl, -⟩
  rw [h] at q; cases q)
theorem s_copy (M : xM) {p q : Nat} (hpq : p ≠ q) : ∃ M', m_P_copyFrom q p M = rV M' ∧ fr (onP q) M M' ∧ ∀ b, CP M p b → CP M' q b := by
  have kk : ∀ k, 2 ≤ k → k ≤ 9 → onP q k q = true := fun k h1 h2 => by
    unfold onP
    rw [Nat.ble_eq_true_of_le h1, Nat.ble_eq_true_of_le h2]
    exact Nat.beq_refl q
  rw [e_m_P_copyFrom, if_neg (by decide), if_neg (by decide), if_neg (by decide), if_neg (by decide), if_neg (by decide), if_neg (by decide), if_neg (by decide)]
  refine ⟨_, rfl, fr_cpy (fr_cpy (fr_cpy (fr_cpy (fr_cpy (fr_cpy (fr_cpy (fr_step (fr_step (fr_st (kk 2 (by omega) (by omega))) (kk 2 (by omega) (by omega))) (kk 2 (by omega) (by omega))) (kk 3 (by omega) (by omega))) (kk 4 (by omega) (by omega))) (kk 5 (by omega) (by omega))) (kk 6 (by omega) (by omega))) (kk 7 (by omega) (by omega))) (kk 8 (by omega) (by omega))) (kk 9 (by omega) (by omega)), fun b h => ?_⟩
  have hn := CP_n h
  have hr := CP_r h
  have i0 : ix 0 = 0 := rfl
  have i3 : ix 3 = 3 := rfl
  have i12 : ix 12 = 12 := rfl
  have i36 : ix 36 = 36 := rfl
  rw [i0, i3, i12, i36]
  refine CP_ext h ⟨fun t ht => ht, rfl, hn⟩ ⟨?_, ?_, ?_⟩ (fun t ht => ⟨?_, ?_, ?_, ?_⟩) (fun r hr2 => ⟨?_, ?_⟩) (fun t r ht hr2 => ?_)
  · rw [gi_cpy, if_neg (by omega), gi_cpy, if_neg (by omega), gi_cpy, if_neg (by omega), gi_cpy, if_neg (by omega), gi_cpy, if_neg (by omega), gi_cpy, if_neg (by omega), gi_cpy, if_neg (by omega), gi_s (by decide), gi_s (by decide), gi_h]; exact CP_0 h
  · rw [gi_cpy, if_neg (by omega), gi_cpy, if_neg (by omega), gi_cpy, if_neg (by omega), gi_cpy, if_neg (by omega), gi_cpy, if_neg (by omega), gi_cpy, if_neg (by omega), gi_cpy, if_neg (by omega), gi_s (by decide), gi_h, gi_o hpq]; exact CP_R h
  · rw [gi_cpy, if_neg (by omega), gi_cpy, if_neg (by omega), gi_cpy, if_neg (by omega), gi_cpy, if_neg (by omega), gi_cpy, if_neg (by omega), gi_cpy, if_neg (by omega), gi_cpy, if_neg (by omega), gi_h, gi_o hpq, gi_o hpq]; exact CP_T h
  · rw [gi_cpy, if_neg (by omega), gi_cpy, if_neg (by omega), gi_cpy, if_neg (by omega), gi_cpy, if_pos (by omega), gi_cpy, if_neg (by omega), gi_cpy, if_neg (by omega), gi_cpy, if_neg (by omega), gi_k (by decide), gi_k (by decide), gi_k (by decide), show 0 + (t - 0) = t by omega]; exact CP_D h ht
  · rw [gi_cpy, if_neg (by omega), gi_cpy, if_neg (by omega), gi_cpy, if_pos (by omega), gi_cpy, if_neg (by omega), gi_cpy, if_neg (by omega), gi_cpy, if_neg (by omega), gi_cpy, if_neg (by omega), gi_k (by decide), gi_k (by decide), gi_k (by decide), show 0 + (t - 0) = t by omega]; exact CP_E h ht
  · rw [gi_cpy, if_neg (by omega), gi_cpy, if_pos (by omega), gi_cpy, if_neg (by omega), gi_cpy, if_neg (by omega), gi_cpy, if_neg (by omega), gi_cpy, if_neg (by omega), gi_cpy, if_neg (by omega), gi_k (by decide), gi_k (by decide), gi_k (by decide), show 0 + (t - 0) = t by omega]; exact CP_L h ht
  · rw [gl_cpy, if_neg (by omega), gl_cpy, if_neg (by omega), gl_cpy, if_neg (by omega), gl_cpy, if_neg (by omega), gl_cpy, if_pos (by omega), gl_cpy, if_neg (by omega), gl_cpy, if_neg (by omega), gl_k (by decide), gl_k (by decide), gl_k (by decide), show 0 + (t - 0) = t by omega]; exact CP_N h ht
  · rw [gi_cpy, if_neg (by omega), gi_cpy, if_neg (by omega), gi_cpy, if_neg (by omega), gi_cpy, if_neg (by omega), gi_cpy, if_neg (by omega), gi_cpy, if_pos (by omega), gi_cpy, if_neg (by omega), gi_k (by decide), gi_k (by decide), gi_k (by decide), show 0 + (r - 0) = r by omega]; exact CP_C h hr2
  · rw [gl_cpy, if_neg (by omega), gl_cpy, if_neg (by omega), gl_cpy, if_neg (by omega), gl_cpy, if_neg (by omega), gl_cpy, if_neg (by omega), gl_cpy, if_neg (by omega), gl_cpy, if_pos (by omega), gl_k (by decide), gl_k (by decide), gl_k (by decide), show 0 + (r - 0) = r by omega]; exact CP_M h hr2
  · rw [gi_cpy, if_pos (by omega), gi_cpy, if_neg (by omega), gi_cpy, if_neg (by omega), gi_cpy, if_neg (by omega), gi_cpy, if_neg (by omega), gi_cpy, if_neg (by omega), gi_cpy, if_neg (by omega), gi_k (by decide), gi_k (by decide), gi_k (by decide), show 0 + (3 * t + r - 0) = 3 * t + r by omega]; exact CP_U h ht hr2
/-- block i of the reference -/
def bk (M : xM) (i : Nat) : Nat → Int := fun k => if k < 316 then (gi M 28 0 (316 * i + k)).toInt else 0
theorem bk_zi (M : xM) (i : Nat) {k : Nat} (hk : k < 316) : gi M 28 0 (316 * i + k) = zi (bk M i k) := by
  unfold bk
  rw [if_pos hk]
  exact (zi_of _).symm
theorem RB_bk (M : xM) : RB M (bk M 0) := fun k hk => by
  have := bk_zi M 0 hk
  rw [show 316 * 0 + k = k by omega] at this
  exact this
theorem bk_eq {M M' : xM} {i j : Nat} (h : ∀ k, k < 316 → gi M' 28 0 (316 * j + k) = gi M 28 0 (316 * i + k)) : bk M' j = bk M i := by
  funext k
  unfold bk
  by_cases c : k < 316
  · rw [if_pos c, if_pos c, h k c]
  · rw [if_neg c, if_neg c]
theorem bk_fz {K : Nat → Nat → Nat → Bool} {M M' : xM} (f : fz K M M') {i : Nat} (hK : ∀ k, k < 316 → K 28 0 (316 * i + k) = false) : bk M' i = bk M i := bk_eq (fun k hk => fz_gi f (hK k hk))
theorem bk_fr {K : Nat → Nat → Bool} {M M' : xM} (f : fr K M M') (hK : K 28 0 = false) (i : Nat) : bk M' i = bk M i := bk_eq (fun k hk => fr_gi f hK _)
def on28 (j k o s : Nat) : Bool := (Nat.beq o 0 && Nat.beq k 28) && (Nat.ble (316 * j) s && Nat.blt s (316 * j + 316))
theorem on28_k {j k o s : Nat} (h : k ≠ 28) : on28 j k o s = false := by
  unfold on28
  cases e : Nat.beq k 28 with
  | false => rw [Bool.and_false]; rfl
  | true => exact absurd (Nat.eq_of_beq_eq_true e) h
theorem on28_b {j i k : Nat} (hk : k < 316) (h : i ≠ j) : on28 j 28 0 (316 * i + k) = false := by
  unfold on28
  cases h1 : Nat.ble (316 * j) (316 * i + k) with
  | false => rfl
  | true =>
    cases h2 : Nat.blt (316 * i + k) (316 * j + 316) with
    | false => rfl
    | true =>
      have := Nat.le_of_ble_eq_true h1
      have : 316 * i + k < 316 * j + 316 := Nat.le_of_ble_eq_true h2
      omega
theorem on28_t {j k : Nat} (hk : k < 316) : on28 j 28 0 (316 * j + k) = true := by
  unfold on28
  rw [Nat.ble_eq_true_of_le (by omega : 316 * j ≤ 316 * j + k)]
  have : Nat.blt (316 * j + k) (316 * j + 316) = true := Nat.ble_eq_true_of_le (by omega)
  rw [this]; rfl
/-- all blocks but 0, 7, 8, 9; and the count -/
def onH (k o s : Nat) : Bool := Nat.beq o 0 && ((Nat.beq k 27 && Nat.beq s 2) || (Nat.beq k 28 && (Nat.ble 316 s && Nat.blt s 2212)))
theorem on28_H {j : Nat} (h1 : 1 ≤ j) (h2 : j ≤ 6) {M M' : xM} (f : fz (on28 j) M M') : fz onH M M' := fz_mono (fun k o s h => by
  obtain ⟨h3, h4⟩ := Bool.and_eq_true_iff.mp h
  obtain ⟨h5, h6⟩ := Bool.and_eq_true_iff.mp h3
  obtain ⟨h7, h8⟩ := Bool.and_eq_true_iff.mp h4
  obtain rfl := Nat.eq_of_beq_eq_true h5
  obtain rfl := Nat.eq_of_beq_eq_true h6
  have h7 := Nat.le_of_ble_eq_true h7
  have h8 : s < 316 * j + 316 := Nat.le_of_ble_eq_true h8
  unfold onH
  rw [Nat.ble_eq_true_of_le (by omega : 316 ≤ s)]
  have : Nat.blt s 2212 = true := Nat.ble_eq_true_of_le (by omega)
  rw [this]; rfl) f
theorem onH_b {i k : Nat} (hk : k < 316) (h : i = 0 ∨ 7 ≤ i) : onH 28 0 (316 * i + k) = false := by
  unfold onH
  cases h1 : Nat.ble 316 (316 * i + k) with
  | false => rfl
  | true =>
    cases h2 : Nat.blt (316 * i + k) 2212 with
    | false => rfl
    | true =>
      have := Nat.le_of_ble_eq_true h1
      have : 316 * i + k < 2212 := Nat.le_of_ble_eq_true h2
      omega
