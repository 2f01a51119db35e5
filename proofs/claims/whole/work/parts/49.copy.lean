/-! copies: a plan's, a block's; what is remembered -/
def onP (p : Nat) : Nat → Nat → Bool := fun k o => (Nat.ble 2 k && Nat.ble k 9) && Nat.beq o p
theorem onP_k {p k o : Nat} (h : k < 2 ∨ 9 < k ∨ o ≠ p) : onP p k o = false := by
  unfold onP
  cases h1 : Nat.ble 2 k with
  | false => rfl
  | true =>
    cases h2 : Nat.ble k 9 with
    | false => rfl
    | true =>
      cases h3 : Nat.beq o p with
      | false => rfl
      | true =>
        have := Nat.le_of_ble_eq_true h1
        have := Nat.le_of_ble_eq_true h2
        have := Nat.eq_of_beq_eq_true h3
        omega
theorem gi_cpy (M : xM) (ks os kd od sp dp n k o s : Nat) : gi (xcpy M ks os kd od sp dp n) k o s = if k = kd ∧ o = od ∧ dp ≤ s ∧ s < dp + n then gi M ks os (sp + (s - dp)) else gi M k o s := by
  unfold gi xcpy
  by_cases h : k = kd ∧ o = od ∧ dp ≤ s ∧ s < dp + n
  · rw [if_pos h, if_pos h]
  · rw [if_neg h, if_neg h]
theorem gl_cpy (M : xM) (ks os kd od sp dp n k o s : Nat) : gl (xcpy M ks os kd od sp dp n) k o s = if k = kd ∧ o = od ∧ dp ≤ s ∧ s < dp + n then gl M ks os (sp + (s - dp)) else gl M k o s := by
  unfold gl xcpy
  by_cases h : k = kd ∧ o = od ∧ dp ≤ s ∧ s < dp + n
  · rw [if_pos h, if_pos h]
  · rw [if_neg h, if_neg h]
theorem fr_cpy {K : Nat → Nat → Bool} {M M1 : xM} {ks os kd od sp dp n : Nat} (h1 : fr K M M1) (h : K kd od = true) : fr K M (xcpy M1 ks os kd od sp dp n) := fr_trans h1 (fun k o s q => by
  unfold xcpy
  rw [if_neg]
  rintro ⟨rfl, rfl, -⟩
  rw [h] at q; cases q)
theorem s_copy (M : xM) {p q : Nat} (hpq : p ≠ q) : ∃ M', m_P_copyFrom q p M = rV M' ∧ fr (onP q) M M' ∧ ∀ b, CP M p b → CP M' q b := by
  have kk : ∀ k, 2 ≤ k → k ≤ 9 → onP q k q = true := fun k h1 h2 => by
    unfold onP
    rw [Nat.ble_eq_true_of_le h1, Nat.ble_eq_true_of_le h2]
    exact Nat.beq_refl q
  rw [e_m_P_copyFrom, if_neg (by decide), if_neg (by decide), if_neg (by decide), if_neg (by decide), if_neg (by decide), if_neg (by decide), if_neg (by decide)]
  refine ⟨_, rfl, fr_cpy (fr_cpy (fr_cpy (fr_cpy (fr_cpy (fr_cpy (fr_cpy (fr_step (fr_step (fr_st (kk 2 (by omega) (by omega))) (kk 2 (by omega) (by omega))) (kk 2 (by omega) (by omega))) (kk 3 (by omega) (by omega))) (kk 4 (by omega) (by omega))) (kk 5 (by omega) (by omega))) (kk 6 (by omega) (by omega))) (kk 7 (by omega) (by omega))) (kk 8 (by omega) (by omega))) (kk 9 (by omega) (by omega)), fun b h => ?_⟩
  have hn := CP_n h
  have hr := CP_r h
  have i0 : ix 0 = 0 := rfl
  have i3 : ix 3 = 3 := rfl
  have i12 : ix 12 = 12 := rfl
  have i36 : ix 36 = 36 := rfl
  rw [i0, i3, i12, i36]
  refine CP_ext h ⟨fun t ht => ht, rfl, hn⟩ ⟨?_, ?_, ?_⟩ (fun t ht => ⟨?_, ?_, ?_, ?_⟩) (fun r hr2 => ⟨?_, ?_⟩) (fun t r ht hr2 => ?_)
  · rw [gi_cpy, if_neg (by omega), gi_cpy, if_neg (by omega), gi_cpy, if_neg (by omega), gi_cpy, if_neg (by omega), gi_cpy, if_neg (by omega), gi_cpy, if_neg (by omega), gi_cpy, if_neg (by omega), gi_s (by decide), gi_s (by decide), gi_h]; exact CP_0 h
  · rw [gi_cpy, if_neg (by omega), gi_cpy, if_neg (by omega), gi_cpy, if_neg (by omega), gi_cpy, if_neg (by omega), gi_cpy, if_neg (by omega), gi_cpy, if_neg (by omega), gi_cpy, if_neg (by omega), gi_s (by decide), gi_h, gi_o hpq]; exact CP_R h
  · rw [gi_cpy, if_neg (by omega), gi_cpy, if_neg (by omega), gi_cpy, if_neg (by omega), gi_cpy, if_neg (by omega), gi_cpy, if_neg (by omega), gi_cpy, if_neg (by omega), gi_cpy, if_neg (by omega), gi_h, gi_o hpq, gi_o hpq]; exact CP_T h
  · rw [gi_cpy, if_neg (by omega), gi_cpy, if_neg (by omega), gi_cpy, if_neg (by omega), gi_cpy, if_pos (by omega), gi_cpy, if_neg (by omega), gi_cpy, if_neg (by omega), gi_cpy, if_neg (by omega), gi_k (by decide), gi_k (by decide), gi_k (by decide), show 0 + (t - 0) = t by omega]; exact CP_D h ht
  · rw [gi_cpy, if_neg (by omega), gi_cpy, if_neg (by omega), gi_cpy, if_pos (by omega), gi_cpy, if_neg (by omega), gi_cpy, if_neg (by omega), gi_cpy, if_neg (by omega), gi_cpy, if_neg (by omega), gi_k (by decide), gi_k (by decide), gi_k (by decide), show 0 + (t - 0) = t by omega]; exact CP_E h ht
  · rw [gi_cpy, if_neg (by omega), gi_cpy, if_pos (by omega), gi_cpy, if_neg (by omega), gi_cpy, if_neg (by omega), gi_cpy, if_neg (by omega), gi_cpy, if_neg (by omega), gi_cpy, if_neg (by omega), gi_k (by decide), gi_k (by decide), gi_k (by decide), show 0 + (t - 0) = t by omega]; exact CP_L h ht
  · rw [gl_cpy, if_neg (by omega), gl_cpy, if_neg (by omega), gl_cpy, if_neg (by omega), gl_cpy, if_neg (by omega), gl_cpy, if_pos (by omega), gl_cpy, if_neg (by omega), gl_cpy, if_neg (by omega), gl_k (by decide), gl_k (by decide), gl_k (by decide), show 0 + (t - 0) = t by omega]; exact CP_N h ht
  · rw [gi_cpy, if_neg (by omega), gi_cpy, if_neg (by omega), gi_cpy, if_neg (by omega), gi_cpy, if_neg (by omega), gi_cpy, if_neg (by omega), gi_cpy, if_pos (by omega), gi_cpy, if_neg (by omega), gi_k (by decide), gi_k (by decide), gi_k (by decide), show 0 + (r - 0) = r by omega]; exact CP_C h hr2
  · rw [gl_cpy, if_neg (by omega), gl_cpy, if_neg (by omega), gl_cpy, if_neg (by omega), gl_cpy, if_neg (by omega), gl_cpy, if_neg (by omega), gl_cpy, if_neg (by omega), gl_cpy, if_pos (by omega), gl_k (by decide), gl_k (by decide), gl_k (by decide), show 0 + (r - 0) = r by omega]; exact CP_M h hr2
  · rw [gi_cpy, if_pos (by omega), gi_cpy, if_neg (by omega), gi_cpy, if_neg (by omega), gi_cpy, if_neg (by omega), gi_cpy, if_neg (by omega), gi_cpy, if_neg (by omega), gi_cpy, if_neg (by omega), gi_k (by decide), gi_k (by decide), gi_k (by decide), show 0 + (3 * t + r - 0) = 3 * t + r by omega]; exact CP_U h ht hr2
/-- block i of the reference -/
def bk (M : xM) (i : Nat) : Nat → Int := fun k => if k < 316 then (gi M 28 0 (316 * i + k)).toInt else 0
theorem bk_zi (M : xM) (i : Nat) {k : Nat} (hk : k < 316) : gi M 28 0 (316 * i + k) = zi (bk M i k) := by
  unfold bk
  rw [if_pos hk]
  exact (zi_of _).symm
theorem RB_bk (M : xM) : RB M (bk M 0) := fun k hk => by
  have := bk_zi M 0 hk
  rw [show 316 * 0 + k = k by omega] at this
  exact this
theorem bk_eq {M M' : xM} {i j : Nat} (h : ∀ k, k < 316 → gi M' 28 0 (316 * j + k) = gi M 28 0 (316 * i + k)) : bk M' j = bk M i := by
  funext k
  unfold bk
  by_cases c : k < 316
  · rw [if_pos c, if_pos c, h k c]
  · rw [if_neg c, if_neg c]
theorem bk_fz {K : Nat → Nat → Nat → Bool} {M M' : xM} (f : fz K M M') {i : Nat} (hK : ∀ k, k < 316 → K 28 0 (316 * i + k) = false) : bk M' i = bk M i := bk_eq (fun k hk => fz_gi f (hK k hk))
theorem bk_fr {K : Nat → Nat → Bool} {M M' : xM} (f : fr K M M') (hK : K 28 0 = false) (i : Nat) : bk M' i = bk M i := bk_eq (fun k hk => fr_gi f hK _)
def on28 (j k o s : Nat) : Bool := (Nat.beq o 0 && Nat.beq k 28) && (Nat.ble (316 * j) s && Nat.blt s (316 * j + 316))
theorem on28_k {j k o s : Nat} (h : k ≠ 28) : on28 j k o s = false := by
  unfold on28
  cases e : Nat.beq k 28 with
  | false => rw [Bool.and_false]; rfl
  | true => exact absurd (Nat.eq_of_beq_eq_true e) h
theorem on28_b {j i k : Nat} (hk : k < 316) (h : i ≠ j) : on28 j 28 0 (316 * i + k) = false := by
  unfold on28
  cases h1 : Nat.ble (316 * j) (316 * i + k) with
  | false => rfl
  | true =>
    cases h2 : Nat.blt (316 * i + k) (316 * j + 316) with
    | false => rfl
    | true =>
      have := Nat.le_of_ble_eq_true h1
      have : 316 * i + k < 316 * j + 316 := Nat.le_of_ble_eq_true h2
      omega
theorem on28_t {j k : Nat} (hk : k < 316) : on28 j 28 0 (316 * j + k) = true := by
  unfold on28
  rw [Nat.ble_eq_true_of_le (by omega : 316 * j ≤ 316 * j + k)]
  have : Nat.blt (316 * j + k) (316 * j + 316) = true := Nat.ble_eq_true_of_le (by omega)
  rw [this]; rfl
theorem r_copy (M : xM) {i j : Nat} (hi : i < 10) (hj : j < 10) (hij : i ≠ j) : ∃ M', m_M_copyBlock 0 (zi i) (zi j) M = rV M' ∧ fz (on28 j) M M' ∧ bk M' j = bk M i := by
  rw [e_m_M_copyBlock]
  refine lpM (B := fun k M' => b_M_copyBlock_3 0 (zi i) (zi j) (zi (k : Nat)) M') (n := 316) (fun n M' => fz (on28 j) M M' ∧ ∀ k, k < n → gi M' 28 0 (316 * j + k) = gi M 28 0 (316 * i + k)) (fun r => ∃ M', r = rV M' ∧ fz (on28 j) M M' ∧ bk M' j = bk M i) ?_ ?_ 0 M (Nat.zero_le _) ⟨fz_refl M, fun k hk => absurd hk (Nat.not_lt_zero k)⟩
  · intro k M1 hk ⟨f1, g1⟩
    refine ⟨xst M1 28 0 (316 * j + k) (.int (gi M1 28 0 (316 * i + k))), ⟨fz_step f1 (on28_t hk), fun l hl => ?_⟩, ?_⟩
    · by_cases e : l = k
      · subst e
        rw [gi_h, fz_gi f1 (on28_b hk hij)]
      · rw [gi_s (by omega)]; exact g1 l (by omega)
    · show b_M_copyBlock_3 0 (zi i) (zi j) (zi (k : Nat)) M1 = _
      rw [e_b_M_copyBlock_3, zi_316, zif (by omega) (by omega) (by decide) (by decide), if_pos (by omega), zi_mul, zi_add, zi_mul, zi_add, xck_z (by omega) (by omega) (by decide), xck_z (by omega) (by omega) (by decide), zixz (by omega) (by omega), zixz (by omega) (by omega), zi_suc, show ((i : Int) * 316 + (k : Int)).toNat = 316 * i + k by omega, show ((j : Int) * 316 + (k : Int)).toNat = 316 * j + k by omega]
  · intro M1 ⟨f1, g1⟩
    refine ⟨M1, ?_, f1, bk_eq g1⟩
    show b_M_copyBlock_3 0 (zi i) (zi j) (zi ((316 : Nat) : Int)) M1 = _
    rw [e_b_M_copyBlock_3, zi_316, zif (by decide) (by decide) (by decide) (by decide), if_neg (by decide)]
/-- all blocks but 0, 7, 8, 9; and the count -/
def onH (k o s : Nat) : Bool := Nat.beq o 0 && ((Nat.beq k 27 && Nat.beq s 2) || (Nat.beq k 28 && (Nat.ble 316 s && Nat.blt s 2212)))
theorem on28_H {j : Nat} (h1 : 1 ≤ j) (h2 : j ≤ 6) {M M' : xM} (f : fz (on28 j) M M') : fz onH M M' := fz_mono (fun k o s h => by
  obtain ⟨h3, h4⟩ := Bool.and_eq_true_iff.mp h
  obtain ⟨h5, h6⟩ := Bool.and_eq_true_iff.mp h3
  obtain ⟨h7, h8⟩ := Bool.and_eq_true_iff.mp h4
  obtain rfl := Nat.eq_of_beq_eq_true h5
  obtain rfl := Nat.eq_of_beq_eq_true h6
  have h7 := Nat.le_of_ble_eq_true h7
  have h8 : s < 316 * j + 316 := Nat.le_of_ble_eq_true h8
  unfold onH
  rw [Nat.ble_eq_true_of_le (by omega : 316 ≤ s)]
  have : Nat.blt s 2212 = true := Nat.ble_eq_true_of_le (by omega)
  rw [this]; rfl) f
theorem onH_b {i k : Nat} (hk : k < 316) (h : i = 0 ∨ 7 ≤ i) : onH 28 0 (316 * i + k) = false := by
  unfold onH
  cases h1 : Nat.ble 316 (316 * i + k) with
  | false => rfl
  | true =>
    cases h2 : Nat.blt (316 * i + k) 2212 with
    | false => rfl
    | true =>
      have := Nat.le_of_ble_eq_true h1
      have : 316 * i + k < 2212 := Nat.le_of_ble_eq_true h2
      omega
theorem r_remember {M : xM} {c : Nat} (hc : c ≤ 6) (h : gi M 27 0 2 = zi c) : ∃ M' c', m_M_remember 0 0 M = rV M' ∧ fz onH M M' ∧ c' = (if c = 6 then 6 else c + 1) ∧ gi M' 27 0 2 = zi (c' : Nat) ∧ bk M' c' = bk M 0 ∧ ∀ j, 1 ≤ j → j < c' → bk M' (c' - j) = bk M (c - (j - 1)) := by
  rw [e_m_M_remember, h, zi_06, zife (by omega) (by omega) (by decide) (by decide)]
  by_cases e : (c : Int) = 6
  · rw [if_pos e]
    have e6 : c = 6 := by omega
    refine lpM (B := fun i M' => b_M_remember_7 0 0 (zi ((i + 1 : Nat) : Int)) M') (n := 5) (fun i M' => fz onH M M' ∧ (∀ k, 1 ≤ k → k ≤ i → bk M' k = bk M (k + 1)) ∧ (∀ k, i < k → bk M' k = bk M k) ∧ bk M' 0 = bk M 0 ∧ gi M' 27 0 2 = zi c) (fun r => ∃ M' c', r = rV M' ∧ fz onH M M' ∧ c' = (if c = 6 then 6 else c + 1) ∧ gi M' 27 0 2 = zi (c' : Nat) ∧ bk M' c' = bk M 0 ∧ ∀ j, 1 ≤ j → j < c' → bk M' (c' - j) = bk M (c - (j - 1))) ?_ ?_ 0 M (Nat.zero_le _) ⟨fz_refl M, fun k h1 h2 => by omega, fun k _ => rfl, rfl, h⟩
    · intro i M1 hi ⟨f1, g1, g2, g3, g4⟩
      obtain ⟨M2, e2, f2, c2⟩ := r_copy M1 (i := i + 2) (j := i + 1) (by omega) (by omega) (by omega)
      refine ⟨M2, ⟨fz_trans f1 (on28_H (by omega) (by omega) f2), fun k h1 h2 => ?_, fun k hk => ?_, ?_, ?_⟩, ?_⟩
      · by_cases q : k = i + 1
        · subst q
          rw [c2]; exact g2 _ (by omega)
        · rw [bk_fz f2 (fun l hl => on28_b hl q)]; exact g1 k h1 (by omega)
      · rw [bk_fz f2 (fun l hl => on28_b hl (by omega))]; exact g2 k (by omega)
      · rw [bk_fz f2 (fun l hl => on28_b hl (by omega))]; exact g3
      · rw [fz_gi f2 (on28_k (by decide))]; exact g4
      · show b_M_remember_7 0 0 (zi ((i + 1 : Nat) : Int)) M1 = b_M_remember_7 0 0 (zi ((i + 1 + 1 : Nat) : Int)) M2
        rw [e_b_M_remember_7, zi_06, zif (by omega) (by omega) (by decide) (by decide), if_pos (by omega), zi_suc, e2, xbV_r]
    · intro M1 ⟨f1, g1, g2, g3, g4⟩
      have f1' : fz onH M (xst (xst M1 27 0 2 (.int (zi 5))) 27 0 2 (.int (zi 6))) := fz_step (fz_step f1 rfl) rfl
      obtain ⟨M2, e2, f2, c2⟩ := r_copy (xst (xst M1 27 0 2 (.int (zi 5))) 27 0 2 (.int (zi 6))) (i := 0) (j := 6) (by omega) (by omega) (by omega)
      have bkx : ∀ i, bk (xst (xst M1 27 0 2 (.int (zi 5))) 27 0 2 (.int (zi 6))) i = bk M1 i := fun i => bk_eq (fun k hk => by rw [gi_k (by decide), gi_k (by decide)])
      refine ⟨M2, 6, ?_, fz_trans f1' (on28_H (by omega) (by omega) f2), by rw [if_pos e6], ?_, ?_, fun j h1 h2 => ?_⟩
      · show b_M_remember_7 0 0 (zi ((5 + 1 : Nat) : Int)) M1 = _
        have e2 : m_M_copyBlock 0 0 (zi 6) (xst (xst M1 27 0 2 (.int (zi 5))) 27 0 2 (.int (zi 6))) = rV M2 := e2
        rw [e_b_M_remember_7, zi_06, zif (by decide) (by decide) (by decide) (by decide), if_neg (by decide), gi_h, g4, e6, gi_h, show (zi ((6 : Nat) : Int) - (1 : Int32)) = zi 5 from rfl, show (zi 5 + (1 : Int32)) = zi 6 from rfl, e2, xbV_r]
      · rw [fz_gi f2 (on28_k (by decide)), gi_h]; rfl
      · rw [c2, bkx]; exact g3
      · rw [bk_fz f2 (fun l hl => on28_b hl (by omega)), bkx, g1 _ (by omega) (by omega)]
        congr 1
        omega
  · rw [if_neg e, gi_h]
    have ec : zi (c : Nat) + (1 : Int32) = zi ((c + 1 : Nat) : Int) := zi_suc c
    rw [ec]
    obtain ⟨M2, e2, f2, c2⟩ := r_copy (xst M 27 0 2 (.int (zi ((c + 1 : Nat) : Int)))) (i := 0) (j := c + 1) (by omega) (by omega) (by omega)
    have e2 : m_M_copyBlock 0 0 (zi ((c + 1 : Nat) : Int)) (xst M 27 0 2 (.int (zi ((c + 1 : Nat) : Int)))) = rV M2 := e2
    have bkx : ∀ i, bk (xst M 27 0 2 (.int (zi ((c + 1 : Nat) : Int)))) i = bk M i := fun i => bk_eq (fun k hk => by rw [gi_k (by decide)])
    refine ⟨M2, c + 1, by rw [e2, xbV_r], fz_trans (fz_st rfl) (on28_H (by omega) (by omega) f2), by rw [if_neg (by omega)], ?_, ?_, fun j h1 h2 => ?_⟩
    · rw [fz_gi f2 (on28_k (by decide)), gi_h]
    · rw [c2, bkx]
    · rw [bk_fz f2 (fun l hl => on28_b hl (by omega)), bkx]
      congr 1
      omega
