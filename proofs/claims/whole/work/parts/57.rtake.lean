/-! what the reference takes off its tokens -/
/-- next, type, from, value, and the error -/
def onW (k o s : Nat) : Bool := (Nat.beq k 27 && Nat.beq o 0) && ((Nat.ble 17 s && Nat.ble s 20) || (Nat.ble 5 s && Nat.ble s 6))
theorem onW_k {k o s : Nat} (h : k ≠ 27) : onW k o s = false := by
  unfold onW
  cases e : Nat.beq k 27 with
  | false => rfl
  | true => exact absurd (Nat.eq_of_beq_eq_true e) h
theorem onQ_W {M M' : xM} (f : fz onQ M M') : fz onW M M' := fz_mono (fun k o s h => by
  obtain ⟨h1, h2⟩ := Bool.and_eq_true_iff.mp h
  unfold onW
  rw [h1, h2]; rfl) f
def RT (M : xM) (B : Nat → Int) (n p : Nat) : Prop := IR M B n ∧ TR M B n p ∧ KC M ∧ IB M B
theorem KC_Q {M M' : xM} (h : KC M) (f : fz onQ M M') : KC M' := KC_fz h f (fun k o s q => onQ_k (by omega))
theorem KC_W {M M' : xM} (h : KC M) (f : fz onW M M') : KC M' := KC_fz h f (fun k o s q => onW_k (by omega))
theorem r_tk {M : xM} {B : Nat → Int} {n p : Nat} (h : RT M B n p) : ∃ M', m_M_token 0 M = rV M' ∧ fz onQ M M' ∧ RT M' B n (tE B n p) := by
  obtain ⟨hI, hT, hK, hB⟩ := h
  obtain ⟨M', e, f, t⟩ := r_token hI (tE_bd hT.1).2 hT.2.2.1
  exact ⟨M', e, f, IR_Q hI f, t, KC_Q hK f, IB_fz hB f (fun _ => onQ_k (by decide))⟩
/-- the reference's error -/
def ER (M : xM) (c f : Nat) : Prop := gi M 27 0 5 = zi c ∧ gi M 27 0 6 = zi f
theorem r_wrong {M : xM} {f : Nat} (h : gi M 27 0 19 = zi (f : Nat)) (c : Nat) : m_M_wrong 0 (zi c) M = rI (bz false) (xst (xst M 27 0 5 (.int (zi c))) 27 0 6 (.int (zi f))) := by
  rw [e_m_M_wrong, gi_s (by decide), h, xnar_0]
theorem ER_wrong {M : xM} {f c : Nat} : ER (xst (xst M 27 0 5 (.int (zi c))) 27 0 6 (.int (zi f))) c f := ⟨by rw [gi_s (by decide), gi_h], gi_h _ _ _ _ _⟩
theorem fz_wrong {M : xM} {f c : Nat} : fz onW M (xst (xst M 27 0 5 (.int (zi c))) 27 0 6 (.int (zi f))) := fz_step (fz_st rfl) rfl
theorem tT_4 (B : Nat → Int) (n p : Nat) : tT B n p ≤ 4 := by
  unfold tT
  split
  · omega
  · split
    · split <;> omega
    · split
      · split <;> omega
      · split <;> omega
theorem tyR_is {B : Nat → Int} {n p : Nat} : (tyR (tT B n p) = 1 ↔ tT B n p = 0) ∧ (tyR (tT B n p) = 2 ↔ tT B n p = 1) ∧ (tyR (tT B n p) = 3 ↔ tT B n p = 2) ∧ (tyR (tT B n p) = 0 ↔ tT B n p = 4) ∧ 0 ≤ tyR (tT B n p) ∧ tyR (tT B n p) ≤ 4 := by
  have h := tT_4 B n p
  have : tT B n p = 0 ∨ tT B n p = 1 ∨ tT B n p = 2 ∨ tT B n p = 3 ∨ tT B n p = 4 := by omega
  rcases this with e | e | e | e | e <;> rw [e] <;> decide
theorem r_isWord {M : xM} {B : Nat → Int} {n p lit : Nat} (h : RT M B n p) (hl : lit < 18) : m_M_isWord 0 lit M = rI (bz (atW B n p lit)) M := by
  obtain ⟨hI, hT, hK, hB⟩ := h
  have ty := tyR_is (B := B) (n := n) (p := p)
  have hb := tE_bd (B := B) hT.1
  have hn := hI.1
  have hc := cN_bd hl
  rw [e_m_M_isWord, hT.2.2.2.1, zi_01, zife (by omega) (by omega) (by decide) (by decide), xnar_0]
  unfold atW wdE
  by_cases c : tT B n p = 0
  · rw [if_pos (ty.1.mpr c), decide_eq_true c, Bool.true_and, s_strlen hK hl, xret_I, xbI_r, hT.2.1, hT.2.2.1, zi_sub, zife (by omega) (by omega) (by omega) (by omega)]
    by_cases c1 : tE B n p - tF B n p = cN lit
    · rw [if_pos (by omega), decide_eq_true c1, Bool.true_and]
      have := lpa (B := fun i : Nat => b_M_isWord_17 0 lit (zi (i : Nat)) M) (n := cN lit) (fun i => decide (B (tF B n p + i) = cB lit i)) (R := rI (bz false) M) (R2 := rI (bz true) M) (fun i hi hok => ?_) (fun i hi hok => ?_) ?_
      · refine Eq.trans this ?_
        cases allN (cN lit) (fun i => decide (B (tF B n p + i) = cB lit i)) <;> rfl
      · have hok := of_decide_eq_true hok
        have b2 := hI.2.2 (tF B n p + i) (by omega)
        show b_M_isWord_17 0 lit (zi (i : Nat)) M = _
        rw [e_b_M_isWord_17, s_strlen hK hl, xret_I, xbI_r, if_pos (zi_ltn hi (by omega)), hT.2.1, zi_add, xck_z (by omega) (by omega) (by decide), s_charAt hK hl hi, xret_I, xbI_r, zixz (by omega) (by omega), show ((tF B n p : Nat) : Int) + (i : Int) = ((tF B n p + i : Nat) : Int) by omega, Int.toNat_natCast, b2.1, if_pos (by rw [hok]), zi_suc]
      · have hok := of_decide_eq_false hok
        have b2 := hI.2.2 (tF B n p + i) (by omega)
        have b3 := cB_bd hl hi
        show b_M_isWord_17 0 lit (zi (i : Nat)) M = _
        rw [e_b_M_isWord_17, s_strlen hK hl, xret_I, xbI_r, if_pos (zi_ltn hi (by omega)), hT.2.1, zi_add, xck_z (by omega) (by omega) (by decide), s_charAt hK hl hi, xret_I, xbI_r, zixz (by omega) (by omega), show ((tF B n p : Nat) : Int) + (i : Int) = ((tF B n p + i : Nat) : Int) by omega, Int.toNat_natCast, b2.1, zife (by omega) (by omega) (by omega) (by omega), if_neg hok, xnar_0]
      · show b_M_isWord_17 0 lit (zi (cN lit : Nat)) M = _
        rw [e_b_M_isWord_17, s_strlen hK hl, xret_I, xbI_r, if_neg (zi_irr _), xnar_1]
    · rw [if_neg (by omega), decide_eq_false c1, Bool.false_and]
  · rw [if_neg (fun q => c (ty.1.mp q)), decide_eq_false c, Bool.false_and]
/-- the walk, and block 0 -/
def onV (k o s : Nat) : Bool := onW k o s || on280 k o s
theorem onV_W {M M' : xM} (f : fz onW M M') : fz onV M M' := fz_mono (fun k o s h => by unfold onV; rw [h]; rfl) f
/-- .. but the error -/
def onV8 (k o s : Nat) : Bool := onQ k o s || on280 k o s
theorem onV8_V {M M' : xM} (f : fz onV8 M M') : fz onV M M' := fz_mono (fun k o s h => by
  unfold onV8 at h
  unfold onV
  rcases Bool.or_eq_true_iff.mp h with h | h
  · obtain ⟨h1, h2⟩ := Bool.and_eq_true_iff.mp h
    unfold onW
    rw [h1, h2]; rfl
  · rw [h, Bool.or_true]) f
theorem onV_Q {M M' : xM} (f : fz onQ M M') : fz onV8 M M' := fz_mono (fun k o s h => by unfold onV8; rw [h]; rfl) f
theorem onV8_0 {M M' : xM} (f : fz on280 M M') : fz onV8 M M' := fz_mono (fun k o s h => by unfold onV8; rw [h, Bool.or_true]) f
/-- a place of block 0, and the walk -/
def onQ1 (a k o s : Nat) : Bool := onQ k o s || ((Nat.beq k 28 && Nat.beq o 0) && Nat.beq s a)
theorem onQ_1 {a : Nat} {M M' : xM} (f : fz onQ M M') : fz (onQ1 a) M M' := fz_mono (fun k o s h => by
  unfold onQ1
  rw [h]; rfl) f
theorem onQ1_t {a : Nat} : onQ1 a 28 0 a = true := by
  unfold onQ1
  rw [Nat.beq_refl a, Bool.or_comm]; rfl
theorem onV_Q1 {a : Nat} (ha : a < 316) {M M' : xM} (f : fz (onQ1 a) M M') : fz onV8 M M' := fz_mono (fun k o s h => by
  unfold onQ1 at h
  unfold onV8
  rcases Bool.or_eq_true_iff.mp h with h | h
  · rw [h]; rfl
  · obtain ⟨h1, h2⟩ := Bool.and_eq_true_iff.mp h
    obtain ⟨h3, h4⟩ := Bool.and_eq_true_iff.mp h1
    obtain rfl := Nat.eq_of_beq_eq_true h2
    obtain rfl := Nat.eq_of_beq_eq_true h3
    obtain rfl := Nat.eq_of_beq_eq_true h4
    rw [on280_t ha, Bool.or_true]) f
/-- what a taking leaves -/
def rkR (K : Nat → Nat → Nat → Bool) (B : Nat → Int) (n p : Nat) (M : xM) (r : xR) (E : Nat) (Q : xM → Prop) : Prop := ∃ M', r = rI (bz (decide (E = 0))) M' ∧ fz onV M M' ∧ (E = 0 → fz K M M' ∧ RT M' B n (tE B n p) ∧ Q M') ∧ (E ≠ 0 → ER M' E (tF B n p))
theorem r_semi {M : xM} {B : Nat → Int} {n p : Nat} (h : RT M B n p) : rkR onQ B n p M (m_M_semicolon 0 M) (semE B n p) (fun _ => True) := by
  have hT := h.2.1
  have ty := tyR_is (B := B) (n := n) (p := p)
  unfold rkR
  rw [e_m_M_semicolon, hT.2.2.2.1, zi_03, zife (by omega) (by omega) (by decide) (by decide)]
  unfold semE
  by_cases c : tT B n p = 2
  · obtain ⟨M', e, f, t⟩ := r_tk h
    rw [if_pos (ty.2.2.1.mpr c), if_pos c, e, xbV_r, xnar_1]
    exact ⟨M', rfl, onV8_V (onV_Q f), fun _ => ⟨f, t, trivial⟩, fun q => absurd rfl q⟩
  · rw [if_neg (fun q => c (ty.2.2.1.mp q)), if_neg c, zi_lit1, r_wrong hT.2.1 1, xbI_r, xnar_b]
    exact ⟨_, rfl, onV_W fz_wrong, fun q => absurd q (by decide), fun _ => ER_wrong⟩
theorem r_ranged {M : xM} {B : Nat → Int} {n p a : Nat} (h : RT M B n p) (ha : a < 316) {lo hi : Int} (h1 : -1000 ≤ lo ∧ lo ≤ 1000) (h2 : -1000 ≤ hi ∧ hi ≤ 1000) : rkR (onQ1 a) B n p M (m_M_parseRanged 0 (zi a) (zi lo) (zi hi) M) (numE B n p lo hi) (fun M' => ∀ k, gi M' 28 0 k = if k = a then zi (numV B n p) else gi M 28 0 k) := by
  have hT := h.2.1
  have ty := tyR_is (B := B) (n := n) (p := p)
  unfold rkR
  rw [e_m_M_parseRanged, hT.2.2.2.1, zi_02, zife (by omega) (by omega) (by decide) (by decide)]
  unfold numE
  by_cases c : tT B n p = 1
  · have v : gi M 27 0 20 = zi (numV B n p) := hT.2.2.2.2 c
    have vb : 0 ≤ numV B n p ∧ numV B n p ≤ 999 := num_bd hT.1 c
    rw [if_pos (ty.2.1.mpr c), if_pos c, v, r_in (by omega) (by omega) (by omega) (by omega) (by omega) (by omega), xbI_r, ite_b]
    by_cases c1 : lo ≤ numV B n p ∧ numV B n p ≤ hi
    · have f0 : fz (onQ1 a) M (xst M 28 0 a (.int (zi (numV B n p)))) := fz_st onQ1_t
      have k0 : RT (xst M 28 0 a (.int (zi (numV B n p)))) B n p := ⟨⟨h.1.1, (gi_k (by decide)).trans h.1.2.1, fun k hk => ⟨(gi_k (by decide)).trans (h.1.2.2 k hk).1, (h.1.2.2 k hk).2⟩⟩, ⟨hT.1, (gi_k (by decide)).trans hT.2.1, (gi_k (by decide)).trans hT.2.2.1, (gi_k (by decide)).trans hT.2.2.2.1, fun q => (gi_k (by decide)).trans (hT.2.2.2.2 q)⟩, KC_fz h.2.2.1 (fz_st (K := fun k _ _ => Nat.beq k 28) rfl) (fun k o s q => by
          cases e : Nat.beq k 28 with
          | false => rfl
          | true => have := Nat.eq_of_beq_eq_true e; omega), fun k hk => ⟨(gi_k (by decide)).trans (h.2.2.2 k hk).1, (h.2.2.2 k hk).2⟩⟩
      obtain ⟨M', e, f, t⟩ := r_tk k0
      rw [decide_eq_true c1, if_pos rfl, if_pos c1, xck_n (by omega) (by decide), zix (by omega), v, e, xbV_r, xnar_1]
      refine ⟨M', rfl, onV8_V (onV_Q1 ha (fz_trans f0 (onQ_1 f))), fun _ => ⟨fz_trans f0 (onQ_1 f), t, fun k => ?_⟩, fun q => absurd rfl q⟩
      rw [fz_gi f (onQ_k (by decide))]
      by_cases e : k = a
      · rw [if_pos e, e, gi_h]
      · rw [if_neg e, gi_s e]
    · rw [decide_eq_false c1, if_neg (by decide), if_neg c1, show zi 2 = zi ((2 : Nat) : Int) from rfl, r_wrong hT.2.1 2, xbI_r, xnar_b]
      exact ⟨_, rfl, onV_W fz_wrong, fun q => absurd q (by decide), fun _ => ER_wrong⟩
  · rw [if_neg (fun q => c (ty.2.1.mp q)), if_neg c, zi_lit1, r_wrong hT.2.1 1, xbI_r, xnar_b]
    exact ⟨_, rfl, onV_W fz_wrong, fun q => absurd q (by decide), fun _ => ER_wrong⟩
/-- a short word is there: 0 if so -/
def swE (B : Nat → Int) (n p : Nat) : Nat := if tT B n p = 0 then (if tE B n p - tF B n p ≤ 6 then 0 else 3) else 1
theorem r_short {M : xM} {B : Nat → Int} {n p : Nat} (h : RT M B n p) : ∃ M', m_M_isShortWord 0 M = rI (bz (decide (swE B n p = 0))) M' ∧ fz onW M M' ∧ (swE B n p = 0 → M' = M) ∧ (swE B n p ≠ 0 → ER M' (swE B n p) (tF B n p)) := by
  have hT := h.2.1
  have hn := h.1.1
  have hb := tE_bd (B := B) hT.1
  have ty := tyR_is (B := B) (n := n) (p := p)
  rw [e_m_M_isShortWord, hT.2.2.2.1, zi_01, zife (by omega) (by omega) (by decide) (by decide), hT.2.1, hT.2.2.1, zi_sub, zi_06, zif (by decide) (by decide) (by omega) (by omega)]
  unfold swE
  by_cases c : tT B n p = 0
  · rw [if_pos (ty.1.mpr c), if_pos c]
    by_cases c1 : tE B n p - tF B n p ≤ 6
    · rw [if_neg (by omega), if_pos c1, ← zi_01, xnar_1]
      exact ⟨M, rfl, fz_refl M, fun _ => rfl, fun q => absurd rfl q⟩
    · rw [if_pos (by omega), if_neg c1, zi_lit3, r_wrong hT.2.1 3, xbI_r, ite_b, if_neg (by decide), xnar_0]
      exact ⟨_, rfl, fz_wrong, fun q => absurd q (by decide), fun _ => ER_wrong⟩
  · rw [if_neg (fun q => c (ty.1.mp q)), if_neg c, ← zi_01, zi_lit1, r_wrong hT.2.1 1, xbI_r, xnar_b]
    exact ⟨_, rfl, fz_wrong, fun q => absurd q (by decide), fun _ => ER_wrong⟩
/-- a name is put -/
def onQn (a k o s : Nat) : Bool := onQ k o s || ((Nat.beq k 28 && Nat.beq o 0) && (Nat.ble a s && Nat.ble s (a + 6)))
theorem onQ_n {a : Nat} {M M' : xM} (f : fz onQ M M') : fz (onQn a) M M' := fz_mono (fun k o s h => by
  unfold onQn
  rw [h]; rfl) f
theorem onQn_t {a s : Nat} (h1 : a ≤ s) (h2 : s ≤ a + 6) : onQn a 28 0 s = true := by
  unfold onQn
  rw [Nat.ble_eq_true_of_le h1, Nat.ble_eq_true_of_le h2, Bool.or_comm]; rfl
theorem r_putName {M : xM} {B : Nat → Int} {n p a : Nat} (h : RT M B n p) (ha : a + 6 < 316) (h6 : tE B n p - tF B n p ≤ 6) : ∃ M', m_M_putName 0 (zi a) M = rV M' ∧ fz (onQn a) M M' ∧ RT M' B n (tE B n p) ∧ ∀ k, gi M' 28 0 k = if k = a then zi ((tE B n p - tF B n p : Nat) : Int) else if a < k ∧ k ≤ a + (tE B n p - tF B n p) then zi (B (tF B n p + (k - a - 1))) else gi M 28 0 k := by
  have hT := h.2.1
  have hn := h.1.1
  have hb := tE_bd (B := B) hT.1
  have f0 : fz (onQn a) M (xst M 28 0 a (.int (zi ((tE B n p - tF B n p : Nat) : Int)))) := fz_st (onQn_t (by omega) (by omega))
  have kp : ∀ {M1 : xM}, fz (fun k o _ => Nat.beq k 28 && Nat.beq o 0) M M1 → RT M1 B n p := fun f => ⟨IR_fz h.1 f rfl (fun _ => rfl), TR_fz h.2.1 f (fun _ _ _ => rfl), KC_fz h.2.2.1 f (fun k o s q => by
    cases e : Nat.beq k 28 with
    | false => rfl
    | true => have := Nat.eq_of_beq_eq_true e; omega), IB_fz h.2.2.2 f (fun _ => rfl)⟩
  rw [e_m_M_putName, xck_n (by omega) (by decide), zix (by omega), hT.2.1, hT.2.2.1, zi_sub, show ((tE B n p : Nat) : Int) - ((tF B n p : Nat) : Int) = ((tE B n p - tF B n p : Nat) : Int) by omega]
  have key := lpM (B := fun i M' => b_M_putName_13 0 (zi a) (zi ((tF B n p + i : Nat) : Int)) M') (n := tE B n p - tF B n p) (fun i M' => fz (fun k o _ => Nat.beq k 28 && Nat.beq o 0) M M' ∧ fz (onQn a) M M' ∧ ∀ k, gi M' 28 0 k = if k = a then zi ((tE B n p - tF B n p : Nat) : Int) else if a < k ∧ k ≤ a + i then zi (B (tF B n p + (k - a - 1))) else gi M 28 0 k) (fun r => ∃ M', r = rV M' ∧ fz (onQn a) M M' ∧ RT M' B n (tE B n p) ∧ ∀ k, gi M' 28 0 k = if k = a then zi ((tE B n p - tF B n p : Nat) : Int) else if a < k ∧ k ≤ a + (tE B n p - tF B n p) then zi (B (tF B n p + (k - a - 1))) else gi M 28 0 k) (fun i M1 hi ⟨f1, f2, g⟩ => ?_) (fun M1 ⟨f1, f2, g⟩ => ?_) 0 (xst M 28 0 a (.int (zi ((tE B n p - tF B n p : Nat) : Int)))) (Nat.zero_le _) ⟨fz_st rfl, f0, fun k => ?_⟩
  · exact key
  · have k1 := kp f1
    have b1 := (k1.1.2.2 (tF B n p + i) (by omega)).1
    refine ⟨xst M1 28 0 (a + 1 + i) (.int (zi (B (tF B n p + i)))), ⟨fz_step f1 rfl, fz_step f2 (onQn_t (by omega) (by omega)), fun k => ?_⟩, ?_⟩
    · by_cases e : k = a + 1 + i
      · subst e
        rw [gi_h, if_neg (by omega), if_pos (by omega), show a + 1 + i - a - 1 = i by omega]
      · rw [gi_s e, g k]
        by_cases q : k = a
        · rw [if_pos q, if_pos q]
        · rw [if_neg q, if_neg q]
          by_cases z : a < k ∧ k ≤ a + i
          · rw [if_pos z, if_pos (by omega)]
          · rw [if_neg z, if_neg (by omega)]
    · show b_M_putName_13 0 (zi a) (zi ((tF B n p + i : Nat) : Int)) M1 = b_M_putName_13 0 (zi a) (zi ((tF B n p + (i + 1) : Nat) : Int)) _
      rw [e_b_M_putName_13, k1.2.1.2.1, k1.2.1.2.2.1, if_pos (zi_ltn (by omega) (by omega)), xck_n (by omega) (by decide), zi_suc, zi_01, zi_add, zi_add, zi_sub, xck_z (by omega) (by omega) (by decide), zixz (by omega) (by omega), zi_toNat (by omega), b1, show (((a + 1 : Nat) : Int) + ((tF B n p + i : Nat) : Int) - ((tF B n p : Nat) : Int)).toNat = a + 1 + i by omega, show ((tF B n p + i : Nat) : Int) + 1 = ((tF B n p + (i + 1) : Nat) : Int) by omega]
  · have k1 := kp f1
    obtain ⟨M2, e2, f3, t2⟩ := r_tk k1
    refine ⟨M2, ?_, fz_trans f2 (onQ_n f3), t2, fun k => ?_⟩
    · show b_M_putName_13 0 (zi a) (zi ((tF B n p + (tE B n p - tF B n p) : Nat) : Int)) M1 = _
      rw [e_b_M_putName_13, k1.2.1.2.2.1, if_neg (zi_nlz (by omega) (by omega) (by omega)), e2, xbV_r]
    · rw [fz_gi f3 (onQ_k (by decide))]; exact g k
  · by_cases e : k = a
    · rw [if_pos e, e, gi_h]
    · rw [if_neg e, gi_s e, if_neg (by omega)]
theorem onV_Qn {a : Nat} (ha : a + 6 < 316) {M M' : xM} (f : fz (onQn a) M M') : fz onV8 M M' := fz_mono (fun k o s h => by
  unfold onQn at h
  unfold onV8
  rcases Bool.or_eq_true_iff.mp h with h | h
  · rw [h]; rfl
  · obtain ⟨h1, h2⟩ := Bool.and_eq_true_iff.mp h
    obtain ⟨h3, h4⟩ := Bool.and_eq_true_iff.mp h1
    obtain ⟨h5, h6⟩ := Bool.and_eq_true_iff.mp h2
    have h6 := Nat.le_of_ble_eq_true h6
    obtain rfl := Nat.eq_of_beq_eq_true h3
    obtain rfl := Nat.eq_of_beq_eq_true h4
    rw [on280_t (by omega), Bool.or_true]) f
