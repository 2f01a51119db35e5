/-! the text is said: words that come -/
/-- byte s of a word, s in bits from the right -/
def byt (x : Int32) (s : Nat) : Nat := x.toBitVec.toNat / 2 ^ s % 256
theorem i8_tab : (List.range 256).all (fun k => (Int32.toInt8 ((Int8.ofNat k).toInt32)).toInt32 == zi (sb ((k : Nat) : Int))) = true := by decide +kernel
theorem i8_low (a : Int32) : (Int32.toInt8 ((Int32.toInt8 a).toInt32)).toInt32 = zi (sb ((a.toBitVec.toNat % 256 : Nat) : Int)) := by
  have e : Int32.toInt8 a = Int8.ofNat (a.toBitVec.toNat % 256) := by
    apply Int8.toBitVec_inj.mp
    show a.toBitVec.signExtend 8 = BitVec.ofNat 8 (a.toBitVec.toNat % 256)
    rw [BitVec.signExtend_eq_setWidth_of_le _ (by decide)]
    apply BitVec.eq_of_toNat_eq
    rw [BitVec.toNat_setWidth, BitVec.toNat_ofNat]
    omega
  have h := List.all_eq_true.mp i8_tab (a.toBitVec.toNat % 256) (List.mem_range.mpr (Nat.mod_lt _ (by decide)))
  rw [e]
  exact eq_of_beq h
theorem shr_u (x : Int32) {s : Nat} (hs : s < 32) : (((Int32.toUInt32 x) >>> ((Int32.toUInt32 (Int32.ofNat s)) &&& Int32.toUInt32 31)).toInt32).toBitVec.toNat = x.toBitVec.toNat / 2 ^ s := by
  have e : ((Int32.toUInt32 (Int32.ofNat s)) &&& Int32.toUInt32 31).toNat = s := by
    have h : (List.range 32).all (fun s => ((Int32.toUInt32 (Int32.ofNat s)) &&& Int32.toUInt32 31).toNat == s) = true := by decide +kernel
    exact eq_of_beq (List.all_eq_true.mp h s (List.mem_range.mpr hs))
  show ((Int32.toUInt32 x) >>> ((Int32.toUInt32 (Int32.ofNat s)) &&& Int32.toUInt32 31)).toNat = _
  rw [UInt32.toNat_shiftRight, e, Nat.mod_eq_of_lt hs, Nat.shiftRight_eq_div_pow]
  rfl
/-- a byte more, in the class -/
def onI0 (k o _ : Nat) : Bool := (Nat.beq k 19 || Nat.beq k 20) && Nat.beq o 0
theorem s_put {M : xM} {B : Nat → Int} {n : Nat} (h : IN M 0 B n) (hn : n + 1 ≤ 600) {a : Int32} {v : Nat} (hv : a.toBitVec.toNat % 256 = v) : ∃ M1, m_I_putByte 0 a M = rV M1 ∧ fz onI0 M M1 ∧ IN M1 0 (upI B n v) (n + 1) := by
  refine ⟨xst (xst M 20 0 n (.int (zi (sb (v : Nat))))) 19 0 1 (.int (zi ((n + 1 : Nat) : Int))), ?_, fz_step (fz_st rfl) rfl, hn, gi_h _ _ _ _ _, fun k hk => ?_⟩
  · rw [e_m_I_putByte, h.2.1, zi_600, zif (by omega) (by omega) (by decide) (by decide), if_pos (by omega), xck_n (by omega) (by decide), zix (by omega), i8_low, hv, zi_suc]
  · have v2 : v < 256 := by rw [← hv]; exact Nat.mod_lt _ (by decide)
    rw [gi_k (by decide)]
    by_cases e : k = n
    · subst e
      rw [gi_h, upI_h]
      exact ⟨rfl, by omega, by omega⟩
    · rw [gi_s e, upI_n e]
      exact h.2.2 k (by omega)
/-- a word more: four bytes -/
def wd4 (B : Nat → Int) (n : Nat) (x : Int32) : Nat → Int := upI (upI (upI (upI B n (byt x 24)) (n + 1) (byt x 16)) (n + 2) (byt x 8)) (n + 3) (byt x 0)
theorem s_word {M : xM} {B : Nat → Int} {n : Nat} (h : IN M 0 B n) (hn : n + 4 ≤ 600) (x : Int32) : ∃ M1, m_I_putBytes 0 x M = rV M1 ∧ fz onI0 M M1 ∧ IN M1 0 (wd4 B n x) (n + 4) := by
  obtain ⟨A, ea, fa, ia⟩ := s_put h (by omega) (a := (((Int32.toUInt32 x) >>> ((Int32.toUInt32 24) &&& Int32.toUInt32 31)).toInt32)) (v := byt x 24) (by
    have := shr_u x (s := 24) (by decide)
    have this : (((Int32.toUInt32 x) >>> ((Int32.toUInt32 24) &&& Int32.toUInt32 31)).toInt32).toBitVec.toNat = _ := this
    rw [this]; rfl)
  obtain ⟨C, ec, fc, ic⟩ := s_put ia (by omega) (a := (((Int32.toUInt32 x) >>> ((Int32.toUInt32 16) &&& Int32.toUInt32 31)).toInt32)) (v := byt x 16) (by
    have := shr_u x (s := 16) (by decide)
    have this : (((Int32.toUInt32 x) >>> ((Int32.toUInt32 16) &&& Int32.toUInt32 31)).toInt32).toBitVec.toNat = _ := this
    rw [this]; rfl)
  obtain ⟨D, ed, fd, id⟩ := s_put ic (by omega) (a := (((Int32.toUInt32 x) >>> ((Int32.toUInt32 8) &&& Int32.toUInt32 31)).toInt32)) (v := byt x 8) (by
    have := shr_u x (s := 8) (by decide)
    have this : (((Int32.toUInt32 x) >>> ((Int32.toUInt32 8) &&& Int32.toUInt32 31)).toInt32).toBitVec.toNat = _ := this
    rw [this]; rfl)
  obtain ⟨E, ee, fe, ie⟩ := s_put id (by omega) (a := x) (v := byt x 0) (by unfold byt; rw [Nat.pow_zero, Nat.div_one])
  exact ⟨E, by rw [e_m_I_putBytes, ea, xbV_r, ec, xbV_r, ed, xbV_r, ee, xbV_r], fz_trans fa (fz_trans fc (fz_trans fd fe)), ie⟩
/-- a string's letters -/
def TB (M : xM) (t : Nat) (l : List Int) : Prop := TX M t l.length (fun i => gi M 47 t i) ∧ (∀ i, i < l.length → gi M 47 t i = zi (l.getD i 0)) ∧ ∀ i, i < l.length → 0 ≤ l.getD i 0 ∧ l.getD i 0 < 128
theorem TB_fz {K : Nat → Nat → Nat → Bool} {M M' : xM} {t : Nat} {l : List Int} (h : TB M t l) (f : fz K M M') (hK : ∀ k s, k = 246 ∨ k = 157 ∨ k = 46 ∨ k = 47 → K k t s = false) : TB M' t l := by
  obtain ⟨⟨h1, h2, h3, _⟩, h5, h6⟩ := h
  exact ⟨⟨(fz_gn f (hK 246 0 (by omega))).trans h1, (fz_gn f (hK 157 0 (by omega))).trans h2, (fz_gi f (hK 46 1 (by omega))).trans h3, fun i => rfl⟩, fun i hi => (fz_gi f (hK 47 i (by omega))).trans (h5 i hi), h6⟩
theorem t_len {M : xM} {t : Nat} {l : List Int} (h : TB M t l) : m_JS_length t M = rI (zi (l.length : Nat)) M := by
  obtain ⟨⟨h1, h2, h3, _⟩, _⟩ := h
  rw [e_m_JS_length, if_pos h1, e_m_JS_coder, if_neg (by decide), h3, xret_v, show xnar 3 0 = 0 from rfl, xbI_r, h2, zi_n]
  exact congrArg (fun z => rI z M) (sh0 _)
theorem t_charAt {M : xM} {t : Nat} {l : List Int} (h : TB M t l) {i : Nat} (hi : i < l.length) (hl : l.length ≤ 1000) : m_JS_charAt t (zi (i : Nat)) M = rI (zi (l.getD i 0)) M := by
  obtain ⟨⟨h1, h2, h3, _⟩, h5, h6⟩ := h
  have b := h6 i hi
  have ci : m_JS_checkIndex (zi (i : Nat)) (Int32.ofNat (gn M 157 t 0)) M = rV M := by
    rw [e_m_JS_checkIndex, h2, zi_n, s_chk M (fun q => by rw [zi_00, zi_lt (by omega) (by omega) (by omega) (by omega)] at q; omega) (zi_ltn hi (by omega)), xret_v, xbI_r]
  have k := bt_id
  have bt : xnar 2 (xnar 2 (((Int32.toUInt32 ((zi (l.getD i 0)) &&& (255 : Int32))) % 65536).toInt32)) = zi (l.getD i 0) := by
    have := eq_of_beq (List.all_eq_true.mp bt_id (l.getD i 0).toNat (List.mem_range.mpr (by omega)))
    rw [show (((l.getD i 0).toNat : Nat) : Int) = l.getD i 0 by omega] at this
    exact this
  rw [e_m_JS_charAt, e_m_JS_isLatin1, if_neg (by decide), if_pos h3, xret_v, xnar_1, xbI_r, ite_bt, if_pos h1, e_m_JL_charAt, ci, xret_v, xbV_r, h2, xck_n hi (by omega), zix (by omega), h5 i hi, xret_v, xbI_r, bt]
/-- the letter at a place, blank behind the end -/
def chL (l : List Int) (i : Nat) : Nat := if i < l.length then (l.getD i 0).toNat else 32
theorem chL_lt {M : xM} {t : Nat} {l : List Int} (h : TB M t l) (i : Nat) : chL l i < 128 := by
  unfold chL
  split
  · next q => have := h.2.2 i q; omega
  · decide
theorem sh8 {v : Int32} {c : Nat} (hv : v.toBitVec.toNat < 16777216) (hc : c < 256) : ((v <<< (8 &&& 31) : Int32) ||| zi (c : Nat)).toBitVec.toNat = v.toBitVec.toNat * 256 + c := by
  have e : (((8 : Int32) &&& 31).toBitVec.smod 32) = 8#32 := by decide
  have nc : (zi (c : Nat)).toBitVec.toNat = c := by
    show (BitVec.ofInt 32 ((c : Nat) : Int)).toNat = c
    rw [BitVec.ofInt_natCast, BitVec.toNat_ofNat]
    omega
  rw [Int32.toBitVec_or, Int32.toBitVec_shiftLeft, e, BitVec.toNat_or, nc]
  have s : (v.toBitVec <<< (8#32)).toNat = v.toBitVec.toNat <<< 8 := by
    rw [BitVec.shiftLeft_eq', BitVec.toNat_shiftLeft]
    show v.toBitVec.toNat <<< 8 % 2 ^ 32 = _
    rw [Nat.shiftLeft_eq]
    omega
  rw [s, ← Nat.shiftLeft_add_eq_or_of_lt (i := 8) (by omega), Nat.shiftLeft_eq]
theorem w_step {M : xM} {t p i : Nat} {l : List Int} {v : Int32} (h : TB M t l) (hl : l.length ≤ 1000) (hp : p ≤ 1000) (hi : i < p + 4) : b_L_word_5 t (zi (p : Nat)) v (zi (i : Nat)) M = b_L_word_5 t (zi (p : Nat)) ((v <<< (8 &&& 31) : Int32) ||| zi ((chL l i : Nat) : Int)) (zi ((i + 1 : Nat) : Int)) M := by
  have e4 : zi (p : Nat) + 4 = zi ((p + 4 : Nat) : Int) := by rw [zi_04, zi_add]; rfl
  rw [e_b_L_word_5, e4, if_pos (zi_ltn hi (by omega)), gd4 rfl, t_len h, xret_v, xbI_r, zif (by omega) (by omega) (by omega) (by omega), zi_suc]
  unfold chL
  by_cases q : i < l.length
  · have b := h.2.2 i q
    rw [if_pos (by omega), gd4 rfl, t_charAt h q hl, xret_v, xbI_r, if_pos q, Int.toNat_of_nonneg b.1]
  · rw [if_neg (by omega), if_neg q]; rfl
def wL4 (l : List Int) (p : Nat) (w : Int32) : Prop := byt w 24 = chL l p ∧ byt w 16 = chL l (p + 1) ∧ byt w 8 = chL l (p + 2) ∧ byt w 0 = chL l (p + 3)
theorem t_word {M : xM} {t p : Nat} {l : List Int} (h : TB M t l) (hl : l.length ≤ 1000) (hp : p ≤ 900) : ∃ w, m_L_word t (zi (p : Nat)) M = rI w M ∧ wL4 l p w := by
  have c0 := chL_lt h p
  have c1 := chL_lt h (p + 1)
  have c2 := chL_lt h (p + 2)
  have c3 := chL_lt h (p + 3)
  have v0 : (0 : Int32).toBitVec.toNat = 0 := rfl
  have a1 := sh8 (v := 0) (c := chL l p) (by rw [v0]; decide) (by omega)
  rw [v0] at a1
  have a2 := sh8 (v := (((0 : Int32) <<< (8 &&& 31) : Int32) ||| zi ((chL l p : Nat) : Int))) (c := chL l (p + 1)) (by omega) (by omega)
  rw [a1] at a2
  have a3 := sh8 (v := (((((0 : Int32) <<< (8 &&& 31) : Int32) ||| zi ((chL l p : Nat) : Int)) <<< (8 &&& 31) : Int32) ||| zi ((chL l (p + 1) : Nat) : Int))) (c := chL l (p + 2)) (by omega) (by omega)
  rw [a2] at a3
  have a4 := sh8 (v := (((((((0 : Int32) <<< (8 &&& 31) : Int32) ||| zi ((chL l p : Nat) : Int)) <<< (8 &&& 31) : Int32) ||| zi ((chL l (p + 1) : Nat) : Int)) <<< (8 &&& 31) : Int32) ||| zi ((chL l (p + 2) : Nat) : Int))) (c := chL l (p + 3)) (by omega) (by omega)
  rw [a3] at a4
  obtain ⟨w, hw⟩ : ∃ w : Int32, w = ((((((((0 : Int32) <<< (8 &&& 31) : Int32) ||| zi ((chL l p : Nat) : Int)) <<< (8 &&& 31) : Int32) ||| zi ((chL l (p + 1) : Nat) : Int)) <<< (8 &&& 31) : Int32) ||| zi ((chL l (p + 2) : Nat) : Int)) <<< (8 &&& 31) : Int32) ||| zi ((chL l (p + 3) : Nat) : Int) := ⟨_, rfl⟩
  rw [← hw] at a4
  refine ⟨w, ?_, ?_⟩
  · have e4 : zi (p : Nat) + 4 = zi ((p + 4 : Nat) : Int) := by rw [zi_04, zi_add]; rfl
    rw [e_m_L_word, w_step h hl (by omega) (i := p) (by omega), w_step h hl (by omega) (i := p + 1) (by omega), w_step h hl (by omega) (i := p + 1 + 1) (by omega), w_step h hl (by omega) (i := p + 1 + 1 + 1) (by omega), e_b_L_word_5, e4, if_neg (zi_irr _), hw]
  · unfold wL4 byt
    rw [a4]
    refine ⟨?_, ?_, ?_, ?_⟩ <;> omega
theorem in_word {M : xM} {l : List Int} {n : Nat} {w : Int32} (h : IN M 0 (fun i => ((chL l i : Nat) : Int)) n) (hn : n + 4 ≤ 600) (hw : wL4 l n w) : ∃ M1, m_I_putBytes 0 w M = rV M1 ∧ fz onI0 M M1 ∧ IN M1 0 (fun i => ((chL l i : Nat) : Int)) (n + 4) := by
  obtain ⟨M1, e, f, i⟩ := s_word h hn w
  refine ⟨M1, e, f, i.1, i.2.1, fun k hk => ?_⟩
  have q := i.2.2 k hk
  have e2 : wd4 (fun i => ((chL l i : Nat) : Int)) n w k = ((chL l k : Nat) : Int) := by
    obtain ⟨w1, w2, w3, w4⟩ := hw
    unfold wd4
    rw [w1, w2, w3, w4]
    unfold upI
    split
    · next q => rw [q]
    · split
      · next q => rw [q]
      · split
        · next q => rw [q]
        · split
          · next q => rw [q]
          · rfl
  rw [e2] at q
  exact q
theorem good_fz {K : Nat → Nat → Nat → Bool} {M M' : xM} (L : List (Nat × Nat)) (f : fz K M M') (hK : ∀ k o s, 100 ≤ k → K k o s = false) (h : xgood L M = true) : xgood L M' = true := by
  rw [xgood_eq L (fun k => fz_gn f (hK 101 k 0 (by omega))) (fun k o s q => fz_gn f (hK k o s (by omega)))]
  exact h
theorem I0_no {k o s : Nat} (h : k ≠ 19 ∧ k ≠ 20) : onI0 k o s = false := by
  unfold onI0
  rw [beq_ff h.1, beq_ff h.2]; rfl
theorem TB_I0 {M M' : xM} {t : Nat} {l : List Int} (h : TB M t l) (f : fz onI0 M M') : TB M' t l := TB_fz h f (fun k s q => I0_no (by omega))
theorem xain6 (a b c d e : Int32) : xain (xsl 0) [(1, .ref 0), (0, .int a), (0, .int b), (0, .int c), (0, .int d), (0, .int e)] = true := rfl
theorem q_say {M : xM} {t n : Nat} {l : List Int} (hG : xgood (xsl 0) M = true) (h : TB M t l) (hl : l.length ≤ 420) (hn : n ≤ 600) (hi : gi M 19 0 1 = zi (n : Nat)) : ∃ M1, m_L_say 0 t M = rI (bz true) M1 ∧ fz onI0 M M1 ∧ IN M1 0 (fun i => ((chL l i : Nat) : Int)) l.length := by
  have gd : ∀ {X : xM} {as : List xV} (k : xR), fz onI0 M X → xain (xsl 0) as = true → xgd (xgood (xsl 0) X && xain (xsl 0) as) k = k := fun k f ha => xgd_t (by rw [good_fz _ f (fun k o s q => I0_no (by omega)) hG, ha]; rfl) k
  have t0 : m_C_truncate 0 0 M = rI 0 (xst M 19 0 1 (.int 0)) := by
    rw [e_m_C_truncate, if_neg (by decide), hi, zi_00, zif (by omega) (by omega) (by decide) (by decide), if_neg (by omega)]
  have f0 : fz onI0 M (xst M 19 0 1 (.int 0)) := fz_st rfl
  have i0 : IN (xst M 19 0 1 (.int 0)) 0 (fun i => ((chL l i : Nat) : Int)) 0 := ⟨by decide, gi_h _ _ _ _ _, fun k hk => absurd hk (Nat.not_lt_zero k)⟩
  have k1 : ∃ X, (fz onI0 M X ∧ IN X 0 (fun i => ((chL l i : Nat) : Int)) (20 * ((l.length + 19) / 20))) ∧ b_L_say_7 0 t (zi ((20 * 0 : Nat) : Int)) (xst M 19 0 1 (.int 0)) = b_L_say_7 0 t (zi ((20 * ((l.length + 19) / 20) : Nat) : Int)) X := by
    refine lpM (B := fun j X => b_L_say_7 0 t (zi ((20 * j : Nat) : Int)) X) (n := (l.length + 19) / 20) (fun j X => fz onI0 M X ∧ IN X 0 (fun i => ((chL l i : Nat) : Int)) (20 * j)) (fun q => ∃ X, (fz onI0 M X ∧ IN X 0 (fun i => ((chL l i : Nat) : Int)) (20 * ((l.length + 19) / 20))) ∧ q = b_L_say_7 0 t (zi ((20 * ((l.length + 19) / 20) : Nat) : Int)) X) (fun j X hj V => ?_) (fun X V => ⟨X, V, rfl⟩) 0 _ (Nat.zero_le _) ⟨f0, i0⟩
    obtain ⟨f, i⟩ := V
    have f : fz onI0 M X := f
    have i : IN X 0 (fun i => ((chL l i : Nat) : Int)) (20 * j) := i
    have hX := TB_I0 h f
    have lt : 20 * j < l.length := by omega
    obtain ⟨w1, a1, b1⟩ := t_word hX (by omega) (p := 20 * j) (by omega)
    obtain ⟨w2, a2, b2⟩ := t_word hX (by omega) (p := 20 * j + 4) (by omega)
    obtain ⟨w3, a3, b3⟩ := t_word hX (by omega) (p := 20 * j + 8) (by omega)
    obtain ⟨w4, a4, b4⟩ := t_word hX (by omega) (p := 20 * j + 12) (by omega)
    obtain ⟨w5, a5, b5⟩ := t_word hX (by omega) (p := 20 * j + 16) (by omega)
    obtain ⟨X1, e1, f1, i1⟩ := in_word i (by omega) b1
    obtain ⟨X2, e2, f2, i2⟩ := in_word i1 (by omega) b2
    obtain ⟨X3, e3, f3, i3⟩ := in_word i2 (by omega) b3
    obtain ⟨X4, e4, f4, i4⟩ := in_word i3 (by omega) b4
    obtain ⟨X5, e5, f5, i5⟩ := in_word i4 (by omega) b5
    refine ⟨X5, ⟨fz_trans f (fz_trans f1 (fz_trans f2 (fz_trans f3 (fz_trans f4 f5)))), by
      rw [show 20 * (j + 1) = 20 * j + 4 + 4 + 4 + 4 + 4 by omega]; exact i5⟩, ?_⟩
    have ad : ∀ (k : Nat), zi ((20 * j : Nat) : Int) + zi (k : Nat) = zi ((20 * j + k : Nat) : Int) := fun k => by rw [zi_add]; rfl
    have ap : m_C_append 0 w1 w2 w3 w4 w5 X = rI (zi ((20 * j + 4 + 4 + 4 + 4 + 4 : Nat) : Int)) X5 := by
      rw [e_m_C_append, i.2.1, zi_20, zi_add, zi_600, zif (by decide) (by decide) (by omega) (by omega), if_neg (by omega), e1, xbV_r, e2, xbV_r, e3, xbV_r, e4, xbV_r, e5, xbV_r, i5.2.1]
    show b_L_say_7 0 t (zi ((20 * j : Nat) : Int)) X = b_L_say_7 0 t (zi ((20 * (j + 1) : Nat) : Int)) X5
    rw [e_b_L_say_7, gd4 rfl, t_len hX, xret_v, xbI_r, if_pos (zi_ltn lt (by omega)), a1, xret_v, xbI_r,
      show (4 : Int32) = zi ((4 : Nat) : Int) from rfl, ad, a2, xret_v, xbI_r,
      show (8 : Int32) = zi ((8 : Nat) : Int) from rfl, ad, a3, xret_v, xbI_r,
      show (12 : Int32) = zi ((12 : Nat) : Int) from rfl, ad, a4, xret_v, xbI_r,
      show (16 : Int32) = zi ((16 : Nat) : Int) from rfl, ad, a5, xret_v, xbI_r, gd _ f (xain6 _ _ _ _ _), ap, xret_v, xbI_r,
      show (20 : Int32) = zi ((20 : Nat) : Int) from rfl, ad, show 20 * (j + 1) = 20 * j + 20 by omega]
  obtain ⟨X, ⟨f, i⟩, e⟩ := k1
  have e : b_L_say_7 0 t 0 (xst M 19 0 1 (.int 0)) = _ := e
  have hX := TB_I0 h f
  have hm : (l.length + 19) / 20 * 20 ≤ l.length + 19 := Nat.div_mul_le_self _ _
  have hm2 : l.length ≤ 20 * ((l.length + 19) / 20) := by omega
  have f2 : fz onI0 M (xst X 19 0 1 (.int (zi (l.length : Nat)))) := fz_step f rfl
  refine ⟨xst X 19 0 1 (.int (zi (l.length : Nat))), ?_, f2, by omega, gi_h _ _ _ _ _, fun k hk => ?_⟩
  · have tr : m_C_truncate 0 (zi (l.length : Nat)) X = rI (zi (l.length : Nat)) (xst X 19 0 1 (.int (zi (l.length : Nat)))) := by
      rw [e_m_C_truncate, zi_neg0 (by omega) (by omega), i.2.1, zif (by omega) (by omega) (by omega) (by omega), if_neg (by omega)]
    rw [e_m_L_say, gd _ (fz_refl M) (xain1 _), t0, xret_v, xbI_r, e, e_b_L_say_7, gd4 rfl, t_len hX, xret_v, xbI_r, zif (by omega) (by omega) (by omega) (by omega), if_neg (by omega), gd4 rfl, t_len hX, xret_v, xbI_r, gd _ f (xain1 _), tr, xret_v, xbI_r, gd4 rfl, t_len (TB_I0 h f2), xret_v, xbI_r, if_pos rfl, xnar_1]
  · rw [gi_k (by decide)]
    exact i.2.2 k (by omega)
