/-! the reference's tokens -/
/-- next, type, from, value -/
def onQ (k o s : Nat) : Bool := (Nat.beq k 27 && Nat.beq o 0) && (Nat.ble 17 s && Nat.ble s 20)
theorem onQ_k {k o s : Nat} (h : k ≠ 27) : onQ k o s = false := by
  unfold onQ
  cases e : Nat.beq k 27 with
  | false => rfl
  | true => exact absurd (Nat.eq_of_beq_eq_true e) h
/-- the input, as the reference has it -/
def IR (M : xM) (B : Nat → Int) (n : Nat) : Prop := n ≤ 600 ∧ gi M 27 0 4 = zi n ∧ ∀ k, k < n → gi M 30 0 k = zi (B k) ∧ 0 ≤ B k ∧ B k < 256
theorem IR_fz {K : Nat → Nat → Nat → Bool} {M M' : xM} {B : Nat → Int} {n : Nat} (h : IR M B n) (f : fz K M M') (h1 : K 27 0 4 = false) (h2 : ∀ s, K 30 0 s = false) : IR M' B n := ⟨h.1, (fz_gi f h1).trans h.2.1, fun k hk => ⟨(fz_gi f (h2 k)).trans (h.2.2 k hk).1, (h.2.2 k hk).2⟩⟩
theorem IR_Q {M M' : xM} {B : Nat → Int} {n : Nat} (h : IR M B n) (f : fz onQ M M') : IR M' B n := IR_fz h f rfl (fun _ => onQ_k (by decide))
/-- its numbers for the kinds of tokens -/
def tyR (k : Nat) : Int := match k with
  | 0 => 1
  | 1 => 2
  | 2 => 3
  | 3 => 4
  | _ => 0
def TR (M : xM) (B : Nat → Int) (n p : Nat) : Prop := p ≤ n ∧ gi M 27 0 19 = zi (tF B n p : Nat) ∧ gi M 27 0 17 = zi (tE B n p : Nat) ∧ gi M 27 0 18 = zi (tyR (tT B n p)) ∧ (tT B n p = 1 → gi M 27 0 20 = zi (dgV B (tF B n p) (tE B n p - tF B n p)))
theorem TR_fz {K : Nat → Nat → Nat → Bool} {M M' : xM} {B : Nat → Int} {n p : Nat} (h : TR M B n p) (f : fz K M M') (hK : ∀ s, 17 ≤ s → s ≤ 20 → K 27 0 s = false) : TR M' B n p := ⟨h.1, (fz_gi f (hK 19 (by decide) (by decide))).trans h.2.1, (fz_gi f (hK 17 (by decide) (by decide))).trans h.2.2.1, (fz_gi f (hK 18 (by decide) (by decide))).trans h.2.2.2.1, fun q => (fz_gi f (hK 20 (by decide) (by decide))).trans (h.2.2.2.2 q)⟩
theorem r_isSmall {x : Int} (h1 : -2147483648 ≤ x) (h2 : x < 2147483648) (M : xM) : m_M_isSmall (zi x) M = rI (bz (isLt x)) M := by
  rw [e_m_M_isSmall, show (97 : Int32) = zi 97 from rfl, show (122 : Int32) = zi 122 from rfl, zif h1 h2 (by decide) (by decide), zif (by decide) (by decide) h1 h2, xnar_0, xnar_1]
  unfold isLt
  by_cases c : x < 97
  · rw [if_pos c, decide_eq_false (by omega)]
  · rw [if_neg c]
    by_cases c2 : 122 < x
    · rw [if_pos c2, decide_eq_false (by omega)]
    · rw [if_neg c2, decide_eq_true (by omega)]
theorem r_isDigit {x : Int} (h1 : -2147483648 ≤ x) (h2 : x < 2147483648) (M : xM) : m_M_isDigit (zi x) M = rI (bz (isDg x)) M := by
  rw [e_m_M_isDigit, show (48 : Int32) = zi 48 from rfl, show (57 : Int32) = zi 57 from rfl, zif h1 h2 (by decide) (by decide), zif (by decide) (by decide) h1 h2, xnar_0, xnar_1]
  unfold isDg
  by_cases c : x < 48
  · rw [if_pos c, decide_eq_false (by omega)]
  · rw [if_neg c]
    by_cases c2 : 57 < x
    · rw [if_pos c2, decide_eq_false (by omega)]
    · rw [if_neg c2, decide_eq_true (by omega)]
theorem r_tokW {M : xM} {B : Nat → Int} {n f : Nat} (h : IR M B n) (hf : f < n) (h1 : gi M 27 0 19 = zi (f : Nat)) (h2 : gi M 27 0 17 = zi (f : Nat)) : ∃ M', b_M_token_48 0 M = rV M' ∧ fz onQ M M' ∧ gi M' 27 0 19 = zi (f : Nat) ∧ gi M' 27 0 17 = zi (nx isLt B n f : Nat) ∧ gi M' 27 0 18 = zi (if 8 < nx isLt B n f - f then 4 else 1) := by
  have hb := nx_bd (P := isLt) (B := B) (Nat.le_of_lt hf)
  have hn := h.1
  generalize hE : nx isLt B n f = E at hb ⊢
  have inn : ∀ i, f ≤ i → i < E → isLt (B i) = true := fun i a1 a2 => nx_in (P := isLt) (n := n) (p := f) a1 (by rw [hE]; exact a2)
  have fin : ∀ M1 : xM, gi M1 27 0 19 = zi (f : Nat) → gi M1 27 0 17 = zi (E : Nat) → fz onQ M M1 → ∃ M', (if 8 < ((gi M1 27 0 17) - (gi M1 27 0 19)) then rV (xst M1 27 0 18 (.int 4)) else rV (xst M1 27 0 18 (.int 1))) = rV M' ∧ fz onQ M M' ∧ gi M' 27 0 19 = zi (f : Nat) ∧ gi M' 27 0 17 = zi (E : Nat) ∧ gi M' 27 0 18 = zi (if 8 < E - f then 4 else 1) := fun M1 g1 g2 f1 => by
    rw [g1, g2, zi_sub, zi_08, zif (by decide) (by decide) (by omega) (by omega)]
    by_cases c : 8 < E - f
    · rw [if_pos (by omega), if_pos c]
      exact ⟨_, rfl, fz_step f1 rfl, by rw [gi_s (by decide), g1], by rw [gi_s (by decide), g2], gi_h _ _ _ _ _⟩
    · rw [if_neg (by omega), if_neg c]
      exact ⟨_, rfl, fz_step f1 rfl, by rw [gi_s (by decide), g1], by rw [gi_s (by decide), g2], gi_h _ _ _ _ _⟩
  refine lpM (B := fun i M' => b_M_token_48 0 M') (n := E - f) (fun i M' => fz onQ M M' ∧ gi M' 27 0 19 = zi (f : Nat) ∧ gi M' 27 0 17 = zi ((f + i : Nat) : Int)) (fun r => ∃ M', r = rV M' ∧ fz onQ M M' ∧ gi M' 27 0 19 = zi (f : Nat) ∧ gi M' 27 0 17 = zi (E : Nat) ∧ gi M' 27 0 18 = zi (if 8 < E - f then 4 else 1)) ?_ ?_ 0 M (Nat.zero_le _) ⟨fz_refl M, h1, h2⟩
  · intro i M1 hi ⟨f1, g1, g2⟩
    have hI := IR_Q h f1
    have bi := hI.2.2 (f + i) (by omega)
    have li := inn (f + i) (by omega) (by omega)
    refine ⟨xst M1 27 0 17 (.int (zi ((f + (i + 1) : Nat) : Int))), ⟨fz_step f1 rfl, by rw [gi_s (by decide), g1], gi_h _ _ _ _ _⟩, ?_⟩
    show b_M_token_48 0 M1 = b_M_token_48 0 _
    rw [e_b_M_token_48, if_pos (by rw [g2, hI.2.1]; exact zi_ltn (by omega) (by omega)), g2, xck_n (by omega) (by decide), zi_toNat (by omega), bi.1, r_isSmall (by omega) (by omega), xbI_r, ite_b, li, if_pos rfl, g2, zi_suc]
    rfl
  · intro M1 ⟨f1, g1, g2⟩
    have hI := IR_Q h f1
    rw [show f + (E - f) = E by omega] at g2
    show ∃ M', b_M_token_48 0 M1 = _ ∧ _
    by_cases c : E < n
    · have bi := hI.2.2 E c
      have li : isLt (B E) = false := by
        have := nx_at (P := isLt) (B := B) (n := n) (p := f) (by omega) (by rw [hE]; exact c)
        rw [hE] at this; exact this
      rw [e_b_M_token_48, if_pos (by rw [g2, hI.2.1]; exact zi_ltn c (by omega)), g2, xck_n (by omega) (by decide), zi_toNat (by omega), bi.1, r_isSmall (by omega) (by omega), xbI_r, ite_b, li, if_neg (by decide)]
      exact fin M1 g1 g2 f1
    · rw [e_b_M_token_48, if_neg (by rw [g2, hI.2.1]; exact zi_nlz (by omega) (by omega) (by omega))]
      exact fin M1 g1 g2 f1
theorem r_tokN {M : xM} {B : Nat → Int} {n f : Nat} (h : IR M B n) (hf : f < n) (h1 : gi M 27 0 19 = zi (f : Nat)) (h2 : gi M 27 0 17 = zi (f : Nat)) (h5 : gi M 27 0 20 = 0) : ∃ M', b_M_token_91 0 M = rV M' ∧ fz onQ M M' ∧ gi M' 27 0 19 = zi (f : Nat) ∧ gi M' 27 0 17 = zi (nx isDg B n f : Nat) ∧ gi M' 27 0 18 = zi (if 3 < nx isDg B n f - f then 4 else 2) ∧ (nx isDg B n f - f ≤ 3 → gi M' 27 0 20 = zi (dgV B f (nx isDg B n f - f))) := by
  have hb := nx_bd (P := isDg) (B := B) (Nat.le_of_lt hf)
  have hn := h.1
  generalize hE : nx isDg B n f = E at hb ⊢
  have inn : ∀ i, f ≤ i → i < E → isDg (B i) = true := fun i a1 a2 => nx_in (P := isDg) (n := n) (p := f) a1 (by rw [hE]; exact a2)
  have fin : ∀ M1 : xM, gi M1 27 0 19 = zi (f : Nat) → gi M1 27 0 17 = zi (E : Nat) → fz onQ M M1 → gi M1 27 0 20 = zi (dgV B f (min (E - f) 3)) → ∃ M', (if 3 < ((gi M1 27 0 17) - (gi M1 27 0 19)) then rV (xst M1 27 0 18 (.int 4)) else rV (xst M1 27 0 18 (.int 2))) = rV M' ∧ fz onQ M M' ∧ gi M' 27 0 19 = zi (f : Nat) ∧ gi M' 27 0 17 = zi (E : Nat) ∧ gi M' 27 0 18 = zi (if 3 < E - f then 4 else 2) ∧ (E - f ≤ 3 → gi M' 27 0 20 = zi (dgV B f (E - f))) := fun M1 g1 g2 f1 g5 => by
    rw [g1, g2, zi_sub, zi_03, zif (by decide) (by decide) (by omega) (by omega)]
    by_cases c : 3 < E - f
    · rw [if_pos (by omega), if_pos c]
      exact ⟨_, rfl, fz_step f1 rfl, by rw [gi_s (by decide), g1], by rw [gi_s (by decide), g2], gi_h _ _ _ _ _, fun q => by omega⟩
    · rw [if_neg (by omega), if_neg c]
      exact ⟨_, rfl, fz_step f1 rfl, by rw [gi_s (by decide), g1], by rw [gi_s (by decide), g2], gi_h _ _ _ _ _, fun q => by rw [gi_s (by decide), g5, show min (E - f) 3 = E - f by omega]⟩
  refine lpM (B := fun i M' => b_M_token_91 0 M') (n := E - f) (fun i M' => fz onQ M M' ∧ gi M' 27 0 19 = zi (f : Nat) ∧ gi M' 27 0 17 = zi ((f + i : Nat) : Int) ∧ gi M' 27 0 20 = zi (dgV B f (min i 3))) (fun r => ∃ M', r = rV M' ∧ fz onQ M M' ∧ gi M' 27 0 19 = zi (f : Nat) ∧ gi M' 27 0 17 = zi (E : Nat) ∧ gi M' 27 0 18 = zi (if 3 < E - f then 4 else 2) ∧ (E - f ≤ 3 → gi M' 27 0 20 = zi (dgV B f (E - f)))) ?_ ?_ 0 M (Nat.zero_le _) ⟨fz_refl M, h1, h2, h5⟩
  · intro i M1 hi ⟨f1, g1, g2, g5⟩
    have hI := IR_Q h f1
    have bi := hI.2.2 (f + i) (by omega)
    have li := inn (f + i) (by omega) (by omega)
    show ∃ s', _ ∧ b_M_token_91 0 M1 = b_M_token_91 0 s'
    rw [e_b_M_token_91, if_pos (by rw [g2, hI.2.1]; exact zi_ltn (by omega) (by omega)), g2, xck_n (by omega) (by decide), zi_toNat (by omega), bi.1, r_isDigit (by omega) (by omega), xbI_r, ite_b, li, if_pos rfl, g1, g2, zi_sub, zi_03, zif (by omega) (by omega) (by decide) (by decide), zi_toNat (by omega), bi.1]
    by_cases c : i < 3
    · rw [if_pos (by omega), xck_n (by omega) (by decide)]
      refine ⟨_, ⟨fz_step (fz_step f1 rfl) rfl, by rw [gi_s (by decide), gi_s (by decide), g1], ?_, ?_⟩, rfl⟩
      · rw [gi_h, gi_s (by decide), g2, zi_suc, Nat.add_assoc]
      · rw [gi_s (by decide), gi_h, g5, show min i 3 = i by omega, show min (i + 1) 3 = i + 1 by omega, zi_10, show (48 : Int32) = zi 48 from rfl, zi_mul, zi_add, zi_sub]
        congr 1
        show _ = dgV B f i * 10 + (B (f + i) - 48)
        omega
    · rw [if_neg (by omega)]
      refine ⟨_, ⟨fz_step f1 rfl, by rw [gi_s (by decide), g1], ?_, ?_⟩, rfl⟩
      · rw [gi_h, zi_suc, Nat.add_assoc]
      · rw [gi_s (by decide), g5, show min i 3 = min (i + 1) 3 by omega]
  · intro M1 ⟨f1, g1, g2, g5⟩
    have hI := IR_Q h f1
    rw [show f + (E - f) = E by omega] at g2
    show ∃ M', b_M_token_91 0 M1 = _ ∧ _
    by_cases c : E < n
    · have bi := hI.2.2 E c
      have li : isDg (B E) = false := by
        have := nx_at (P := isDg) (B := B) (n := n) (p := f) (by omega) (by rw [hE]; exact c)
        rw [hE] at this; exact this
      rw [e_b_M_token_91, if_pos (by rw [g2, hI.2.1]; exact zi_ltn c (by omega)), g2, xck_n (by omega) (by decide), zi_toNat (by omega), bi.1, r_isDigit (by omega) (by omega), xbI_r, ite_b, li, if_neg (by decide)]
      exact fin M1 g1 g2 f1 g5
    · rw [e_b_M_token_91, if_neg (by rw [g2, hI.2.1]; exact zi_nlz (by omega) (by omega) (by omega))]
      exact fin M1 g1 g2 f1 g5
theorem r_token {M : xM} {B : Nat → Int} {n p : Nat} (h : IR M B n) (hp : p ≤ n) (h2 : gi M 27 0 17 = zi (p : Nat)) : ∃ M', m_M_token 0 M = rV M' ∧ fz onQ M M' ∧ TR M' B n p := by
  have hb := tF_bd (B := B) hp
  have hn := h.1
  rw [e_m_M_token]
  refine lpM (B := fun i M' => b_M_token_1 0 M') (n := tF B n p - p) (fun i M' => fz onQ M M' ∧ gi M' 27 0 17 = zi ((p + i : Nat) : Int)) (fun r => ∃ M', r = rV M' ∧ fz onQ M M' ∧ TR M' B n p) ?_ ?_ 0 _ (Nat.zero_le _) ⟨fz_refl M, h2⟩
  · intro i M1 hi ⟨f1, g1⟩
    have hI := IR_Q h f1
    have bi := hI.2.2 (p + i) (by omega)
    have li : isSp (B (p + i)) = true := nx_in (P := isSp) (n := n) (p := p) (by omega) (by unfold tF at hi; omega)
    have li := of_decide_eq_true li
    refine ⟨xst M1 27 0 17 (.int (zi ((p + (i + 1) : Nat) : Int))), ⟨fz_step f1 rfl, gi_h _ _ _ _ _⟩, ?_⟩
    show b_M_token_1 0 M1 = b_M_token_1 0 _
    have e9 : zi ((p + i : Nat) : Int) + (1 : Int32) = zi ((p + (i + 1) : Nat) : Int) := zi_suc (p + i)
    rw [e_b_M_token_1, if_pos (by rw [g1, hI.2.1]; exact zi_ltn (by omega) (by omega)), g1, xck_n (by omega) (by decide), zi_toNat (by omega), bi.1, show (32 : Int32) = zi 32 from rfl, zife (by omega) (by omega) (by decide) (by decide), xck_n (by omega) (by decide), zi_10, zife (by omega) (by omega) (by decide) (by decide), e9]
    by_cases c : B (p + i) = 32
    · rw [if_pos c]
    · rw [if_neg c, if_pos (by omega)]
  · intro M1 ⟨f1, g1⟩
    have hI := IR_Q h f1
    rw [show p + (tF B n p - p) = tF B n p by omega] at g1
    show ∃ M', b_M_token_1 0 M1 = _ ∧ _
    have f2 : fz onQ M (xst M1 27 0 19 (.int (zi (tF B n p : Nat)))) := fz_step f1 rfl
    have hI2 := IR_Q h f2
    have k1 : gi (xst M1 27 0 19 (.int (zi (tF B n p : Nat)))) 27 0 17 = zi (tF B n p : Nat) := by rw [gi_s (by decide), g1]
    have k3 : gi (xst M1 27 0 19 (.int (zi (tF B n p : Nat)))) 27 0 19 = zi (tF B n p : Nat) := gi_h _ _ _ _ _
    by_cases c : tF B n p < n
    · have bi := hI.2.2 _ c
      have li : isSp (B (tF B n p)) = false := nx_at (P := isSp) hp c
      have li := of_decide_eq_false li
      have k20 := (hI2.2.2 _ c).1
      rw [e_b_M_token_1, if_pos (by rw [g1, hI.2.1]; exact zi_ltn c (by omega)), g1, xck_n (by omega) (by decide), zi_toNat (by omega), bi.1, show (32 : Int32) = zi 32 from rfl, zife (by omega) (by omega) (by decide) (by decide), if_neg (by omega), xck_n (by omega) (by decide), zi_10, zife (by omega) (by omega) (by decide) (by decide), if_neg (by omega), k1, if_neg (by rw [hI2.2.1, zi_eq (by omega) (by omega) (by omega) (by omega)]; omega), xck_n (by omega) (by decide), zi_toNat (by omega), bi.1, r_isSmall (by omega) (by omega), xbI_r, ite_b]
      generalize (xst M1 27 0 19 (.int (zi (tF B n p : Nat)))) = M2 at f2 hI2 k1 k3 k20 ⊢
      cases hl : isLt (B (tF B n p)) with
      | true =>
        obtain ⟨M3, e3, f3, a1, a2, a3⟩ := r_tokW hI2 c k3 k1
        have eE : tE B n p = nx isLt B n (tF B n p) := by unfold tE; rw [if_neg (by omega), if_pos hl]
        have eT : tT B n p = if 8 < nx isLt B n (tF B n p) - tF B n p then 3 else 0 := by unfold tT; rw [if_neg (by omega), if_pos hl]
        refine ⟨M3, by rw [if_pos rfl, e3], fz_trans f2 f3, hp, a1, by rw [eE]; exact a2, ?_, fun q => ?_⟩
        · rw [a3, eT]
          by_cases z : 8 < nx isLt B n (tF B n p) - tF B n p
          · rw [if_pos z, if_pos z]; rfl
          · rw [if_neg z, if_neg z]; rfl
        · rw [eT] at q
          split at q <;> omega
      | false =>
        rw [if_neg (by decide), k1, xck_n (by omega) (by decide), zi_toNat (by omega), k20, r_isDigit (by omega) (by omega), xbI_r, ite_b]
        cases hg : isDg (B (tF B n p)) with
        | true =>
          obtain ⟨M3, e3, f3, a1, a2, a3, a4⟩ := r_tokN (IR_Q hI2 (fz_st (k := 27) (o := 0) (s := 20) (v := .int 0) rfl)) c ((gi_s (by decide)).trans k3) ((gi_s (by decide)).trans k1) (gi_h _ _ _ _ _)
          have eE : tE B n p = nx isDg B n (tF B n p) := by unfold tE; rw [if_neg (by omega), hl, if_neg (by decide), if_pos hg]
          have eT : tT B n p = if 3 < nx isDg B n (tF B n p) - tF B n p then 3 else 1 := by unfold tT; rw [if_neg (by omega), hl, if_neg (by decide), if_pos hg]
          refine ⟨M3, by rw [if_pos rfl, e3], fz_trans (fz_step f2 rfl) f3, hp, a1, by rw [eE]; exact a2, ?_, fun q => ?_⟩
          · rw [a3, eT]
            by_cases z : 3 < nx isDg B n (tF B n p) - tF B n p
            · rw [if_pos z, if_pos z]; rfl
            · rw [if_neg z, if_neg z]; rfl
          · rw [eE]
            refine a4 ?_
            rw [eT] at q
            by_cases z : 3 < nx isDg B n (tF B n p) - tF B n p
            · rw [if_pos z] at q; omega
            · omega
        | false =>
          have eE : tE B n p = tF B n p + 1 := by unfold tE; rw [if_neg (by omega), hl, if_neg (by decide), hg, if_neg (by decide)]
          have eT : tT B n p = if B (tF B n p) = 59 then 2 else 3 := by unfold tT; rw [if_neg (by omega), hl, if_neg (by decide), hg, if_neg (by decide)]
          rw [if_neg (by decide), k1, xck_n (by omega) (by decide), zi_toNat (by omega), k20, show (59 : Int32) = zi 59 from rfl, zife (by omega) (by omega) (by decide) (by decide)]
          by_cases q : B (tF B n p) = 59
          · rw [if_pos q, gi_s (by decide), k1, zi_suc]
            refine ⟨_, rfl, fz_step (fz_step f2 rfl) rfl, hp, by rw [gi_s (by decide), gi_s (by decide), k3], by rw [eE, gi_h], by rw [eT, if_pos q, gi_s (by decide), gi_h]; rfl, fun z => ?_⟩
            rw [eT, if_pos q] at z; omega
          · rw [if_neg q, gi_s (by decide), k1, zi_suc]
            refine ⟨_, rfl, fz_step (fz_step f2 rfl) rfl, hp, by rw [gi_s (by decide), gi_s (by decide), k3], by rw [eE, gi_h], by rw [eT, if_neg q, gi_s (by decide), gi_h]; rfl, fun z => ?_⟩
            rw [eT, if_neg q] at z; omega
    · have e : tF B n p = n := by omega
      have eE : tE B n p = tF B n p := by unfold tE; rw [if_pos (by omega)]
      have eT : tT B n p = 4 := by unfold tT; rw [if_pos (by omega)]
      have no : ¬ (zi (tF B n p : Nat) < gi M1 27 0 4) := by
        rw [hI.2.1]; exact zi_nlz (by omega) (by omega) (by omega)
      rw [e_b_M_token_1, if_neg (by rw [g1]; exact no), g1, if_pos (by rw [k1, hI2.2.1, e])]
      refine ⟨_, rfl, fz_step f2 rfl, hp, ?_, ?_, by rw [eT, gi_h]; rfl, fun z => ?_⟩
      · rw [gi_s (by decide), k3]
      · rw [gi_s (by decide), k1, eE]
      · rw [eT] at z; omega
