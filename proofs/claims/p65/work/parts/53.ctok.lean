/-! the class's half of the part 53 of the proof of whole (wip/p65/mkhalf.py) -/
/-- the places of a tokens thing that its walk changes -/
def onT (t k o s : Nat) : Bool := (Nat.beq k 21 && Nat.beq o t) && Nat.blt s 6
theorem onT_t {t s : Nat} (h : s < 6) : onT t 21 t s = true := by
  unfold onT
  rw [Nat.beq_refl t]
  exact Nat.ble_eq_true_of_le (show s + 1 ≤ 6 by omega)
theorem onT_k {t k o s : Nat} (h : k ≠ 21) : onT t k o s = false := by
  unfold onT
  cases e : Nat.beq k 21 with
  | false => rfl
  | true => exact absurd (Nat.eq_of_beq_eq_true e) h
theorem onT_s {t k o s : Nat} (h : 6 ≤ s) : onT t k o s = false := by
  unfold onT
  cases e : Nat.blt s 6 with
  | false => rw [Bool.and_false]
  | true =>
    have : s < 6 := Nat.le_of_ble_eq_true e
    omega
/-- the input, as the class has it -/
def IN (M : xM) (o : Nat) (B : Nat → Int) (n : Nat) : Prop := n ≤ 600 ∧ gi M 19 o 1 = zi n ∧ ∀ k, k < n → gi M 20 o k = zi (sb (B k)) ∧ 0 ≤ B k ∧ B k < 256
theorem IN_fz {K : Nat → Nat → Nat → Bool} {M M' : xM} {o : Nat} {B : Nat → Int} {n : Nat} (h : IN M o B n) (f : fz K M M') (h1 : K 19 o 1 = false) (h2 : ∀ s, K 20 o s = false) : IN M' o B n := ⟨h.1, (fz_gi f h1).trans h.2.1, fun k hk => ⟨(fz_gi f (h2 k)).trans (h.2.2 k hk).1, (h.2.2 k hk).2⟩⟩
theorem IN_T {M M' : xM} {o t : Nat} {B : Nat → Int} {n : Nat} (h : IN M o B n) (f : fz (onT t) M M') : IN M' o B n := IN_fz h f (onT_k (by decide)) (fun _ => onT_k (by decide))
/-- the token that was read from place p on -/
def TC (M : xM) (o : Nat) (B : Nat → Int) (n p : Nat) : Prop := p ≤ n ∧ gi M 21 o 1 = zi (tF B n p : Nat) ∧ gi M 21 o 2 = zi (tE B n p : Nat) ∧ gn M 21 o 3 = tT B n p ∧ (tT B n p = 0 → gl M 21 o 4 = pw B (tF B n p) (tE B n p - tF B n p)) ∧ (tT B n p = 1 → gi M 21 o 5 = zi (dgV B (tF B n p) (tE B n p - tF B n p)))
theorem TC_fz {K : Nat → Nat → Nat → Bool} {M M' : xM} {o : Nat} {B : Nat → Int} {n p : Nat} (h : TC M o B n p) (f : fz K M M') (hK : ∀ s, s < 6 → K 21 o s = false) : TC M' o B n p := ⟨h.1, (fz_gi f (hK 1 (by decide))).trans h.2.1, (fz_gi f (hK 2 (by decide))).trans h.2.2.1, (fz_gn f (hK 3 (by decide))).trans h.2.2.2.1, fun q => (fz_gl f (hK 4 (by decide))).trans (h.2.2.2.2.1 q), fun q => (fz_gi f (hK 5 (by decide))).trans (h.2.2.2.2.2 q)⟩
theorem zi_toNat {i : Nat} (h : i ≤ 600) : ix (zi (i : Int)) = i := zix (by omega)
theorem s_scanW {M : xM} {o : Nat} {B : Nat → Int} {n f : Nat} (h : IN M o B n) (hf : f < n) (h1 : gi M 21 o 1 = zi (f : Nat)) (h2 : gi M 21 o 2 = zi (f : Nat)) (h4 : gl M 21 o 4 = 0) : ∃ M', m_T_scanWord o M = rV M' ∧ fz (onT o) M M' ∧ gi M' 21 o 1 = zi (f : Nat) ∧ gi M' 21 o 2 = zi (nx isLt B n f : Nat) ∧ gn M' 21 o 3 = (if 8 < nx isLt B n f - f then 3 else 0) ∧ (nx isLt B n f - f ≤ 8 → gl M' 21 o 4 = pw B f (nx isLt B n f - f)) := by
  have hb := nx_bd (P := isLt) (B := B) (Nat.le_of_lt hf)
  have hn := h.1
  rw [e_m_T_scanWord]
  generalize hE : nx isLt B n f = E at hb ⊢
  have inn : ∀ i, f ≤ i → i < E → isLt (B i) = true := fun i a1 a2 => nx_in (P := isLt) (n := n) (p := f) a1 (by rw [hE]; exact a2)
  have fin : ∀ M1 : xM, gi M1 21 o 1 = zi (f : Nat) → gi M1 21 o 2 = zi (E : Nat) → fz (onT o) M M1 → gl M1 21 o 4 = pw B f (min (E - f) 8) → ∃ M', (if 8 < ((gi (xst M1 21 o 3 (.ref 0)) 21 o 2) - (gi (xst M1 21 o 3 (.ref 0)) 21 o 1)) then rV (xst (xst (xst M1 21 o 3 (.ref 0)) 21 o 3 (.ref 3)) 21 o 4 (.long 0)) else rV (xst M1 21 o 3 (.ref 0))) = rV M' ∧ fz (onT o) M M' ∧ gi M' 21 o 1 = zi (f : Nat) ∧ gi M' 21 o 2 = zi (E : Nat) ∧ gn M' 21 o 3 = (if 8 < E - f then 3 else 0) ∧ (E - f ≤ 8 → gl M' 21 o 4 = pw B f (E - f)) := fun M1 g1 g2 f1 g4 => by
    rw [gi_s (by decide), gi_s (by decide), g1, g2, zi_sub, zi_08, zif (by decide) (by decide) (by omega) (by omega)]
    by_cases c : 8 < E - f
    · rw [if_pos (by omega), if_pos c]
      exact ⟨_, rfl, fz_step (fz_step (fz_step f1 (onT_t (by decide))) (onT_t (by decide))) (onT_t (by decide)), by rw [gi_s (by decide), gi_s (by decide), gi_s (by decide), g1], by rw [gi_s (by decide), gi_s (by decide), gi_s (by decide), g2], by rw [gn_s (by decide), gn_h], fun q => by omega⟩
    · rw [if_neg (by omega), if_neg c]
      exact ⟨_, rfl, fz_step f1 (onT_t (by decide)), by rw [gi_s (by decide), g1], by rw [gi_s (by decide), g2], gn_h _ _ _ _ _, fun q => by rw [gl_s (by decide), g4, show min (E - f) 8 = E - f by omega]⟩
  refine lpM (B := fun i M' => b_T_scanWord_1 o M') (n := E - f) (fun i M' => fz (onT o) M M' ∧ gi M' 21 o 1 = zi (f : Nat) ∧ gi M' 21 o 2 = zi ((f + i : Nat) : Int) ∧ gl M' 21 o 4 = pw B f (min i 8)) (fun r => ∃ M', r = rV M' ∧ fz (onT o) M M' ∧ gi M' 21 o 1 = zi (f : Nat) ∧ gi M' 21 o 2 = zi (E : Nat) ∧ gn M' 21 o 3 = (if 8 < E - f then 3 else 0) ∧ (E - f ≤ 8 → gl M' 21 o 4 = pw B f (E - f))) ?_ ?_ 0 M (Nat.zero_le _) ⟨fz_refl M, h1, h2, h4⟩
  · intro i M1 hi ⟨f1, g1, g2, g4⟩
    have hI := IN_T h f1
    have bi := hI.2.2 (f + i) (by omega)
    have li := inn (f + i) (by omega) (by omega)
    have sx := sb_lt bi.2
    have si := sb_id (Or.inl li)
    show ∃ s', _ ∧ b_T_scanWord_1 o M1 = b_T_scanWord_1 o s'
    rw [e_b_T_scanWord_1, g2, hI.2.1, if_pos (zi_ltn (by omega) (by omega)), xck_n (by omega) (by decide), zi_toNat (by omega), bi.1, s_isLetter (by omega) (by omega), xret_I, xbI_r, ite_b, sx.2.2.1, li, if_pos rfl, g1, g2, zi_toNat (by omega), bi.1, zi_sub, zi_08, zif (by omega) (by omega) (by decide) (by decide)]
    by_cases c : i < 8
    · rw [if_pos (by omega), xck_n (by omega) (by decide)]
      refine ⟨_, ⟨fz_step (fz_step f1 (onT_t (by decide))) (onT_t (by decide)), by rw [gi_s (by decide), gi_s (by decide), g1], ?_, ?_⟩, rfl⟩
      · rw [gi_h, gi_s (by decide), g2, zi_suc, Nat.add_assoc]
      · rw [gl_s (by decide), gl_h, g4, si, ← zi_08, show ((f + i : Nat) : Int) - (f : Int) = (i : Int) by omega, show min i 8 = i by omega, show min (i + 1) 8 = i + 1 by omega]
        exact pw_or c (fun k hk => of_decide_eq_true (inn (f + k) (by omega) (by omega)))
    · rw [if_neg (by omega)]
      refine ⟨_, ⟨fz_step f1 (onT_t (by decide)), by rw [gi_s (by decide), g1], ?_, ?_⟩, rfl⟩
      · rw [gi_h, zi_suc, Nat.add_assoc]
      · rw [gl_s (by decide), g4, show min i 8 = min (i + 1) 8 by omega]
  · intro M1 ⟨f1, g1, g2, g4⟩
    have hI := IN_T h f1
    rw [show f + (E - f) = E by omega] at g2
    show ∃ M', b_T_scanWord_1 o M1 = _ ∧ _
    by_cases c : E < n
    · have bi := hI.2.2 E c
      have li : isLt (B E) = false := by
        have := nx_at (P := isLt) (B := B) (n := n) (p := f) (by omega) (by rw [hE]; exact c)
        rw [hE] at this; exact this
      have sx := sb_lt bi.2
      rw [e_b_T_scanWord_1, if_pos (by rw [g2, hI.2.1]; exact zi_ltn c (by omega)), g2, xck_n (by omega) (by decide), zi_toNat (by omega), bi.1, s_isLetter (by omega) (by omega), xret_I, xbI_r, ite_b, sx.2.2.1, li, if_neg (by decide)]
      exact fin M1 g1 g2 f1 g4
    · rw [e_b_T_scanWord_1, if_neg (by rw [g2, hI.2.1]; exact zi_nlz (by omega) (by omega) (by omega))]
      exact fin M1 g1 g2 f1 g4
theorem s_scanN {M : xM} {o : Nat} {B : Nat → Int} {n f : Nat} (h : IN M o B n) (hf : f < n) (h1 : gi M 21 o 1 = zi (f : Nat)) (h2 : gi M 21 o 2 = zi (f : Nat)) (h5 : gi M 21 o 5 = 0) : ∃ M', m_T_scanNumber o M = rV M' ∧ fz (onT o) M M' ∧ gi M' 21 o 1 = zi (f : Nat) ∧ gi M' 21 o 2 = zi (nx isDg B n f : Nat) ∧ gn M' 21 o 3 = (if 3 < nx isDg B n f - f then 3 else 1) ∧ (nx isDg B n f - f ≤ 3 → gi M' 21 o 5 = zi (dgV B f (nx isDg B n f - f))) := by
  have hb := nx_bd (P := isDg) (B := B) (Nat.le_of_lt hf)
  have hn := h.1
  rw [e_m_T_scanNumber]
  generalize hE : nx isDg B n f = E at hb ⊢
  have inn : ∀ i, f ≤ i → i < E → isDg (B i) = true := fun i a1 a2 => nx_in (P := isDg) (n := n) (p := f) a1 (by rw [hE]; exact a2)
  have fin : ∀ M1 : xM, gi M1 21 o 1 = zi (f : Nat) → gi M1 21 o 2 = zi (E : Nat) → fz (onT o) M M1 → gi M1 21 o 5 = zi (dgV B f (min (E - f) 3)) → ∃ M', (if 3 < ((gi M1 21 o 2) - (gi M1 21 o 1)) then rV (xst M1 21 o 3 (.ref 3)) else rV (xst M1 21 o 3 (.ref 1))) = rV M' ∧ fz (onT o) M M' ∧ gi M' 21 o 1 = zi (f : Nat) ∧ gi M' 21 o 2 = zi (E : Nat) ∧ gn M' 21 o 3 = (if 3 < E - f then 3 else 1) ∧ (E - f ≤ 3 → gi M' 21 o 5 = zi (dgV B f (E - f))) := fun M1 g1 g2 f1 g5 => by
    rw [g1, g2, zi_sub, zi_03, zif (by decide) (by decide) (by omega) (by omega)]
    by_cases c : 3 < E - f
    · rw [if_pos (by omega), if_pos c]
      exact ⟨_, rfl, fz_step f1 (onT_t (by decide)), by rw [gi_s (by decide), g1], by rw [gi_s (by decide), g2], gn_h _ _ _ _ _, fun q => by omega⟩
    · rw [if_neg (by omega), if_neg c]
      exact ⟨_, rfl, fz_step f1 (onT_t (by decide)), by rw [gi_s (by decide), g1], by rw [gi_s (by decide), g2], gn_h _ _ _ _ _, fun q => by rw [gi_s (by decide), g5, show min (E - f) 3 = E - f by omega]⟩
  refine lpM (B := fun i M' => b_T_scanNumber_1 o M') (n := E - f) (fun i M' => fz (onT o) M M' ∧ gi M' 21 o 1 = zi (f : Nat) ∧ gi M' 21 o 2 = zi ((f + i : Nat) : Int) ∧ gi M' 21 o 5 = zi (dgV B f (min i 3))) (fun r => ∃ M', r = rV M' ∧ fz (onT o) M M' ∧ gi M' 21 o 1 = zi (f : Nat) ∧ gi M' 21 o 2 = zi (E : Nat) ∧ gn M' 21 o 3 = (if 3 < E - f then 3 else 1) ∧ (E - f ≤ 3 → gi M' 21 o 5 = zi (dgV B f (E - f)))) ?_ ?_ 0 M (Nat.zero_le _) ⟨fz_refl M, h1, h2, h5⟩
  · intro i M1 hi ⟨f1, g1, g2, g5⟩
    have hI := IN_T h f1
    have bi := hI.2.2 (f + i) (by omega)
    have li := inn (f + i) (by omega) (by omega)
    have sx := sb_lt bi.2
    have si := sb_id (Or.inr li)
    show ∃ s', _ ∧ b_T_scanNumber_1 o M1 = b_T_scanNumber_1 o s'
    rw [e_b_T_scanNumber_1, g2, hI.2.1, if_pos (zi_ltn (by omega) (by omega)), xck_n (by omega) (by decide), zi_toNat (by omega), bi.1, s_isDigit (by omega) (by omega), xret_I, xbI_r, ite_b, sx.2.2.2.1, li, if_pos rfl, g1, g2, zi_toNat (by omega), bi.1, zi_sub, zi_03, zif (by omega) (by omega) (by decide) (by decide)]
    by_cases c : i < 3
    · rw [if_pos (by omega), xck_n (by omega) (by decide)]
      refine ⟨_, ⟨fz_step (fz_step f1 (onT_t (by decide))) (onT_t (by decide)), by rw [gi_s (by decide), gi_s (by decide), g1], ?_, ?_⟩, rfl⟩
      · rw [gi_h, gi_s (by decide), g2, zi_suc, Nat.add_assoc]
      · rw [gi_s (by decide), gi_h, g5, si, show min i 3 = i by omega, show min (i + 1) 3 = i + 1 by omega, zi_10, show (48 : Int32) = zi 48 from rfl, zi_mul, zi_add, zi_sub]
        congr 1
        show _ = dgV B f i * 10 + (B (f + i) - 48)
        omega
    · rw [if_neg (by omega)]
      refine ⟨_, ⟨fz_step f1 (onT_t (by decide)), by rw [gi_s (by decide), g1], ?_, ?_⟩, rfl⟩
      · rw [gi_h, zi_suc, Nat.add_assoc]
      · rw [gi_s (by decide), g5, show min i 3 = min (i + 1) 3 by omega]
  · intro M1 ⟨f1, g1, g2, g5⟩
    have hI := IN_T h f1
    rw [show f + (E - f) = E by omega] at g2
    show ∃ M', b_T_scanNumber_1 o M1 = _ ∧ _
    by_cases c : E < n
    · have bi := hI.2.2 E c
      have li : isDg (B E) = false := by
        have := nx_at (P := isDg) (B := B) (n := n) (p := f) (by omega) (by rw [hE]; exact c)
        rw [hE] at this; exact this
      have sx := sb_lt bi.2
      rw [e_b_T_scanNumber_1, if_pos (by rw [g2, hI.2.1]; exact zi_ltn c (by omega)), g2, xck_n (by omega) (by decide), zi_toNat (by omega), bi.1, s_isDigit (by omega) (by omega), xret_I, xbI_r, ite_b, sx.2.2.2.1, li, if_neg (by decide)]
      exact fin M1 g1 g2 f1 g5
    · rw [e_b_T_scanNumber_1, if_neg (by rw [g2, hI.2.1]; exact zi_nlz (by omega) (by omega) (by omega))]
      exact fin M1 g1 g2 f1 g5
theorem s_advance {M : xM} {o : Nat} {B : Nat → Int} {n p : Nat} (h : IN M o B n) (hp : p ≤ n) (h2 : gi M 21 o 2 = zi (p : Nat)) : ∃ M', m_T_advance o M = rV M' ∧ fz (onT o) M M' ∧ TC M' o B n p := by
  have hb := tF_bd (B := B) hp
  have hn := h.1
  rw [e_m_T_advance]
  refine lpM (B := fun i M' => b_T_advance_5 o M') (n := tF B n p - p) (fun i M' => fz (onT o) M M' ∧ gi M' 21 o 1 = zi ((p + i : Nat) : Int)) (fun r => ∃ M', r = rV M' ∧ fz (onT o) M M' ∧ TC M' o B n p) ?_ ?_ 0 _ (Nat.zero_le _) ⟨fz_st (onT_t (by decide)), by rw [gi_h, h2]; rfl⟩
  · intro i M1 hi ⟨f1, g1⟩
    have hI := IN_T h f1
    have bi := hI.2.2 (p + i) (by omega)
    have li : isSp (B (p + i)) = true := nx_in (P := isSp) (n := n) (p := p) (by omega) (by unfold tF at hi; omega)
    have sx := sb_lt bi.2
    refine ⟨xst M1 21 o 1 (.int (zi ((p + (i + 1) : Nat) : Int))), ⟨fz_step f1 (onT_t (by decide)), gi_h _ _ _ _ _⟩, ?_⟩
    show b_T_advance_5 o M1 = b_T_advance_5 o _
    rw [e_b_T_advance_5, if_pos (by rw [g1, hI.2.1]; exact zi_ltn (by omega) (by omega)), g1, xck_n (by omega) (by decide), zi_toNat (by omega), bi.1, s_isSep (by omega) (by omega), xbI_r, ite_b, sx.2.2.2.2.1, li, if_pos rfl, g1, zi_suc]
    rfl
  · intro M1 ⟨f1, g1⟩
    have hI := IN_T h f1
    rw [show p + (tF B n p - p) = tF B n p by omega] at g1
    show ∃ M', b_T_advance_5 o M1 = _ ∧ _
    by_cases c : tF B n p < n
    · have bi := hI.2.2 _ c
      have li : isSp (B (tF B n p)) = false := nx_at (P := isSp) hp c
      have sx := sb_lt bi.2
      have f2 : fz (onT o) M (xst (xst (xst M1 21 o 2 (.int (zi (tF B n p : Nat)))) 21 o 4 (.long 0)) 21 o 5 (.int 0)) := fz_step (fz_step (fz_step f1 (onT_t (by decide))) (onT_t (by decide))) (onT_t (by decide))
      have hI2 := IN_T h f2
      have k1 : gi (xst (xst (xst M1 21 o 2 (.int (zi (tF B n p : Nat)))) 21 o 4 (.long 0)) 21 o 5 (.int 0)) 21 o 1 = zi (tF B n p : Nat) := by rw [gi_s (by decide), gi_s (by decide), gi_s (by decide), g1]
      have k2 : gi (xst (xst (xst M1 21 o 2 (.int (zi (tF B n p : Nat)))) 21 o 4 (.long 0)) 21 o 5 (.int 0)) 21 o 2 = zi (tF B n p : Nat) := by rw [gi_s (by decide), gi_s (by decide), gi_h]
      have k4 : gl (xst (xst (xst M1 21 o 2 (.int (zi (tF B n p : Nat)))) 21 o 4 (.long 0)) 21 o 5 (.int 0)) 21 o 4 = 0 := by rw [gl_s (by decide), gl_h]
      have k5 : gi (xst (xst (xst M1 21 o 2 (.int (zi (tF B n p : Nat)))) 21 o 4 (.long 0)) 21 o 5 (.int 0)) 21 o 5 = 0 := gi_h _ _ _ _ _
      have k20 := (hI2.2.2 _ c).1
      rw [e_b_T_advance_5, if_pos (by rw [g1, hI.2.1]; exact zi_ltn c (by omega)), g1, xck_n (by omega) (by decide), zi_toNat (by omega), bi.1, s_isSep (by omega) (by omega), xbI_r, ite_b, sx.2.2.2.2.1, li, if_neg (by decide), g1, k1, if_pos (by rw [hI.2.1]; exact zi_ltn c (by omega)), xck_n (by omega) (by decide), zi_toNat (by omega), bi.1, s_isLetter (by omega) (by omega), xret_I, xbI_r, ite_b, sx.2.2.1]
      generalize (xst (xst (xst M1 21 o 2 (.int (zi (tF B n p : Nat)))) 21 o 4 (.long 0)) 21 o 5 (.int 0)) = M2 at f2 hI2 k1 k2 k4 k5 k20 ⊢
      cases hl : isLt (B (tF B n p)) with
      | true =>
        obtain ⟨M3, e3, f3, a1, a2, a3, a4⟩ := s_scanW hI2 c k1 k2 k4
        have eE : tE B n p = nx isLt B n (tF B n p) := by unfold tE; rw [if_neg (by omega), if_pos hl]
        have eT : tT B n p = if 8 < nx isLt B n (tF B n p) - tF B n p then 3 else 0 := by unfold tT; rw [if_neg (by omega), if_pos hl]
        refine ⟨M3, by rw [if_pos rfl, e3, xbV_r], fz_trans f2 f3, hp, a1, by rw [eE]; exact a2, by rw [eT]; exact a3, fun q => ?_, fun q => ?_⟩
        · rw [eE]
          refine a4 ?_
          rw [eT] at q
          by_cases z : 8 < nx isLt B n (tF B n p) - tF B n p
          · rw [if_pos z] at q; omega
          · omega
        · rw [eT] at q
          split at q <;> omega
      | false =>
        rw [if_neg (by decide), k1, xck_n (by omega) (by decide), zi_toNat (by omega), k20, s_isDigit (by omega) (by omega), xret_I, xbI_r, ite_b, sx.2.2.2.1]
        cases hg : isDg (B (tF B n p)) with
        | true =>
          obtain ⟨M3, e3, f3, a1, a2, a3, a4⟩ := s_scanN hI2 c k1 k2 k5
          have eE : tE B n p = nx isDg B n (tF B n p) := by unfold tE; rw [if_neg (by omega), hl, if_neg (by decide), if_pos hg]
          have eT : tT B n p = if 3 < nx isDg B n (tF B n p) - tF B n p then 3 else 1 := by unfold tT; rw [if_neg (by omega), hl, if_neg (by decide), if_pos hg]
          refine ⟨M3, by rw [if_pos rfl, e3, xbV_r], fz_trans f2 f3, hp, a1, by rw [eE]; exact a2, by rw [eT]; exact a3, fun q => ?_, fun q => ?_⟩
          · rw [eT] at q
            split at q <;> omega
          · rw [eE]
            refine a4 ?_
            rw [eT] at q
            by_cases z : 3 < nx isDg B n (tF B n p) - tF B n p
            · rw [if_pos z] at q; omega
            · omega
        | false =>
          have eE : tE B n p = tF B n p + 1 := by unfold tE; rw [if_neg (by omega), hl, if_neg (by decide), hg, if_neg (by decide)]
          have eT : tT B n p = if B (tF B n p) = 59 then 2 else 3 := by unfold tT; rw [if_neg (by omega), hl, if_neg (by decide), hg, if_neg (by decide)]
          rw [if_neg (by decide), k1, xck_n (by omega) (by decide), zi_toNat (by omega), k20, show (59 : Int32) = zi 59 from rfl, zife (by omega) (by omega) (by decide) (by decide)]
          by_cases q : B (tF B n p) = 59
          · rw [if_pos (sx.2.2.2.2.2.mpr q), gi_s (by decide), k1, zi_suc]
            refine ⟨_, rfl, fz_step (fz_step f2 (onT_t (by decide))) (onT_t (by decide)), hp, by rw [gi_s (by decide), gi_s (by decide), k1], by rw [eE, gi_h], by rw [eT, if_pos q, gn_s (by decide), gn_h], fun z => ?_, fun z => ?_⟩
            · rw [eT, if_pos q] at z; omega
            · rw [eT, if_pos q] at z; omega
          · rw [if_neg (fun z => q (sx.2.2.2.2.2.mp z)), gi_s (by decide), k1, zi_suc]
            refine ⟨_, rfl, fz_step (fz_step f2 (onT_t (by decide))) (onT_t (by decide)), hp, by rw [gi_s (by decide), gi_s (by decide), k1], by rw [eE, gi_h], by rw [eT, if_neg q, gn_s (by decide), gn_h], fun z => ?_, fun z => ?_⟩
            · rw [eT, if_neg q] at z; omega
            · rw [eT, if_neg q] at z; omega
    · have e : tF B n p = n := by omega
      have eE : tE B n p = tF B n p := by unfold tE; rw [if_pos (by omega)]
      have eT : tT B n p = 4 := by unfold tT; rw [if_pos (by omega)]
      have no : ¬ (zi (tF B n p : Nat) < gi M1 19 o 1) := by
        rw [hI.2.1]; exact zi_nlz (by omega) (by omega) (by omega)
      rw [e_b_T_advance_5, if_neg (by rw [g1]; exact no), if_neg (by rw [gi_s (by decide), gi_s (by decide), gi_s (by decide), g1]; exact no), g1]
      refine ⟨_, rfl, fz_step (fz_step (fz_step (fz_step f1 (onT_t (by decide))) (onT_t (by decide))) (onT_t (by decide))) (onT_t (by decide)), hp, ?_, ?_, by rw [eT, gn_h], fun z => ?_, fun z => ?_⟩
      · rw [gi_s (by decide), gi_s (by decide), gi_s (by decide), gi_s (by decide), g1]
      · rw [gi_s (by decide), gi_s (by decide), gi_s (by decide), gi_h, eE]
      · rw [eT] at z; omega
      · rw [eT] at z; omega
