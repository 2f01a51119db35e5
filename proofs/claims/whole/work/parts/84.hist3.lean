/-! what is remembered: the class -/
/-- the class remembers -/
def onCH (p k o s : Nat) : Bool := (Nat.beq k 17 && (Nat.beq o 0 && (Nat.beq s 1 || Nat.beq s 2))) || onP p k o
def CH (M A : xM) : Prop := ∃ c w : Nat, c ≤ 6 ∧ w < 6 ∧ gi M 17 0 2 = zi c ∧ gi M 17 0 1 = zi w ∧ gi A 17 0 2 = zi (if c = 6 then 6 else c + 1 : Nat) ∧ gi A 17 0 1 = zi ((w + 1) % 6 : Nat) ∧ fz (onCH ((w + 1) % 6 + 1)) M A ∧ ∀ b, CP M 9 b → CP A ((w + 1) % 6 + 1) b
theorem CH_17 {p : Nat} {M : xM} {s : Nat} {v : Value} (h : s = 1 ∨ s = 2) : fz (onCH p) M (xst M 17 0 s v) := by
  rcases h with rfl | rfl <;> exact fz_st rfl
theorem CH_P {p : Nat} {M M' : xM} (f : fr (onP p) M M') : fz (onCH p) M M' := fz_mono (fun k o s h => by
  have h : onP p k o = true := h
  unfold onCH; rw [h, Bool.or_true]) (fr_fz f)
theorem CP_17 {M : xM} {p : Nat} {b : Nat → Int} {s : Nat} {v : Value} (h : CP M p b) : CP (xst M 17 0 s v) p b := CP_fz h (fz_st (K := fun k _ _ => Nat.beq k 17) rfl) (fun k s a c => by
  cases e : Nat.beq k 17 with
  | false => rfl
  | true => have := Nat.eq_of_beq_eq_true e; omega)
theorem s_remember {M : xM} {c w : Nat} (hc : c ≤ 6) (hw : w < 6) (h2 : gi M 17 0 2 = zi c) (h1 : gi M 17 0 1 = zi w) : ∃ A, m_H_remember 0 9 M = rV A ∧ CH M A := by
  have min6 : ∀ A : xM, m_JM_min (zi c + 1) 6 A = rI (zi (if c = 6 then 6 else c + 1 : Nat)) A := fun A => by
    rw [zi_01, zi_add, zi_06, s_min _ _ (by omega) (by omega) (by decide) (by decide)]
    refine congrArg (fun z => rI (zi z) A) ?_
    unfold imn
    split <;> split <;> omega
  rw [e_m_H_remember, h1, zi_01, zi_add, zi_06, zif (by omega) (by omega) (by decide) (by decide)]
  by_cases e : w + 1 < 6
  · have ew : (w + 1) % 6 = w + 1 := Nat.mod_eq_of_lt e
    obtain ⟨A, ea, fa, ca⟩ := s_copy (xst M 17 0 1 (.int (zi ((w : Int) + 1)))) (p := 9) (q := w + 1 + 1) (by omega)
    have a2 : gi A 17 0 2 = zi c := (fr_gi fa (onP_k (by omega)) 2).trans ((gi_s (by decide)).trans h2)
    have a1 : gi A 17 0 1 = zi ((w : Int) + 1) := (fr_gi fa (onP_k (by omega)) 1).trans (gi_h _ _ _ _ _)
    refine ⟨xst A 17 0 2 (.int (zi (if c = 6 then 6 else c + 1 : Nat))), ?_, c, w, hc, hw, h2, h1, gi_h _ _ _ _ _, ?_, ?_, fun b hb => ?_⟩
    · rw [if_pos (by omega), gi_h, show (w : Int) + 1 = ((w + 1 : Nat) : Int) by omega, xck_n (by omega) (by decide), zix (by omega), show ((w + 1 : Nat) : Int) = (w : Int) + 1 by omega, ea, xbV_r, a2, ← zi_06, ← zi_01, min6, xret_I, xbI_r]
    · rw [gi_s (by decide), a1, ew]
      exact congrArg zi (by omega)
    · rw [ew]; exact fz_trans (CH_17 (Or.inl rfl)) (fz_trans (CH_P fa) (CH_17 (Or.inr rfl)))
    · rw [ew]; exact CP_17 (ca b (CP_17 hb))
  · have ew : (w + 1) % 6 = 0 := by omega
    obtain ⟨A, ea, fa, ca⟩ := s_copy (xst M 17 0 1 (.int 0)) (p := 9) (q := 0 + 1) (by omega)
    have a2 : gi A 17 0 2 = zi c := (fr_gi fa (onP_k (by omega)) 2).trans ((gi_s (by decide)).trans h2)
    have a1 : gi A 17 0 1 = 0 := (fr_gi fa (onP_k (by omega)) 1).trans (gi_h _ _ _ _ _)
    refine ⟨xst A 17 0 2 (.int (zi (if c = 6 then 6 else c + 1 : Nat))), ?_, c, w, hc, hw, h2, h1, gi_h _ _ _ _ _, ?_, ?_, fun b hb => ?_⟩
    · rw [if_neg (by omega), gi_h, show xck 0 6 _ = _ from if_neg (by decide), ix_0, ea, xbV_r, a2, ← zi_06, ← zi_01, min6, xret_I, xbI_r]
    · rw [gi_s (by decide), a1, ew]; rfl
    · rw [ew]; exact fz_trans (CH_17 (Or.inl rfl)) (fz_trans (CH_P fa) (CH_17 (Or.inr rfl)))
    · rw [ew]; exact CP_17 (ca b (CP_17 hb))
def RH (N N1 : xM) : Prop := ∃ c c' : Nat, c ≤ 6 ∧ gi N 27 0 2 = zi c ∧ fz onH N N1 ∧ c' = (if c = 6 then 6 else c + 1) ∧ gi N1 27 0 2 = zi (c' : Nat) ∧ bk N1 c' = bk N 0 ∧ ∀ j, 1 ≤ j → j < c' → bk N1 (c' - j) = bk N (c - (j - 1))
theorem onCH_f {p k o s : Nat} (h : k ≠ 17) (h2 : k < 2 ∨ 9 < k ∨ o ≠ p) : onCH p k o s = false := by
  unfold onCH
  rw [onP_k h2, Bool.or_false]
  cases e : Nat.beq k 17 with
  | false => rfl
  | true => exact absurd (Nat.eq_of_beq_eq_true e) h
