/-! what calls of the class stand on: out of parts 72-86 of whole -/
theorem fr_fz {K : Nat → Nat → Bool} {M M' : xM} (h : fr K M M') : fz (fun k o _ => K k o) M M' := fun k o s q => h k o s q
theorem xgdF_eq {M M' : xM} (h : ∀ k o f, 200 ≤ k → gn M' k o f = gn M k o f) (k o : Nat) : ∀ (L : List (Nat × Nat × Nat)) (f : Nat), xgdF M' k o L f = xgdF M k o L f := by
  intro L
  induction L with
  | nil => intro f; rfl
  | cons q r ih =>
    intro f
    obtain ⟨t, q2⟩ := q
    unfold xgdF
    rw [ih (f + 1), h (200 + k) o f (by omega)]
theorem xgdA_eq {M M' : xM} (h : ∀ k o f, 200 ≤ k → gn M' k o f = gn M k o f) (k o : Nat) : ∀ n, xgdA M' k o n = xgdA M k o n := by
  intro n
  induction n with
  | zero => rfl
  | succ n ih =>
    unfold xgdA
    rw [ih, h (200 + k) o n (by omega)]
theorem xgood_eq {M M' : xM} (L : List (Nat × Nat)) (h1 : ∀ k, gn M' 101 k 0 = gn M 101 k 0) (h : ∀ k o f, 200 ≤ k → gn M' k o f = gn M k o f) : xgood L M' = xgood L M := by
  unfold xgood
  congr 1
  funext q
  rw [h1, xgdF_eq h, xgdA_eq h]
/-- the class's own scratch -/
def onYc (k o : Nat) : Bool := onS k o || onP 0 k o
theorem onYc_i {k o : Nat} (h : onYc k o = true) : o = 0 ∧ 2 ≤ k ∧ k ≤ 16 := by
  unfold onYc onS onP at h
  rw [Bool.or_eq_true, Bool.and_eq_true, Bool.and_eq_true, Bool.and_eq_true, Bool.and_eq_true, decide_eq_true_iff, decide_eq_true_iff, Nat.ble_eq, Nat.ble_eq] at h
  rcases h with ⟨h1, h2⟩ | ⟨h1, h2⟩
  · exact ⟨Nat.eq_of_beq_eq_true h2, by omega, h1.2⟩
  · exact ⟨Nat.eq_of_beq_eq_true h2, h1.1, by omega⟩
theorem Yc_S {M M' : xM} (f : fr onS M M') : fr onYc M M' := fr_mono (fun k o h => by unfold onYc; rw [h]; rfl) f
theorem Yc_P {M M' : xM} (f : fr (onP 0) M M') : fr onYc M M' := fr_mono (fun k o h => by unfold onYc; rw [h, Bool.or_true]) f
theorem Yc_D {M M' : xM} (f : fr onD M M') : fr onYc M M' := Yc_S (fr_mono (fun k o h => by
  unfold onD at h
  unfold onS
  rw [Bool.and_eq_true, Bool.and_eq_true, decide_eq_true_iff, decide_eq_true_iff] at h
  rw [h.2, decide_eq_true h.1.1, decide_eq_true (show k ≤ 16 by omega)]; rfl) f)
theorem s_reqT {M : xM} {b : Nat → Int} (h : CP M 9 b) {x : Int} (h1 : -2147483648 ≤ x) (h2 : x < 2147483648) : m_C_requireTask 0 (zi x) M = if 0 ≤ x ∧ x < nT b then rV M else rE 2 (xbump M 1 6) := by
  rw [e_m_C_requireTask, s_hasTask h h1 h2, xbI_r, ite_b]
  by_cases c : 0 ≤ x ∧ x < nT b
  · rw [decide_eq_true c, if_pos rfl, if_pos c]
  · rw [decide_eq_false c, if_neg (by decide), if_neg c]
theorem s_reqR {M : xM} {b : Nat → Int} (h : CP M 9 b) {x : Int} (h1 : -2147483648 ≤ x) (h2 : x < 2147483648) : m_C_requireResource 0 (zi x) M = if 0 ≤ x ∧ x < nR b then rV M else rE 2 (xbump M 1 6) := by
  rw [e_m_C_requireResource, s_hasRes h h1 h2, xbI_r, ite_b]
  by_cases c : 0 ≤ x ∧ x < nR b
  · rw [decide_eq_true c, if_pos rfl, if_pos c]
  · rw [decide_eq_false c, if_neg (by decide), if_neg c]
theorem CP_Yc {M M' : xM} {b : Nat → Int} (h : CP M 9 b) (f : fr onYc M M') : CP M' 9 b := CP_fz h (fr_fz f) (fun k s _ _ => by
  show onYc k 9 = false
  cases e : onYc k 9 with
  | true => have := (onYc_i e).1; omega
  | false => rfl)
theorem bL_out {b : Nat → Int} (hl : wL b) {f t : Nat} (hf : f < 12) (ht : t < 12) (h : nT b ≤ f ∨ nT b ≤ t) : bL b f t = false := by
  unfold bL
  refine decide_eq_false (fun q => ?_)
  have := (hl f t hf ht).2 q
  omega
theorem wF_rule {b : Nat → Int} (hw : wF b) (hr : nR b ≤ 3) {v : Int} (hv : 0 ≤ v ∧ v ≤ 3) : wF (upI b 0 v) := wF_up hw ⟨by omega, by omega⟩ (by omega) (fun q => hv) (fun s hs => by omega) (fun r hr => by omega) (fun s hs q => by omega) (fun s hs q => by omega) (fun s r2 hs hr2 q2 => by omega) (fun r2 hr2 q3 => by omega)
theorem wF_dur {b : Nat → Int} (hw : wF b) (hr : nR b ≤ 3) {t : Nat} (ht : t < nT b) {v : Int} (hv : 1 ≤ v ∧ v ≤ 30) : wF (upI b (35 + 12 * t) v) := by
  have hn := wS_n hw.1
  exact wF_up hw ⟨by omega, by omega⟩ (by omega) (fun q => by omega) (fun s hs => by omega) (fun r hr => by omega) (fun s hs q => hv) (fun s hs q => by omega) (fun s r hs hr q => by omega) (fun r hr q => by omega)
theorem s_lenRule {M : xM} {b : Nat → Int} (h : CP M 9 b) (hw : wF b) {k : Int} (hk : 0 ≤ k ∧ k ≤ 3) : ∃ M1, m_C_lengthWithRule 0 (zi k) M = rI (zi (mkB (upI b 0 k))) M1 ∧ fr onYc M M1 ∧ CP M1 9 b := by
  have hr := CP_r h
  obtain ⟨M1, e1, f1, c1⟩ := s_copy M (p := 9) (q := 0) (by decide)
  have c2 := CP_up0 (c1 b h) hw k
  have hw2 := wF_rule hw hr hk
  obtain ⟨M2, e2, f2, d2⟩ := s_build c2 hw2.1 hw2.2.1
  have f : fr onYc M M2 := fr_trans (Yc_P (fr_trans f1 (fr_st rfl))) (Yc_S f2)
  exact ⟨M2, by rw [e_m_C_lengthWithRule, e1, xbV_r, e2, xbV_r, d2.2.2.2], f, CP_Yc h f⟩
theorem s_reqDur {M : xM} {x : Int} (h1 : -2147483648 ≤ x) (h2 : x < 2147483648) : m_C_requireDuration (zi x) M = if 1 ≤ x ∧ x ≤ 30 then rV M else rE 1 (xbump M 1 6) := by
  rw [e_m_C_requireDuration, zi_01, zi_30, zif h1 h2 (by decide) (by decide), zif (by decide) (by decide) h1 h2]
  by_cases c1 : x < 1
  · rw [if_pos c1, if_neg (by omega)]
  · rw [if_neg c1]
    by_cases c2 : 30 < x
    · rw [if_pos c2, if_neg (by omega)]
    · rw [if_neg c2, if_pos (by omega)]
/-- the class remembers -/
def onCH (p k o s : Nat) : Bool := (Nat.beq k 17 && (Nat.beq o 0 && (Nat.beq s 1 || Nat.beq s 2))) || onP p k o
def CH (M A : xM) : Prop := ∃ c w : Nat, c ≤ 6 ∧ w < 6 ∧ gi M 17 0 2 = zi c ∧ gi M 17 0 1 = zi w ∧ gi A 17 0 2 = zi (if c = 6 then 6 else c + 1 : Nat) ∧ gi A 17 0 1 = zi ((w + 1) % 6 : Nat) ∧ fz (onCH ((w + 1) % 6 + 1)) M A ∧ ∀ b, CP M 9 b → CP A ((w + 1) % 6 + 1) b
theorem CH_17 {p : Nat} {M : xM} {s : Nat} {v : Value} (h : s = 1 ∨ s = 2) : fz (onCH p) M (xst M 17 0 s v) := by
  rcases h with rfl | rfl <;> exact fz_st rfl
theorem CH_P {p : Nat} {M M' : xM} (f : fr (onP p) M M') : fz (onCH p) M M' := fz_mono (fun k o s h => by
  have h : onP p k o = true := h
  unfold onCH; rw [h, Bool.or_true]) (fr_fz f)
theorem CP_17 {M : xM} {p : Nat} {b : Nat → Int} {s : Nat} {v : Value} (h : CP M p b) : CP (xst M 17 0 s v) p b := CP_fz h (fz_st (K := fun k _ _ => Nat.beq k 17) rfl) (fun k s a c => by
  cases e : Nat.beq k 17 with
  | false => rfl
  | true => have := Nat.eq_of_beq_eq_true e; omega)
theorem s_remember {M : xM} {c w : Nat} (hc : c ≤ 6) (hw : w < 6) (h2 : gi M 17 0 2 = zi c) (h1 : gi M 17 0 1 = zi w) : ∃ A, m_H_remember 0 9 M = rV A ∧ CH M A := by
  have min6 : ∀ A : xM, m_JM_min (zi c + 1) 6 A = rI (zi (if c = 6 then 6 else c + 1 : Nat)) A := fun A => by
    rw [zi_01, zi_add, zi_06, s_min _ _ (by omega) (by omega) (by decide) (by decide)]
    refine congrArg (fun z => rI (zi z) A) ?_
    unfold imn
    split <;> split <;> omega
  rw [e_m_H_remember, h1, zi_01, zi_add, zi_06, zif (by omega) (by omega) (by decide) (by decide)]
  by_cases e : w + 1 < 6
  · have ew : (w + 1) % 6 = w + 1 := Nat.mod_eq_of_lt e
    obtain ⟨A, ea, fa, ca⟩ := s_copy (xst M 17 0 1 (.int (zi ((w : Int) + 1)))) (p := 9) (q := w + 1 + 1) (by omega)
    have a2 : gi A 17 0 2 = zi c := (fr_gi fa (onP_k (by omega)) 2).trans ((gi_s (by decide)).trans h2)
    have a1 : gi A 17 0 1 = zi ((w : Int) + 1) := (fr_gi fa (onP_k (by omega)) 1).trans (gi_h _ _ _ _ _)
    refine ⟨xst A 17 0 2 (.int (zi (if c = 6 then 6 else c + 1 : Nat))), ?_, c, w, hc, hw, h2, h1, gi_h _ _ _ _ _, ?_, ?_, fun b hb => ?_⟩
    · rw [if_pos (by omega), gi_h, show (w : Int) + 1 = ((w + 1 : Nat) : Int) by omega, xck_n (by omega) (by decide), zix (by omega), show ((w + 1 : Nat) : Int) = (w : Int) + 1 by omega, ea, xbV_r, a2, ← zi_06, ← zi_01, min6, xret_I, xbI_r]
    · rw [gi_s (by decide), a1, ew]
      exact congrArg zi (by omega)
    · rw [ew]; exact fz_trans (CH_17 (Or.inl rfl)) (fz_trans (CH_P fa) (CH_17 (Or.inr rfl)))
    · rw [ew]; exact CP_17 (ca b (CP_17 hb))
  · have ew : (w + 1) % 6 = 0 := by omega
    obtain ⟨A, ea, fa, ca⟩ := s_copy (xst M 17 0 1 (.int 0)) (p := 9) (q := 0 + 1) (by omega)
    have a2 : gi A 17 0 2 = zi c := (fr_gi fa (onP_k (by omega)) 2).trans ((gi_s (by decide)).trans h2)
    have a1 : gi A 17 0 1 = 0 := (fr_gi fa (onP_k (by omega)) 1).trans (gi_h _ _ _ _ _)
    refine ⟨xst A 17 0 2 (.int (zi (if c = 6 then 6 else c + 1 : Nat))), ?_, c, w, hc, hw, h2, h1, gi_h _ _ _ _ _, ?_, ?_, fun b hb => ?_⟩
    · rw [if_neg (by omega), gi_h, show xck 0 6 _ = _ from if_neg (by decide), ix_0, ea, xbV_r, a2, ← zi_06, ← zi_01, min6, xret_I, xbI_r]
    · rw [gi_s (by decide), a1, ew]; rfl
    · rw [ew]; exact fz_trans (CH_17 (Or.inl rfl)) (fz_trans (CH_P fa) (CH_17 (Or.inr rfl)))
    · rw [ew]; exact CP_17 (ca b (CP_17 hb))
theorem onCH_f {p k o s : Nat} (h : k ≠ 17) (h2 : k < 2 ∨ 9 < k ∨ o ≠ p) : onCH p k o s = false := by
  unfold onCH
  rw [onP_k h2, Bool.or_false]
  cases e : Nat.beq k 17 with
  | false => rfl
  | true => exact absurd (Nat.eq_of_beq_eq_true e) h
theorem CH_CP {M A : xM} {b : Nat → Int} (h : CH M A) (hP : CP M 9 b) : CP A 9 b := by
  obtain ⟨c, w, _, hw, _, _, _, _, f, _⟩ := h
  exact CP_fz hP f (fun k s a d => onCH_f (by omega) (by omega))
theorem wF_rel {b : Nat → Int} (hw : wF b) (hr : nR b ≤ 3) {t : Nat} (ht : t < nT b) {v : Int} (hv : 0 ≤ v ∧ v ≤ 99) : wF (upI b (36 + 12 * t) v) := by
  have hn := wS_n hw.1
  exact wF_up hw ⟨by omega, by omega⟩ (by omega) (fun q => by omega) (fun s hs => by omega) (fun r hr => by omega) (fun s hs q => by omega) (fun s hs q => hv) (fun s r hs hr q => by omega) (fun r hr q => by omega)
theorem wF_dem {b : Nat → Int} (hw : wF b) (hr : nR b ≤ 3) {t r : Nat} (ht : t < nT b) (hr0 : r < nR b) {v : Int} (hv : 0 ≤ v ∧ v ≤ bC b r) : wF (upI b (37 + 12 * t + r) v) := by
  have hn := wS_n hw.1
  refine wF_up hw ⟨by omega, by omega⟩ (by omega) (fun q => by omega) (fun s hs => by omega) (fun r hr => by omega) (fun s hs q => by omega) (fun s hs q => by omega) (fun s r2 hs hr2 q2 => ?_) (fun r hr q => by omega)
  have : r2 = r := by omega
  subst this
  exact hv
theorem xgd_t {b : Bool} (h : b = true) (k : xR) : xgd b k = k := by rw [h]; rfl
