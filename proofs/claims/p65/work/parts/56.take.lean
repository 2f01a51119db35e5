/-! what is taken: the class's half of part 56 of whole -/
def wdE (B : Nat → Int) (f k lit : Nat) : Bool := decide (k = cN lit) && allN (cN lit) (fun i => decide (B (f + i) = cB lit i))
def atW (B : Nat → Int) (n p lit : Nat) : Bool := decide (tT B n p = 0) && wdE B (tF B n p) (tE B n p - tF B n p) lit
def opE (B : Nat → Int) (n p lit : Nat) (room : Bool) : Nat := if atW B n p lit = true then (if room = true then 0 else 5) else 1
def numV (B : Nat → Int) (n p : Nat) : Int := dgV B (tF B n p) (tE B n p - tF B n p)
def numE (B : Nat → Int) (n p : Nat) (lo hi : Int) : Nat := if tT B n p = 1 then (if lo ≤ numV B n p ∧ numV B n p ≤ hi then 0 else 2) else 1
def semE (B : Nat → Int) (n p : Nat) : Nat := if tT B n p = 2 then 0 else 1
def newE (B : Nat → Int) (n p : Nat) (x : Int) : Nat := if tT B n p = 0 then (if tE B n p - tF B n p ≤ 6 ∧ x = -1 then 0 else 3) else 1
def knE (B : Nat → Int) (n p : Nat) (x : Int) : Nat := if tT B n p = 0 then (if x = -1 then 3 else 0) else 1
/-- all of a tokens thing -/
def on21 (t k o : Nat) (_ : Nat) : Bool := Nat.beq k 21 && Nat.beq o t
theorem on21_t {t s : Nat} : on21 t 21 t s = true := Nat.beq_refl t
theorem on21_k {t k o s : Nat} (h : k ≠ 21) : on21 t k o s = false := by
  unfold on21
  cases e : Nat.beq k 21 with
  | false => rfl
  | true => exact absurd (Nat.eq_of_beq_eq_true e) h
theorem onT_21 {t : Nat} {M M' : xM} (f : fz (onT t) M M') : fz (on21 t) M M' := fz_mono (fun k o s h => (Bool.and_eq_true_iff.mp h).1) f
/-- .. but its error -/
def on8 (t k o s : Nat) : Bool := (Nat.beq k 21 && Nat.beq o t) && Nat.blt s 8
theorem on8_t {t s : Nat} (h : s < 8) : on8 t 21 t s = true := by
  unfold on8
  rw [Nat.beq_refl t]
  exact Nat.ble_eq_true_of_le (show s + 1 ≤ 8 by omega)
theorem on8_k {t k o s : Nat} (h : k ≠ 21) : on8 t k o s = false := by
  unfold on8
  cases e : Nat.beq k 21 with
  | false => rfl
  | true => exact absurd (Nat.eq_of_beq_eq_true e) h
theorem on8_21 {t : Nat} {M M' : xM} (f : fz (on8 t) M M') : fz (on21 t) M M' := fz_mono (fun k o s h => (Bool.and_eq_true_iff.mp h).1) f
theorem onT_8 {t : Nat} {M M' : xM} (f : fz (onT t) M M') : fz (on8 t) M M' := fz_mono (fun k o s h => by
  obtain ⟨h1, h2⟩ := Bool.and_eq_true_iff.mp h
  have h2 : s < 6 := Nat.le_of_ble_eq_true h2
  unfold on8
  rw [h1]
  exact Nat.ble_eq_true_of_le (show s + 1 ≤ 8 by omega)) f
def CT (M : xM) (o : Nat) (B : Nat → Int) (n p : Nat) : Prop := IN M o B n ∧ TC M o B n p ∧ KC M
theorem KC_21 {t : Nat} {M M' : xM} (h : KC M) (f : fz (on21 t) M M') : KC M' := KC_fz h f (fun k o s q => on21_k (by omega))
theorem IN_21 {M M' : xM} {o t : Nat} {B : Nat → Int} {n : Nat} (h : IN M o B n) (f : fz (on21 t) M M') : IN M' o B n := IN_fz h f (on21_k (by decide)) (fun _ => on21_k (by decide))
/-- the class's error -/
def EC (M : xM) (o : Nat) (c : Nat) (f : Nat) : Prop := gi M 21 o 8 = zi c ∧ gi M 21 o 9 = zi f
theorem lit_tab : (List.range 4).all (fun o => decide (cN o ≤ 8) && (List.range (cN o)).all (fun i => decide (97 ≤ cB o i) && decide (cB o i ≤ 122))) = true := by decide +kernel
theorem lit_bd {o : Nat} (ho : o < 4) : cN o ≤ 8 ∧ ∀ i, i < cN o → 97 ≤ cB o i ∧ cB o i ≤ 122 := by
  have h1 := List.all_eq_true.mp lit_tab o (List.mem_range.mpr ho)
  rw [Bool.and_eq_true] at h1
  refine ⟨of_decide_eq_true h1.1, fun i hi => ?_⟩
  have h2 := List.all_eq_true.mp h1.2 i (List.mem_range.mpr hi)
  rw [Bool.and_eq_true] at h2
  exact ⟨of_decide_eq_true h2.1, of_decide_eq_true h2.2⟩
def cP (lit : Nat) : Int64 := Int64.ofNat (pkN (fun i => (cB lit i).toNat) (cN lit))
theorem s_packed {M : xM} (h : KC M) {lit : Nat} (hl : lit < 4) : m_C_packed lit M = some (.inl (some (0, .long (cP lit))), M) := by
  obtain ⟨h8, hlt⟩ := lit_bd hl
  rw [e_m_C_packed]
  refine lp (B := fun i : Nat => b_C_packed_5 lit (Int64.ofNat (pkN (fun i => (cB lit i).toNat) i)) (zi (i : Nat)) M) (n := cN lit) (fun i hi => ?_) ?_ 0 (Nat.zero_le _)
  · show b_C_packed_5 lit (Int64.ofNat (pkN _ i)) (zi (i : Nat)) M = b_C_packed_5 lit (Int64.ofNat (pkN (fun i => (cB lit i).toNat) i + (cB lit i).toNat * 256 ^ i)) (zi ((i + 1 : Nat) : Int)) M
    have b0 := hlt i hi
    have := pk_or (N := pkN (fun i => (cB lit i).toNat) i) (x := (cB lit i).toNat) (i := i) (by omega) (by omega) (pkN_lt (fun k hk => by have := hlt k (by omega); omega))
    rw [show (((cB lit i).toNat : Nat) : Int) = cB lit i by omega] at this
    rw [e_b_C_packed_5, s_strlen h (by omega), xret_I, xbI_r, if_pos (zi_ltn hi (by omega)), s_charAt h (by omega) hi, xret_I, xbI_r, zi_suc, this]
  · show b_C_packed_5 lit (Int64.ofNat (pkN _ (cN lit))) (zi (cN lit : Nat)) M = _
    rw [e_b_C_packed_5, s_strlen h (by omega), xret_I, xbI_r, if_neg (zi_irr _)]
    rfl
theorem wd_pk {B : Nat → Int} {f k lit : Nat} (hl : lit < 4) (hk : k ≤ 8) (hB : ∀ i, i < k → 97 ≤ B (f + i) ∧ B (f + i) ≤ 122) : (pw B f k = cP lit) = (wdE B f k lit = true) := by
  obtain ⟨h8, hlt⟩ := lit_bd hl
  apply propext
  unfold wdE
  rw [Bool.and_eq_true, decide_eq_true_iff, allN_iff]
  have g1 : ∀ i, i < k → 0 < (B (f + i)).toNat ∧ (B (f + i)).toNat < 256 := fun i hi => by
    have := hB i hi; omega
  have g2 : ∀ i, i < cN lit → 0 < (cB lit i).toNat ∧ (cB lit i).toNat < 256 := fun i hi => by
    have := hlt i hi; omega
  constructor
  · intro e
    have l1 := Nat.lt_of_lt_of_le (pkN_lt (fun i hi => (g1 i hi).2)) (pk8 hk)
    have l2 := Nat.lt_of_lt_of_le (pkN_lt (fun i hi => (g2 i hi).2)) (pk8 h8)
    obtain ⟨e1, e2⟩ := pkN_inj _ _ g1 g2 (i64_inj l1 l2 e)
    refine ⟨e1, fun i hi => decide_eq_true ?_⟩
    have := e2 i (by omega)
    have := hlt i hi
    have := hB i (by omega)
    omega
  · rintro ⟨e1, e2⟩
    unfold pw cP
    rw [← e1]
    congr 1
    exact pkN_congr (fun i hi => by rw [of_decide_eq_true (e2 i (by omega))])
theorem TC_w {M : xM} {o : Nat} {B : Nat → Int} {n p : Nat} (h : TC M o B n p) (q : tT B n p = 0) : gl M 21 o 4 = pw B (tF B n p) (tE B n p - tF B n p) ∧ tE B n p - tF B n p ≤ 8 ∧ ∀ i, i < tE B n p - tF B n p → 97 ≤ B (tF B n p + i) ∧ B (tF B n p + i) ≤ 122 := by
  have hw := tT_w h.1 q
  exact ⟨h.2.2.2.2.1 q, hw.2.1, fun i hi => hw.2.2 _ (by omega) (by omega)⟩
theorem s_isAt {M : xM} {o : Nat} {B : Nat → Int} {n p lit : Nat} (h : CT M o B n p) (hl : lit < 4) : m_T_isAt o lit M = rI (bz (atW B n p lit)) M := by
  obtain ⟨hI, hT, hK⟩ := h
  rw [e_m_T_isAt, hT.2.2.2.1, xnar_0, xnar_1]
  unfold atW
  by_cases c : tT B n p = 0
  · obtain ⟨w1, w2, w3⟩ := TC_w hT c
    rw [if_pos c, decide_eq_true c, Bool.true_and, s_packed hK hl, xret_v, xbL_r, w1]
    simp only [lg_z, wd_pk hl w2 w3]
    cases wdE B (tF B n p) (tE B n p - tF B n p) lit <;> rfl
  · rw [if_neg c, decide_eq_false c, Bool.false_and]
theorem s_fail {M : xM} {o f : Nat} (h : gi M 21 o 1 = zi (f : Nat)) (c : Nat) : m_T_fail o (zi c) M = rI (bz false) (xst (xst M 21 o 8 (.int (zi c))) 21 o 9 (.int (zi f))) := by
  rw [e_m_T_fail, gi_s (by decide), h, xnar_0]
theorem EC_fail {M : xM} {o f c : Nat} : EC (xst (xst M 21 o 8 (.int (zi c))) 21 o 9 (.int (zi f))) o c f := ⟨by rw [gi_s (by decide), gi_h], gi_h _ _ _ _ _⟩
theorem fz_fail {M : xM} {o f c : Nat} : fz (on21 o) M (xst (xst M 21 o 8 (.int (zi c))) 21 o 9 (.int (zi f))) := fz_step (fz_st on21_t) on21_t
theorem TC_e {M : xM} {o : Nat} {B : Nat → Int} {n p : Nat} (h : TC M o B n p) : gi M 21 o 2 = zi (tE B n p : Nat) := h.2.2.1
theorem zi_lit1 : (1 : Int32) = zi ((1 : Nat) : Int) := rfl
theorem zi_lit2 : (2 : Int32) = zi ((2 : Nat) : Int) := rfl
theorem zi_lit3 : (3 : Int32) = zi ((3 : Nat) : Int) := rfl
theorem zi_lit4 : (4 : Int32) = zi ((4 : Nat) : Int) := rfl
theorem zi_lit5 : (5 : Int32) = zi ((5 : Nat) : Int) := rfl
theorem TC_st {M : xM} {o s : Nat} {v : Value} {B : Nat → Int} {n p : Nat} (h : TC M o B n p) (hs : 6 ≤ s) : TC (xst M 21 o s v) o B n p := ⟨h.1, (gi_s (by omega)).trans h.2.1, (gi_s (by omega)).trans h.2.2.1, (gn_s (by omega)).trans h.2.2.2.1, fun q => (gl_s (by omega)).trans (h.2.2.2.2.1 q), fun q => (gi_s (by omega)).trans (h.2.2.2.2.2 q)⟩
/-- what a taking leaves: the next token, or the error -/
def tkR (o : Nat) (B : Nat → Int) (n p : Nat) (M : xM) (r : xR) (E : Nat) (Q : xM → Prop) : Prop := ∃ M', r = rI (bz (decide (E = 0))) M' ∧ fz (on21 o) M M' ∧ (E = 0 → fz (on8 o) M M' ∧ CT M' o B n (tE B n p) ∧ Q M') ∧ (E ≠ 0 → EC M' o E (tF B n p))
theorem s_adv {M : xM} {o : Nat} {B : Nat → Int} {n p : Nat} (h : CT M o B n p) : ∃ M', m_T_advance o M = rV M' ∧ fz (onT o) M M' ∧ CT M' o B n (tE B n p) := by
  obtain ⟨hI, hT, hK⟩ := h
  obtain ⟨M', e, f, t⟩ := s_advance hI (tE_bd hT.1).2 (TC_e hT)
  exact ⟨M', e, f, IN_T hI f, t, KC_21 hK (onT_21 f)⟩
theorem s_opening {M : xM} {o : Nat} {B : Nat → Int} {n p lit : Nat} (h : CT M o B n p) (hl : lit < 4) (room : Bool) : tkR o B n p M (m_T_takeOpening o lit (bz room) M) (opE B n p lit room) (fun _ => True) := by
  have hf := h.2.1.2.1
  unfold tkR
  rw [e_m_T_takeOpening, s_isAt h hl, xbI_r, ite_b]
  unfold opE
  cases c : atW B n p lit with
  | false =>
    rw [if_neg (by decide), zi_lit1, s_fail hf 1, xbI_r, xnar_b]
    exact ⟨_, rfl, fz_fail, fun q => absurd q (by simp), fun _ => EC_fail⟩
  | true =>
    rw [if_pos rfl, ite_b]
    cases room with
    | false =>
      rw [if_neg (by decide), zi_lit5, s_fail hf 5, xbI_r, xnar_b]
      exact ⟨_, rfl, fz_fail, fun q => absurd q (by decide), fun _ => EC_fail⟩
    | true =>
      obtain ⟨M', e, f, t⟩ := s_adv h
      rw [if_pos rfl, e, xbV_r, xnar_1]
      exact ⟨M', rfl, onT_21 f, fun _ => ⟨onT_8 f, t, trivial⟩, fun q => absurd rfl q⟩
theorem s_semi {M : xM} {o : Nat} {B : Nat → Int} {n p : Nat} (h : CT M o B n p) : tkR o B n p M (m_T_takeSemicolon o M) (semE B n p) (fun _ => True) := by
  have hf := h.2.1.2.1
  unfold tkR
  rw [e_m_T_takeSemicolon, h.2.1.2.2.2.1]
  unfold semE
  by_cases c : tT B n p = 2
  · obtain ⟨M', e, f, t⟩ := s_adv h
    rw [if_pos c, if_pos c, e, xbV_r, xnar_1]
    exact ⟨M', rfl, onT_21 f, fun _ => ⟨onT_8 f, t, trivial⟩, fun q => absurd rfl q⟩
  · rw [if_neg c, if_neg c, zi_lit1, s_fail hf 1, xbI_r, xnar_b]
    exact ⟨_, rfl, fz_fail, fun q => absurd q (by decide), fun _ => EC_fail⟩
theorem s_number {M : xM} {o : Nat} {B : Nat → Int} {n p : Nat} (h : CT M o B n p) {lo hi : Int} (h1 : -1000 ≤ lo ∧ lo ≤ 1000) (h2 : -1000 ≤ hi ∧ hi ≤ 1000) : tkR o B n p M (m_T_takeNumber o (zi lo) (zi hi) M) (numE B n p lo hi) (fun M' => gi M' 21 o 7 = zi (numV B n p) ∧ gl M' 21 o 6 = gl M 21 o 6) := by
  have hf := h.2.1.2.1
  unfold tkR
  rw [e_m_T_takeNumber, h.2.1.2.2.2.1]
  unfold numE
  by_cases c : tT B n p = 1
  · have v : gi M 21 o 5 = zi (numV B n p) := h.2.1.2.2.2.2.2 c
    have vb : 0 ≤ numV B n p ∧ numV B n p ≤ 999 := num_bd h.2.1.1 c
    rw [if_pos c, if_pos c, v, zif (by omega) (by omega) (by omega) (by omega), zif (by omega) (by omega) (by omega) (by omega)]
    by_cases c1 : numV B n p < lo
    · rw [if_pos c1, if_neg (by omega), zi_lit2, s_fail hf 2, xbI_r, xnar_b]
      exact ⟨_, rfl, fz_fail, fun q => absurd q (by decide), fun _ => EC_fail⟩
    · rw [if_neg c1]
      by_cases c2 : hi < numV B n p
      · rw [if_pos c2, if_neg (by omega), zi_lit2, s_fail hf 2, xbI_r, xnar_b]
        exact ⟨_, rfl, fz_fail, fun q => absurd q (by decide), fun _ => EC_fail⟩
      · have f0 : fz (on21 o) M (xst M 21 o 7 (.int (zi (numV B n p)))) := fz_st on21_t
        have h0 : CT (xst M 21 o 7 (.int (zi (numV B n p)))) o B n p := ⟨IN_21 h.1 f0, TC_st h.2.1 (by decide), KC_21 h.2.2 f0⟩
        obtain ⟨M', e, f, t⟩ := s_adv h0
        rw [if_neg c2, if_pos (by omega), e, xbV_r, xnar_1]
        exact ⟨M', rfl, fz_trans f0 (onT_21 f), fun _ => ⟨fz_trans (fz_st (on8_t (by decide))) (onT_8 f), t, (fz_gi f (onT_s (by decide))).trans (gi_h _ _ _ _ _), (fz_gl f (onT_s (by decide))).trans (gl_s (by decide))⟩, fun q => absurd rfl q⟩
  · rw [if_neg c, if_neg c, zi_lit1, s_fail hf 1, xbI_r, xnar_b]
    exact ⟨_, rfl, fz_fail, fun q => absurd q (by decide), fun _ => EC_fail⟩
theorem s_newName {M : xM} {o : Nat} {B : Nat → Int} {n p : Nat} (h : CT M o B n p) {x : Int} (hx : -1 ≤ x ∧ x ≤ 1000) : tkR o B n p M (m_T_takeNewName o (zi x) M) (newE B n p x) (fun M' => gl M' 21 o 6 = pw B (tF B n p) (tE B n p - tF B n p)) := by
  have hf := h.2.1.2.1
  have he := h.2.1.2.2.1
  have hb := tE_bd (B := B) h.2.1.1
  have hn := h.1.1
  unfold tkR
  rw [e_m_T_takeNewName, h.2.1.2.2.2.1]
  unfold newE
  by_cases c : tT B n p = 0
  · obtain ⟨w1, w2, w3⟩ := TC_w h.2.1 c
    rw [if_pos c, if_pos c, hf, he, zi_sub, zi_06, zif (by decide) (by decide) (by omega) (by omega), zi_m1, zife (by omega) (by omega) (by decide) (by decide), w1]
    by_cases c1 : tE B n p - tF B n p ≤ 6
    · rw [if_neg (by omega)]
      by_cases c2 : x = -1
      · have f0 : fz (on21 o) M (xst M 21 o 6 (.long (pw B (tF B n p) (tE B n p - tF B n p)))) := fz_st on21_t
        have h0 : CT (xst M 21 o 6 (.long (pw B (tF B n p) (tE B n p - tF B n p)))) o B n p := ⟨IN_21 h.1 f0, TC_st h.2.1 (by decide), KC_21 h.2.2 f0⟩
        obtain ⟨M', e, f, t⟩ := s_adv h0
        rw [if_pos c2, if_pos ⟨c1, c2⟩, e, xbV_r, xnar_1]
        exact ⟨M', rfl, fz_trans f0 (onT_21 f), fun _ => ⟨fz_trans (fz_st (on8_t (by decide))) (onT_8 f), t, (fz_gl f (onT_s (by decide))).trans (gl_h _ _ _ _ _)⟩, fun q => absurd rfl q⟩
      · rw [if_neg c2, if_neg (fun q => c2 q.2), zi_lit3, s_fail hf 3, xbI_r, xnar_b]
        exact ⟨_, rfl, fz_fail, fun q => absurd q (by decide), fun _ => EC_fail⟩
    · rw [if_pos (by omega), if_neg (fun q => c1 q.1), zi_lit3, s_fail hf 3, xbI_r, xnar_b]
      exact ⟨_, rfl, fz_fail, fun q => absurd q (by decide), fun _ => EC_fail⟩
  · rw [if_neg c, if_neg c, zi_lit1, s_fail hf 1, xbI_r, xnar_b]
    exact ⟨_, rfl, fz_fail, fun q => absurd q (by decide), fun _ => EC_fail⟩
/-- a look at a known name -/
theorem s_isKnown {M : xM} {o : Nat} {B : Nat → Int} {n p : Nat} (h : CT M o B n p) {x : Int} (hx : -1 ≤ x ∧ x ≤ 1000) : ∃ M', m_T_isAtKnownName o (zi x) M = rI (bz (decide (knE B n p x = 0))) M' ∧ fz (on21 o) M M' ∧ (knE B n p x = 0 → M' = M) ∧ (knE B n p x ≠ 0 → EC M' o (knE B n p x) (tF B n p)) := by
  have hf := h.2.1.2.1
  rw [e_m_T_isAtKnownName, h.2.1.2.2.2.1, zi_m1, zife (by omega) (by omega) (by decide) (by decide)]
  unfold knE
  by_cases c : tT B n p = 0
  · rw [if_pos c, if_pos c]
    by_cases c2 : x = -1
    · rw [if_pos c2, if_pos c2, zi_lit3, s_fail hf 3, xbI_r, ite_b, if_neg (by decide), xnar_0]
      exact ⟨_, rfl, fz_fail, fun q => absurd q (by decide), fun _ => EC_fail⟩
    · rw [if_neg c2, if_neg c2, xnar_1]
      exact ⟨M, rfl, fz_refl M, fun _ => rfl, fun q => absurd rfl q⟩
  · rw [if_neg c, if_neg c, zi_lit1, s_fail hf 1, xbI_r, xnar_b]
    exact ⟨_, rfl, fz_fail, fun q => absurd q (by decide), fun _ => EC_fail⟩
theorem numE_ok {B : Nat → Int} {n p : Nat} {lo hi : Int} (h : numE B n p lo hi = 0) : lo ≤ numV B n p ∧ numV B n p ≤ hi := by
  unfold numE at h
  split at h
  · split at h
    · assumption
    · omega
  · omega
