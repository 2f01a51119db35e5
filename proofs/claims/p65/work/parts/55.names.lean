/-! names, constants: the class's half of part 55 of whole -/
theorem ite_z1 {α : Type} (a c : α) : (if (1 : Int32) = 0 then a else c) = c := if_neg (by decide)
def fnd (P : Nat → Bool) (n : Nat) : Int := if fstN P n < n then ((fstN P n : Nat) : Int) else -1
theorem fstN_congr {P Q : Nat → Bool} {n : Nat} (h : ∀ i, i < n → P i = Q i) : fstN P n = fstN Q n := by
  induction n with
  | zero => rfl
  | succ n ih =>
    show (if fstN P n < n then fstN P n else if P n = true then n else n + 1) = (if fstN Q n < n then fstN Q n else if Q n = true then n else n + 1)
    rw [ih (fun i hi => h i (by omega)), h n (by omega)]
theorem fnd_congr {P Q : Nat → Bool} {n : Nat} (h : ∀ i, i < n → P i = Q i) : fnd P n = fnd Q n := by
  unfold fnd
  rw [fstN_congr h]
theorem fnd_bd (P : Nat → Bool) (n : Nat) : -1 ≤ fnd P n ∧ fnd P n < n := by
  unfold fnd
  split <;> omega
theorem fnd_ok {P : Nat → Bool} {n : Nat} (h : fnd P n ≠ -1) : ∃ i, i < n ∧ fnd P n = (i : Nat) ∧ P i = true := by
  unfold fnd at h ⊢
  by_cases c : fstN P n < n
  · rw [if_pos c]
    exact ⟨fstN P n, c, rfl, fstN_yes c⟩
  · rw [if_neg c] at h; exact absurd rfl h
theorem fnd_no {P : Nat → Bool} {n : Nat} (h : fnd P n = -1) : ∀ i, i < n → P i = false := by
  intro i hi
  unfold fnd at h
  by_cases c : fstN P n < n
  · rw [if_pos c] at h; omega
  · cases e : P i with
    | false => rfl
    | true => exact absurd (fstN_ex hi e) c
theorem s_taskNamed {M : xM} {p : Nat} {b : Nat → Int} (h : CP M p b) (w : Int64) : m_P_taskNamed p w M = rI (zi (fnd (fun t => decide (pk b (28 + 12 * t) = w)) (nT b))) M := by
  have hn := CP_n h
  rw [e_m_P_taskNamed]
  have := lpx (B := fun i : Nat => b_P_taskNamed_3 p w (zi (i : Nat)) M) (n := nT b) (fun t => !decide (pk b (28 + 12 * t) = w)) (fun i => rI (zi (i : Nat)) M) (R2 := rI (zi (-1)) M) (fun i hi hok => ?_) (fun i hi hok => ?_) ?_
  · simp only [Bool.not_not] at this
    refine Eq.trans this ?_
    unfold fnd
    split <;> rfl
  · show b_P_taskNamed_3 p w (zi (i : Nat)) M = _
    have hok : ¬ pk b (28 + 12 * i) = w := by simpa using hok
    rw [e_b_P_taskNamed_3, CP_T h, if_pos (zi_ltn hi (by omega)), xck_n (by omega) (by decide), zix (by omega), CP_N h hi, if_neg (fun q => hok (lg_z.mp q)), zi_suc]
  · show b_P_taskNamed_3 p w (zi (i : Nat)) M = _
    have hok : pk b (28 + 12 * i) = w := by simpa using hok
    rw [e_b_P_taskNamed_3, CP_T h, if_pos (zi_ltn hi (by omega)), xck_n (by omega) (by decide), zix (by omega), CP_N h hi, if_pos (lg_z.mpr hok)]
  · show b_P_taskNamed_3 p w (zi (nT b : Nat)) M = _
    rw [e_b_P_taskNamed_3, CP_T h, if_neg (zi_irr _)]
    rfl
theorem s_resNamed {M : xM} {p : Nat} {b : Nat → Int} (h : CP M p b) (w : Int64) : m_P_resourceNamed p w M = rI (zi (fnd (fun r => decide (pk b (4 + 8 * r) = w)) (nR b))) M := by
  have hn := CP_r h
  rw [e_m_P_resourceNamed]
  have := lpx (B := fun i : Nat => b_P_resourceNamed_3 p w (zi (i : Nat)) M) (n := nR b) (fun t => !decide (pk b (4 + 8 * t) = w)) (fun i => rI (zi (i : Nat)) M) (R2 := rI (zi (-1)) M) (fun i hi hok => ?_) (fun i hi hok => ?_) ?_
  · simp only [Bool.not_not] at this
    refine Eq.trans this ?_
    unfold fnd
    split <;> rfl
  · show b_P_resourceNamed_3 p w (zi (i : Nat)) M = _
    have hok : ¬ pk b (4 + 8 * i) = w := by simpa using hok
    rw [e_b_P_resourceNamed_3, CP_R h, if_pos (zi_ltn hi (by omega)), xck_n (by omega) (by decide), zix (by omega), CP_M h hi, if_neg (fun q => hok (lg_z.mp q)), zi_suc]
  · show b_P_resourceNamed_3 p w (zi (i : Nat)) M = _
    have hok : pk b (4 + 8 * i) = w := by simpa using hok
    rw [e_b_P_resourceNamed_3, CP_R h, if_pos (zi_ltn hi (by omega)), xck_n (by omega) (by decide), zix (by omega), CP_M h hi, if_pos (lg_z.mpr hok)]
  · show b_P_resourceNamed_3 p w (zi (nR b : Nat)) M = _
    rw [e_b_P_resourceNamed_3, CP_R h, if_neg (zi_irr _)]
    rfl
def nmE (b : Nat → Int) (a : Nat) (B : Nat → Int) (f k : Nat) : Bool := decide (b a = k) && allN k (fun i => decide (b (a + 1 + i) = B (f + i)))
/-- tasks and resources of a block that may still grow -/
def wN (b : Nat → Int) : Prop := (0 ≤ b 2 ∧ b 2 ≤ 12) ∧ (0 ≤ b 1 ∧ b 1 ≤ 3) ∧ (∀ t, t < nT b → nmB b (28 + 12 * t)) ∧ ∀ r, r < nR b → nmB b (4 + 8 * r)
theorem wF_N {b : Nat → Int} (h : wF b) : wN b := ⟨⟨by have := h.1.1; omega, h.1.1.2⟩, ⟨by have := h.1.2.1; omega, h.1.2.1.2⟩, h.2.2.1, h.2.2.2.1⟩
theorem wN_T {b : Nat → Int} (h : wN b) : b 2 = nT b ∧ nT b ≤ 12 := by
  have := h.1
  unfold nT; omega
theorem wN_R {b : Nat → Int} (h : wN b) : b 1 = nR b ∧ nR b ≤ 3 := by
  have := h.2.1
  unfold nR; omega
/-- a name and a word are the same, packed or letter by letter -/
theorem nm_pk {b B : Nat → Int} {a f k : Nat} (hn : nmB b a) (hk : k ≤ 8) (hB : ∀ i, i < k → 97 ≤ B (f + i) ∧ B (f + i) ≤ 122) : decide (pk b a = pw B f k) = nmE b a B f k := by
  obtain ⟨h0, h1⟩ := hn
  have key : pk b a = pw B f k ↔ nmE b a B f k = true := by
    unfold nmE
    rw [Bool.and_eq_true, decide_eq_true_iff, allN_iff]
    have g1 : ∀ i, i < (b a).toNat → 0 < (b (a + 1 + i)).toNat ∧ (b (a + 1 + i)).toNat < 256 := fun i hi => by
      have := h1 i hi; omega
    have g2 : ∀ i, i < k → 0 < (B (f + i)).toNat ∧ (B (f + i)).toNat < 256 := fun i hi => by
      have := hB i hi; omega
    constructor
    · intro e
      have l1 := Nat.lt_of_lt_of_le (pkN_lt (fun i hi => (g1 i hi).2)) (pk8 (n := (b a).toNat) (by omega))
      have l2 := Nat.lt_of_lt_of_le (pkN_lt (fun i hi => (g2 i hi).2)) (pk8 (n := k) hk)
      obtain ⟨e1, e2⟩ := pkN_inj _ _ g1 g2 (i64_inj l1 l2 e)
      refine ⟨by omega, fun i hi => decide_eq_true ?_⟩
      have := e2 i (by omega)
      have := h1 i (by omega)
      have := hB i hi
      omega
    · rintro ⟨e1, e2⟩
      unfold pk pw
      have ek : (b a).toNat = k := by omega
      rw [ek]
      congr 1
      exact pkN_congr (fun i hi => by rw [of_decide_eq_true (e2 i hi)])
  cases c : nmE b a B f k with
  | true => exact decide_eq_true (key.mpr c)
  | false => exact decide_eq_false (fun q => by rw [key.mp q] at c; cases c)
/-! the constants: texts, digits -/
def KC (M : xM) : Prop := (∀ o, o < 13 → gn M 246 o 0 = 1 ∧ gn M 157 o 0 = xnth xlen46 o ∧ gi M 46 o 1 = 0 ∧ ∀ f, gi M 47 o f = xget0 0 (xget0 [] xbyt o) f) ∧ ∀ f, gi M 48 0 f = xget0 0 xdg1 f ∧ gi M 52 0 f = xget0 0 xdg10 f
theorem KC_fz {K : Nat → Nat → Nat → Bool} {M M' : xM} (h : KC M) (f : fz K M M') (hK : ∀ k o s, (k = 48 ∨ k = 52 ∨ ((k = 46 ∨ k = 47 ∨ k = 157 ∨ k = 246) ∧ o < 13)) → K k o s = false) : KC M' := by
  refine ⟨fun o ho => ⟨?_, ?_, ?_, fun g => ?_⟩, fun g => ⟨?_, ?_⟩⟩
  · rw [fz_gn f (hK 246 o 0 (by omega))]; exact (h.1 o ho).1
  · rw [fz_gn f (hK 157 o 0 (by omega))]; exact (h.1 o ho).2.1
  · rw [fz_gi f (hK 46 o 1 (by omega))]; exact (h.1 o ho).2.2.1
  · rw [fz_gi f (hK 47 o g (by omega))]; exact (h.1 o ho).2.2.2 g
  · rw [fz_gi f (hK 48 0 g (by omega))]; exact (h.2 g).1
  · rw [fz_gi f (hK 52 0 g (by omega))]; exact (h.2 g).2
set_option maxRecDepth 100000 in
theorem s_chk {a1 a2 : Int32} (M : xM) (h1 : ¬ a1 < 0) (h2 : a1 < a2) : m_JPreconditions_checkIndex a1 a2 0 M = rI a1 M := by
  refine (xEv_unf 400 xtab xml _ _ _ _ M).trans ?_
  show (if a1 < 0 then _ else (if a1 < a2 then rI a1 M else _)) = _
  rw [if_neg h1, if_pos h2]
/-- a text's letters -/
def cB (o i : Nat) : Int := (xget0 0 (xget0 [] xbyt o) i : Int32).toInt
def cN (o : Nat) : Nat := xnth xlen46 o
theorem cB_tab : (List.range 13).all (fun o => (List.range (cN o)).all (fun i => decide (0 ≤ cB o i) && decide (cB o i < 128)) && decide (cN o ≤ 200)) = true := by decide +kernel
theorem cB_bd {o i : Nat} (ho : o < 13) (hi : i < cN o) : 0 ≤ cB o i ∧ cB o i < 128 := by
  have h1 := List.all_eq_true.mp cB_tab o (List.mem_range.mpr ho)
  rw [Bool.and_eq_true] at h1
  have h2 := List.all_eq_true.mp h1.1 i (List.mem_range.mpr hi)
  rw [Bool.and_eq_true] at h2
  exact ⟨of_decide_eq_true h2.1, of_decide_eq_true h2.2⟩
theorem cN_bd {o : Nat} (ho : o < 13) : cN o ≤ 200 := by
  have h1 := List.all_eq_true.mp cB_tab o (List.mem_range.mpr ho)
  rw [Bool.and_eq_true] at h1
  exact of_decide_eq_true h1.2
theorem s_strlen {M : xM} (h : KC M) {o : Nat} (ho : o < 13) : m_JS_length o M = rI (zi (cN o : Nat)) M := by
  have hk := h.1 o ho
  rw [e_m_JS_length, if_pos hk.1, e_m_JS_coder, ite_z1, hk.2.2.1, xret_I, xbI_r, hk.2.1]
  have : ∀ o, o < 13 → ((Int32.ofNat (xnth xlen46 o)) >>> (xnar 3 0 &&& 31) : Int32) = zi ((cN o : Nat) : Int) := by decide +kernel
  rw [this o ho]
theorem bt_id : (List.range 128).all (fun x => xnar 2 (xnar 2 (((Int32.toUInt32 ((zi ((x : Nat) : Int)) &&& (255 : Int32))) % 65536).toInt32)) == zi ((x : Nat) : Int)) = true := by decide +kernel
theorem s_charAt {M : xM} (h : KC M) {o i : Nat} (ho : o < 13) (hi : i < cN o) : m_JS_charAt o (zi i) M = rI (zi (cB o i)) M := by
  have hk := h.1 o ho
  have hn := cN_bd ho
  have hb := cB_bd ho hi
  have e47 : gi M 47 o i = zi (cB o i) := by rw [hk.2.2.2 i]; exact (zi_of _).symm
  have el : Int32.ofNat (gn M 157 o 0) = zi (cN o : Nat) := by rw [hk.2.1]; rfl
  have hx := List.all_eq_true.mp bt_id (cB o i).toNat (List.mem_range.mpr (by omega))
  rw [show (((cB o i).toNat : Nat) : Int) = cB o i by omega] at hx
  rw [e_m_JS_charAt, e_m_JS_isLatin1, ite_z1, if_pos hk.2.2.1, xret_I, xbI_r, xnar_1, ite_b, if_pos rfl, if_pos hk.1, e_m_JL_charAt, e_m_JS_checkIndex, el, s_chk M (by rw [zi_00, zi_lt (by omega) (by omega) (by decide) (by decide)]; omega) (zi_ltn hi (by omega)), xret_I, xbI_r, xret_v, xbV_r, hk.2.1, xck_n (show i < xnth xlen46 o from hi) (by show cN o ≤ _; omega), zix (by omega), e47, xret_I, xbI_r, eq_of_beq hx]
