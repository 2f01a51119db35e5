/-! the class's half of the part 37 of the proof of whole (wip/p65/mkhalf.py) -/
theorem zi_suc (i : Nat) : zi (i : Int) + 1 = zi ((i + 1 : Nat) : Int) := by
  rw [zi_01, zi_add]; rfl
theorem zi_ltn {i n : Nat} (h : i < n) (hn : n < 2147483648) : zi (i : Int) < zi (n : Int) := by
  rw [zi_lt (by omega) (by omega) (by omega) (by omega)]; omega
theorem zi_ltz {x y : Int} (h : x < y) (h1 : -2147483648 ≤ x) (hn : y < 2147483648) : zi x < zi y := by
  rw [zi_lt (by omega) (by omega) (by omega) (by omega)]; omega
theorem zi_nlz {x y : Int} (h : y ≤ x) (h1 : -2147483648 ≤ y) (hn : x < 2147483648) : ¬ zi x < zi y := by
  rw [zi_lt (by omega) (by omega) (by omega) (by omega)]; omega
theorem zi_irr (x : Int) : ¬ zi x < zi x := fun h => Int32.lt_irrefl h
theorem zif {α : Type} {x y : Int} (h1 : -2147483648 ≤ x) (h2 : x < 2147483648) (h3 : -2147483648 ≤ y) (h4 : y < 2147483648) (a c : α) : (if zi x < zi y then a else c) = if x < y then a else c := by
  by_cases h : x < y
  · rw [if_pos h, if_pos (zi_ltz h h1 h4)]
  · rw [if_neg h, if_neg (zi_nlz (by omega) h3 h2)]
theorem zife {α : Type} {x y : Int} (h1 : -2147483648 ≤ x) (h2 : x < 2147483648) (h3 : -2147483648 ≤ y) (h4 : y < 2147483648) (a c : α) : (if zi x = zi y then a else c) = if x = y then a else c := by
  have e := zi_eq h1 h2 h3 h4
  by_cases h : x = y
  · rw [if_pos h, if_pos (e.mpr h)]
  · rw [if_neg h, if_neg (fun q => h (e.mp q))]
theorem zi_div {x y : Int} (h1 : 0 ≤ x) (h2 : x < 2147483648) (h3 : 0 < y) (h4 : y < 2147483648) : zi x / zi y = zi (x / y) := by
  have h5 : 0 ≤ x / y := Int.ediv_nonneg h1 (by omega)
  have h6 : x / y ≤ x := Int.ediv_le_self y h1
  apply Int32.toInt_inj.mp
  rw [Int32.toInt_div, zi_toInt (by omega) (by omega), zi_toInt (by omega) (by omega), zi_toInt (by omega) (by omega), Int.tdiv_eq_ediv_of_nonneg h1]
  exact Int.bmod_eq_of_le (by omega) (by omega)
def pkN (g : Nat → Nat) (n : Nat) : Nat := match n with
  | 0 => 0
  | n + 1 => pkN g n + g n * 256 ^ n
def pk (b : Nat → Int) (a : Nat) : Int64 := Int64.ofNat (pkN (fun k => (b (a + 1 + k)).toNat) (b a).toNat)
def CP (M : xM) (p : Nat) (b : Nat → Int) : Prop := (nT b ≤ 12 ∧ nR b ≤ 3) ∧ (gi M 2 p 0 = zi (b 0) ∧ gi M 2 p 1 = zi (nR b) ∧ gi M 2 p 2 = zi (nT b)) ∧ (∀ t, t < nT b → gi M 6 p t = zi (bD b t) ∧ gi M 7 p t = zi (bE b t) ∧ gi M 8 p t = mk (fun f => bL b f t) ∧ gl M 5 p t = pk b (28 + 12 * t)) ∧ (∀ r, r < nR b → gi M 4 p r = zi (bC b r) ∧ gl M 3 p r = pk b (4 + 8 * r)) ∧ (∀ t r, t < nT b → r < nR b → gi M 9 p (3 * t + r) = zi (bU b t r))
theorem CP_n {M : xM} {p : Nat} {b : Nat → Int} (h : CP M p b) : nT b ≤ 12 := h.1.1
theorem CP_r {M : xM} {p : Nat} {b : Nat → Int} (h : CP M p b) : nR b ≤ 3 := h.1.2
theorem CP_0 {M : xM} {p : Nat} {b : Nat → Int} (h : CP M p b) : gi M 2 p 0 = zi (b 0) := h.2.1.1
theorem CP_R {M : xM} {p : Nat} {b : Nat → Int} (h : CP M p b) : gi M 2 p 1 = zi (nR b) := h.2.1.2.1
theorem CP_T {M : xM} {p : Nat} {b : Nat → Int} (h : CP M p b) : gi M 2 p 2 = zi (nT b) := h.2.1.2.2
theorem CP_D {M : xM} {p : Nat} {b : Nat → Int} (h : CP M p b) {t : Nat} (ht : t < nT b) : gi M 6 p t = zi (bD b t) := (h.2.2.1 t ht).1
theorem CP_E {M : xM} {p : Nat} {b : Nat → Int} (h : CP M p b) {t : Nat} (ht : t < nT b) : gi M 7 p t = zi (bE b t) := (h.2.2.1 t ht).2.1
theorem CP_L {M : xM} {p : Nat} {b : Nat → Int} (h : CP M p b) {t : Nat} (ht : t < nT b) : gi M 8 p t = mk (fun f => bL b f t) := (h.2.2.1 t ht).2.2.1
theorem CP_N {M : xM} {p : Nat} {b : Nat → Int} (h : CP M p b) {t : Nat} (ht : t < nT b) : gl M 5 p t = pk b (28 + 12 * t) := (h.2.2.1 t ht).2.2.2
theorem CP_C {M : xM} {p : Nat} {b : Nat → Int} (h : CP M p b) {r : Nat} (hr : r < nR b) : gi M 4 p r = zi (bC b r) := (h.2.2.2.1 r hr).1
theorem CP_M {M : xM} {p : Nat} {b : Nat → Int} (h : CP M p b) {r : Nat} (hr : r < nR b) : gl M 3 p r = pk b (4 + 8 * r) := (h.2.2.2.1 r hr).2
theorem CP_U {M : xM} {p : Nat} {b : Nat → Int} (h : CP M p b) {t r : Nat} (ht : t < nT b) (hr : r < nR b) : gi M 9 p (3 * t + r) = zi (bU b t r) := h.2.2.2.2 t r ht hr
/-- kinds of a plan -/
def kP (k : Nat) : Bool := decide (2 ≤ k) && decide (k ≤ 9)
theorem CP_fr {K : Nat → Nat → Bool} {M M' : xM} {p : Nat} {b : Nat → Int} (h : CP M p b) (f : fr K M M') (hK : ∀ k, kP k = true → K k p = false) : CP M' p b := by
  refine ⟨h.1, ⟨?_, ?_, ?_⟩, fun t ht => ⟨?_, ?_, ?_, ?_⟩, fun r hr => ⟨?_, ?_⟩, fun t r ht hr => ?_⟩
  · rw [fr_gi f (hK 2 rfl)]; exact CP_0 h
  · rw [fr_gi f (hK 2 rfl)]; exact CP_R h
  · rw [fr_gi f (hK 2 rfl)]; exact CP_T h
  · rw [fr_gi f (hK 6 rfl)]; exact CP_D h ht
  · rw [fr_gi f (hK 7 rfl)]; exact CP_E h ht
  · rw [fr_gi f (hK 8 rfl)]; exact CP_L h ht
  · rw [fr_gl f (hK 5 rfl)]; exact CP_N h ht
  · rw [fr_gi f (hK 4 rfl)]; exact CP_C h hr
  · rw [fr_gl f (hK 3 rfl)]; exact CP_M h hr
  · rw [fr_gi f (hK 9 rfl)]; exact CP_U h ht hr
theorem s_contains (P : Nat → Bool) {t : Nat} (ht : t < 12) (M : xM) : m_C_contains (mk P) (zi t) M = rI (bz (P t)) M := by
  rw [e_m_C_contains, mk_has P ht]
  cases P t <;> rfl
theorem s_max (x y : Int) (h1 : -2147483648 ≤ x) (h2 : x < 2147483648) (h3 : -2147483648 ≤ y) (h4 : y < 2147483648) (M : xM) : m_JM_max (zi x) (zi y) M = rI (zi (imx x y)) M := by
  rw [e_m_JM_max, zif h1 h2 h3 h4]
  unfold imx
  split <;> rfl
theorem s_min (x y : Int) (h1 : -2147483648 ≤ x) (h2 : x < 2147483648) (h3 : -2147483648 ≤ y) (h4 : y < 2147483648) (M : xM) : m_JM_min (zi x) (zi y) M = rI (zi (imn x y)) M := by
  rw [e_m_JM_min, zif h3 h4 h1 h2]
  unfold imn
  split <;> rfl
theorem s_bits (P : Nat → Bool) (M : xM) : m_JI_bitCount (mk P) M = rI (zi (cnt P 12)) M := by
  rw [← pcX_mk]
  exact e_m_JI_bitCount _ M
theorem s_hasTask {M : xM} {p : Nat} {b : Nat → Int} (h : CP M p b) {x : Int} (h1 : -2147483648 ≤ x) (h2 : x < 2147483648) : m_P_hasTask p (zi x) M = rI (bz (decide (0 ≤ x ∧ x < nT b))) M := by
  have hn := CP_n h
  rw [e_m_P_hasTask, CP_T h, zi_00, zif h1 h2 (by decide) (by decide), zif h1 h2 (by omega) (by omega), ← zi_00, xnar_0, xnar_1]
  by_cases c : x < 0
  · have : ¬ (0 ≤ x ∧ x < nT b) := by omega
    rw [if_pos c, decide_eq_false this]
  · by_cases c2 : x < nT b
    · have : 0 ≤ x ∧ x < nT b := by omega
      rw [if_neg c, if_pos c2, decide_eq_true this]
    · have : ¬ (0 ≤ x ∧ x < nT b) := by omega
      rw [if_neg c, if_neg c2, decide_eq_false this]
theorem s_hasRes {M : xM} {p : Nat} {b : Nat → Int} (h : CP M p b) {x : Int} (h1 : -2147483648 ≤ x) (h2 : x < 2147483648) : m_P_hasResource p (zi x) M = rI (bz (decide (0 ≤ x ∧ x < nR b))) M := by
  have hn := CP_r h
  rw [e_m_P_hasResource, CP_R h, zi_00, zif h1 h2 (by decide) (by decide), zif h1 h2 (by omega) (by omega), ← zi_00, xnar_0, xnar_1]
  by_cases c : x < 0
  · have : ¬ (0 ≤ x ∧ x < nR b) := by omega
    rw [if_pos c, decide_eq_false this]
  · by_cases c2 : x < nR b
    · have : 0 ≤ x ∧ x < nR b := by omega
      rw [if_neg c, if_pos c2, decide_eq_true this]
    · have : ¬ (0 ≤ x ∧ x < nR b) := by omega
      rw [if_neg c, if_neg c2, decide_eq_false this]
theorem s_demandOf {M : xM} {p : Nat} {b : Nat → Int} (h : CP M p b) {t r : Nat} (ht : t < nT b) (hr : r < nR b) : m_P_demandOf p (zi t) (zi r) M = rI (zi (bU b t r)) M := by
  have hn := CP_n h
  have hn2 := CP_r h
  rw [e_m_P_demandOf, zi_03, zi_mul, zi_add, xck_z (by omega) (by omega) (by decide), zixz (by omega) (by omega), show ((t : Int) * 3 + (r : Int)).toNat = 3 * t + r by omega, CP_U h ht hr]
theorem s_isLinked {M : xM} {p : Nat} {b : Nat → Int} (h : CP M p b) {f t : Nat} (hf : f < 12) (ht : t < nT b) : m_P_isLinked p (zi f) (zi t) M = rI (bz (bL b f t)) M := by
  have hn := CP_n h
  rw [e_m_P_isLinked, xck_n (by omega) (by decide), zix (by omega), CP_L h ht, s_contains _ hf, xret_I, xbI_r, xnar_b]
theorem s_isReady {M : xM} {p : Nat} {b : Nat → Int} (h : CP M p b) {P : Nat → Bool} {t : Nat} (ht : t < nT b) (hl : ∀ f, nT b ≤ f → bL b f t = false) : m_P_isReady p (zi t) (mk P) M = rI (bz (elS b P t)) M := by
  have hn := CP_n h
  rw [e_m_P_isReady, s_contains _ (by omega), xret_I, xbI_r, ite_b, xck_n (by omega) (by decide), zix (by omega), CP_L h ht, xnar_1, xnar_0]
  unfold elS
  cases hp : P t with
  | true => rfl
  | false =>
    simp only [mk_sub, Bool.false_eq_true, if_false, Bool.not_false, Bool.true_and]
    by_cases c : ∀ t_1, t_1 < 12 → bL b t_1 t = true → P t_1 = true
    · have : allN (nT b) (fun f => !bL b f t || P f) = true := allN_iff.mpr (fun i hi => by
        cases e : bL b i t with
        | false => rfl
        | true => rw [c i (by omega) e]; rfl)
      rw [if_pos c, this]
    · have : allN (nT b) (fun f => !bL b f t || P f) = false := by
        cases e : allN (nT b) (fun f => !bL b f t || P f) with
        | false => rfl
        | true =>
          exfalso
          refine c (fun f hf q => ?_)
          by_cases l : f < nT b
          · have := allN_iff.mp e f l
            simpa [q] using this
          · rw [hl f (by omega)] at q; cases q
      rw [if_neg c, this]
theorem s_runsOn {M : xM} {p : Nat} {b : Nat → Int} (h : CP M p b) {t : Nat} {s x : Int} (ht : t < nT b) (h1 : -1000000 ≤ s) (h2 : s < 1000000) (h3 : -1000000 ≤ x) (h4 : x < 1000000) (h5 : 0 ≤ bD b t ∧ bD b t < 1000) : m_P_runsOn p (zi t) (zi s) (zi x) M = rI (bz (decide (s ≤ x) && decide (x < s + bD b t))) M := by
  have hn := CP_n h
  rw [e_m_P_runsOn, zif (by omega) (by omega) (by omega) (by omega), xck_n (by omega) (by decide), zix (by omega), CP_D h ht, zi_add, zif (by omega) (by omega) (by omega) (by omega), xnar_0, xnar_1]
  by_cases c : x < s
  · have : ¬ s ≤ x := by omega
    rw [if_pos c, decide_eq_false this]; rfl
  · have : s ≤ x := by omega
    rw [if_neg c, decide_eq_true this]
    by_cases c2 : x < s + bD b t
    · rw [if_pos c2, decide_eq_true c2]; rfl
    · rw [if_neg c2, decide_eq_false c2]; rfl
def wkB (b : Nat → Int) (r : Nat) : Int := sm (fun t => bU b t r * bD b t) (nT b)
theorem s_workFor {M : xM} {p : Nat} {b : Nat → Int} (h : CP M p b) {r : Nat} (hr : r < nR b) : m_P_workFor p (zi r) M = rI (zi (wkB b r)) M := by
  have hn := CP_n h
  rw [e_m_P_workFor]
  refine lp (B := fun i => b_P_workFor_5 p (zi r) (zi (sm (fun t => bU b t r * bD b t) i)) (zi (i : Nat)) M) (n := nT b) (fun i hi => ?_) ?_ 0 (Nat.zero_le _)
  · show b_P_workFor_5 p (zi r) (zi (sm _ i)) (zi (i : Nat)) M = _
    rw [e_b_P_workFor_5, CP_T h, if_pos (zi_ltn hi (by omega)), s_demandOf h hi hr, xbI_r, xck_n (by omega) (by decide), zix (by omega), CP_D h hi, zi_mul, zi_add, zi_suc]
    rfl
  · show b_P_workFor_5 p (zi r) (zi (sm _ _)) (zi (nT b : Nat)) M = _
    rw [e_b_P_workFor_5, CP_T h, if_neg (zi_irr _)]
    rfl
