/-! the reference: reading its blocks -/
/-- all but the places of K is as it was -/
def fz (K : Nat → Nat → Nat → Bool) (M M' : xM) : Prop := ∀ k o s, K k o s = false → M' k o s = M k o s
theorem fz_refl {K : Nat → Nat → Nat → Bool} (M : xM) : fz K M M := fun _ _ _ _ => rfl
theorem fz_trans {K : Nat → Nat → Nat → Bool} {M M1 M2 : xM} (h1 : fz K M M1) (h2 : fz K M1 M2) : fz K M M2 := fun k o s h => (h2 k o s h).trans (h1 k o s h)
theorem fz_mono {K K' : Nat → Nat → Nat → Bool} {M M' : xM} (h : ∀ k o s, K k o s = true → K' k o s = true) (h1 : fz K M M') : fz K' M M' := fun k o s q => h1 k o s (by
  cases e : K k o s with
  | false => rfl
  | true => rw [h k o s e] at q; cases q)
theorem fz_of {K : Nat → Nat → Bool} {M M' : xM} (h : fr K M M') : fz (fun k o _ => K k o) M M' := h
theorem fz_st {K : Nat → Nat → Nat → Bool} {M : xM} {k o s : Nat} {v : Value} (h : K k o s = true) : fz K M (xst M k o s v) := fun k' o' s' q => by
  unfold xst
  rw [if_neg]
  rintro ⟨rfl, rfl, rfl⟩
  rw [h] at q; cases q
theorem fz_step {K : Nat → Nat → Nat → Bool} {M M1 : xM} {k o s : Nat} {v : Value} (h1 : fz K M M1) (h : K k o s = true) : fz K M (xst M1 k o s v) := fz_trans h1 (fz_st h)
theorem fz_gi {K : Nat → Nat → Nat → Bool} {M M' : xM} (h : fz K M M') {k o s : Nat} (hk : K k o s = false) : gi M' k o s = gi M k o s := by
  unfold gi; rw [h k o s hk]
theorem fz_gl {K : Nat → Nat → Nat → Bool} {M M' : xM} (h : fz K M M') {k o s : Nat} (hk : K k o s = false) : gl M' k o s = gl M k o s := by
  unfold gl; rw [h k o s hk]
theorem fz_gn {K : Nat → Nat → Nat → Bool} {M M' : xM} (h : fz K M M') {k o s : Nat} (hk : K k o s = false) : gn M' k o s = gn M k o s := by
  unfold gn; rw [h k o s hk]
/-- block 0 -/
def RB (M : xM) (b : Nat → Int) : Prop := ∀ k, k < 316 → gi M 28 0 k = zi (b k)
/-- where the reference reckons: dates, steps, schedule -/
def onB (k o s : Nat) : Bool := Nat.beq o 0 && ((Nat.beq k 27 && Nat.beq s 13) || (Nat.ble 32 k && Nat.ble k 37))
theorem RB_fz {K : Nat → Nat → Nat → Bool} {M M' : xM} {b : Nat → Int} (h : RB M b) (f : fz K M M') (hK : ∀ s, K 28 0 s = false) : RB M' b := fun k hk => (fz_gi f (hK k)).trans (h k hk)
theorem RB_B {M M' : xM} {b : Nat → Int} (h : RB M b) (f : fz onB M M') : RB M' b := RB_fz h f (fun _ => rfl)
theorem xck_0 (k : xR) : xck 0 3160 k = k := if_neg (by decide)
theorem xck_1 (k : xR) : xck 1 3160 k = k := if_neg (by decide)
theorem xck_2 (k : xR) : xck 2 3160 k = k := if_neg (by decide)
theorem xck_01 (k : xR) : xck 0 1 k = k := if_neg (by decide)
theorem ix_0 : ix 0 = 0 := rfl
theorem ix_1 : ix 1 = 1 := rfl
theorem ix_2 : ix 2 = 2 := rfl
theorem RB_0 {M : xM} {b : Nat → Int} (h : RB M b) : gi M 28 0 (ix 0) = zi (b 0) := h 0 (by decide)
theorem RB_R {M : xM} {b : Nat → Int} (h : RB M b) (hw : wS b) : gi M 28 0 (ix 1) = zi (nR b) := by
  rw [ix_1, h 1 (by decide), (wS_r hw).2.2]
theorem RB_T {M : xM} {b : Nat → Int} (h : RB M b) (hw : wS b) : gi M 28 0 (ix 2) = zi (nT b) := by
  rw [ix_2, h 2 (by decide), (wS_n hw).2.2]
theorem r_of {M : xM} {b : Nat → Int} (h : RB M b) {t w : Nat} (ht : t < 12) (hw : w < 12) : m_M_of 0 (zi t) (zi w) M = rI (zi (b (28 + 12 * t + w))) M := by
  rw [e_m_M_of, zi_28, zi_12, zi_mul, zi_add, zi_add, xck_z (by omega) (by omega) (by decide), zixz (by omega) (by omega), show (28 + (t : Int) * 12 + (w : Int)).toNat = 28 + 12 * t + w by omega, h _ (by omega)]
theorem r_D {M : xM} {b : Nat → Int} (h : RB M b) {t : Nat} (ht : t < 12) : m_M_of 0 (zi t) 7 M = rI (zi (bD b t)) M := by
  rw [show (7 : Int32) = zi ((7 : Nat) : Int) from rfl, r_of h ht (by decide)]
  unfold bD
  rw [show 28 + 12 * t + 7 = 35 + 12 * t by omega]
theorem r_E {M : xM} {b : Nat → Int} (h : RB M b) {t : Nat} (ht : t < 12) : m_M_of 0 (zi t) 8 M = rI (zi (bE b t)) M := by
  rw [show (8 : Int32) = zi ((8 : Nat) : Int) from rfl, r_of h ht (by decide)]
  unfold bE
  rw [show 28 + 12 * t + 8 = 36 + 12 * t by omega]
theorem r_U {M : xM} {b : Nat → Int} (h : RB M b) {t r : Nat} (ht : t < 12) (hr : r < 3) : m_M_of 0 (zi t) ((9 : Int32) + zi r) M = rI (zi (bU b t r)) M := by
  rw [zi_09, zi_add, show (9 + (r : Int)) = ((9 + r : Nat) : Int) by omega, r_of h ht (by omega)]
  unfold bU
  rw [show 28 + 12 * t + (9 + r) = 37 + 12 * t + r by omega]
theorem r_cap {M : xM} {b : Nat → Int} (h : RB M b) {r : Nat} (hr : r < 3) : m_M_capacityOf 0 (zi r) M = rI (zi (bC b r)) M := by
  rw [e_m_M_capacityOf, zi_04, zi_08, zi_07, zi_mul, zi_add, zi_add, xck_z (by omega) (by omega) (by decide), zixz (by omega) (by omega), show (4 + (r : Int) * 8 + 7).toNat = 11 + 8 * r by omega, h _ (by omega)]
  rfl
theorem wL_1 {b : Nat → Int} (hl : wL b) {f t : Nat} (hf : f < 12) (ht : t < 12) : (zi (b (172 + 12 * f + t)) = (1 : Int32)) = (bL b f t = true) := by
  have := (hl f t hf ht).1
  rw [zi_01, zi_eq (by omega) (by omega) (by decide) (by decide)]
  unfold bL
  rw [decide_eq_true_iff]
theorem r_link {M : xM} {b : Nat → Int} (h : RB M b) (hl : wL b) {f t : Nat} (hf : f < 12) (ht : t < 12) : m_M_isLink 0 (zi f) (zi t) M = rI (bz (bL b f t)) M := by
  rw [e_m_M_isLink, zi_172, zi_12, zi_mul, zi_add, zi_add, xck_z (by omega) (by omega) (by decide), zixz (by omega) (by omega), show (172 + (f : Int) * 12 + (t : Int)).toNat = 172 + 12 * f + t by omega, h _ (by omega)]
  simp only [wL_1 hl hf ht]
  cases bL b f t <;> rfl
theorem bL_lt {b : Nat → Int} (hl : wL b) {f t : Nat} (hf : f < 12) (ht : t < 12) (h : bL b f t = true) : f < nT b ∧ t < nT b := (hl f t hf ht).2 (of_decide_eq_true h)
theorem r_in {M : xM} {x y z : Int} (h1 : -2147483648 ≤ x) (h2 : x < 2147483648) (h3 : -2147483648 ≤ y) (h4 : y < 2147483648) (h5 : -2147483648 ≤ z) (h6 : z < 2147483648) : m_M_in (zi x) (zi y) (zi z) M = rI (bz (decide (y ≤ x ∧ x ≤ z))) M := by
  rw [e_m_M_in, zif h1 h2 h3 h4, zif h5 h6 h1 h2, xnar_0, xnar_1]
  by_cases c : x < y
  · have : ¬ (y ≤ x ∧ x ≤ z) := by omega
    rw [if_pos c, decide_eq_false this]
  · by_cases c2 : z < x
    · have : ¬ (y ≤ x ∧ x ≤ z) := by omega
      rw [if_neg c, if_pos c2, decide_eq_false this]
    · have : y ≤ x ∧ x ≤ z := by omega
      rw [if_neg c, if_neg c2, decide_eq_true this]
theorem r_isTask {M : xM} {b : Nat → Int} (h : RB M b) (hw : wS b) {x : Int} (h1 : -2147483648 ≤ x) (h2 : x < 2147483648) : m_M_isTask 0 (zi x) M = rI (bz (decide (0 ≤ x ∧ x < nT b))) M := by
  have hn := wS_n hw
  rw [e_m_M_isTask, xck_2, RB_T h hw, zi_00, zi_01, zi_sub, r_in h1 h2 (by decide) (by decide) (by omega) (by omega), xbI_r, xnar_b, show decide (0 ≤ x ∧ x ≤ (nT b : Int) - 1) = decide (0 ≤ x ∧ x < (nT b : Int)) from decide_eq_decide.mpr (by omega)]
theorem r_isRes {M : xM} {b : Nat → Int} (h : RB M b) (hw : wS b) {x : Int} (h1 : -2147483648 ≤ x) (h2 : x < 2147483648) : m_M_isResource 0 (zi x) M = rI (bz (decide (0 ≤ x ∧ x < nR b))) M := by
  have hn := wS_r hw
  rw [e_m_M_isResource, xck_1, RB_R h hw, zi_00, zi_01, zi_sub, r_in h1 h2 (by decide) (by decide) (by omega) (by omega), xbI_r, xnar_b, show decide (0 ≤ x ∧ x ≤ (nR b : Int) - 1) = decide (0 ≤ x ∧ x < (nR b : Int)) from decide_eq_decide.mpr (by omega)]
theorem r_areTasks {M : xM} {b : Nat → Int} (h : RB M b) (hw : wS b) {x y : Int} (h1 : -2147483648 ≤ x) (h2 : x < 2147483648) (h3 : -2147483648 ≤ y) (h4 : y < 2147483648) : m_M_areTasks 0 (zi x) (zi y) M = rI (bz (decide (0 ≤ x ∧ x < nT b) && decide (0 ≤ y ∧ y < nT b))) M := by
  rw [e_m_M_areTasks, r_isTask h hw h1 h2, xbI_r, ite_b, r_isTask h hw h3 h4, xbI_r, ite_b, xnar_0, xnar_1]
  cases decide (0 ≤ x ∧ x < nT b) with
  | false => rfl
  | true => cases decide (0 ≤ y ∧ y < nT b) <;> rfl
/-- what is thrown -/
def thr (M : xM) (n : Nat) : xM := xst M 27 0 9 (.int (zi n))
theorem r_f0 (M : xM) : m_M_fails 0 0 0 0 M = rI (bz false) (thr M 0) := by
  rw [e_m_M_fails]; rfl
theorem r_f1 (M : xM) (y z : Int32) : m_M_fails 0 1 y z M = rI (bz true) (thr M 1) := by
  rw [e_m_M_fails]; rfl
theorem r_f2 (M : xM) (z : Int32) : m_M_fails 0 0 1 z M = rI (bz true) (thr M 2) := by
  rw [e_m_M_fails]; rfl
theorem r_f3 (M : xM) : m_M_fails 0 0 0 1 M = rI (bz true) (thr M 3) := by
  rw [e_m_M_fails]; rfl
theorem r_fb (M : xM) (c : Bool) : m_M_fails 0 (bz c) 0 0 M = rI (bz c) (thr M (if c = true then 1 else 0)) := by
  cases c
  · exact r_f0 M
  · exact r_f1 M 0 0
theorem RB_thr {M : xM} {b : Nat → Int} (h : RB M b) (n : Nat) : RB (thr M n) b := fun k hk => (gi_k (by decide)).trans (h k hk)
theorem bz_1 (c : Bool) : (bz c = 1) = (c = true) := by cases c <;> decide
