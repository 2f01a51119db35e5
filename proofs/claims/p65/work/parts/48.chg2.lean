/-! the class's half of the part 48 of the proof of whole (wip/p65/mkhalf.py) -/
theorem s_chD {M : xM} {p : Nat} {b : Nat → Int} (h : CP M p b) {x d : Int} (h1 : -2147483648 ≤ x) (h2 : x < 2147483648) (h3 : -2147483648 ≤ d) (h4 : d < 2147483648) : m_P_changeDuration p (zi x) (zi d) M = if (0 ≤ x ∧ x < nT b) ∧ 1 ≤ d ∧ d ≤ 30 then rI (bz true) (xst M 6 p x.toNat (.int (zi d))) else rI (bz false) M := by
  have hn := CP_n h
  rw [e_m_P_changeDuration, s_hasTask h h1 h2, xbI_r, ite_b, xnar_0, xnar_1, zi_01, zi_30, zif h3 h4 (by decide) (by decide), zif (by decide) (by decide) h3 h4]
  by_cases c : 0 ≤ x ∧ x < nT b
  · rw [decide_eq_true c, if_pos rfl]
    by_cases c1 : d < 1
    · rw [if_pos c1, if_neg (by omega)]
    · rw [if_neg c1]
      by_cases c2 : 30 < d
      · rw [if_pos c2, if_neg (by omega)]
      · rw [if_neg c2, if_pos (by omega), xck_z (by omega) (by omega) (by decide), zixz (by omega) (by omega)]
  · rw [decide_eq_false c, if_neg (by decide), if_neg (fun q => c q.1)]
theorem s_chE {M : xM} {p : Nat} {b : Nat → Int} (h : CP M p b) {x d : Int} (h1 : -2147483648 ≤ x) (h2 : x < 2147483648) (h3 : -2147483648 ≤ d) (h4 : d < 2147483648) : m_P_changeRelease p (zi x) (zi d) M = if (0 ≤ x ∧ x < nT b) ∧ 0 ≤ d ∧ d ≤ 99 then rI (bz true) (xst M 7 p x.toNat (.int (zi d))) else rI (bz false) M := by
  have hn := CP_n h
  rw [e_m_P_changeRelease, s_hasTask h h1 h2, xbI_r, ite_b, xnar_0, xnar_1, zi_00, zi_99, zif h3 h4 (by decide) (by decide), zif (by decide) (by decide) h3 h4]
  by_cases c : 0 ≤ x ∧ x < nT b
  · rw [decide_eq_true c, if_pos rfl]
    by_cases c1 : d < 0
    · rw [if_pos c1, if_neg (by omega)]
    · rw [if_neg c1]
      by_cases c2 : 99 < d
      · rw [if_pos c2, if_neg (by omega)]
      · rw [if_neg c2, if_pos (by omega), xck_z (by omega) (by omega) (by decide), zixz (by omega) (by omega)]
  · rw [decide_eq_false c, if_neg (by decide), if_neg (fun q => c q.1)]
theorem s_chU {M : xM} {p : Nat} {b : Nat → Int} (h : CP M p b) (hC : ∀ r, r < nR b → 0 ≤ bC b r ∧ bC b r ≤ 10) {x y d : Int} (h1 : -2147483648 ≤ x) (h2 : x < 2147483648) (h3 : -2147483648 ≤ d) (h4 : d < 2147483648) (h5 : -2147483648 ≤ y) (h6 : y < 2147483648) : m_P_changeDemand p (zi x) (zi y) (zi d) M = if ((0 ≤ x ∧ x < nT b) ∧ (0 ≤ y ∧ y < nR b)) ∧ 0 ≤ d ∧ d ≤ bC b y.toNat then rI (bz true) (xst M 9 p (3 * x.toNat + y.toNat) (.int (zi d))) else rI (bz false) M := by
  have hn := CP_n h
  have hr := CP_r h
  rw [e_m_P_changeDemand, s_hasTask h h1 h2, xbI_r, ite_b, s_hasRes h h5 h6, xbI_r, ite_b, xnar_0, xnar_1, zi_00, zif h3 h4 (by decide) (by decide)]
  by_cases c : 0 ≤ x ∧ x < nT b
  · rw [decide_eq_true c, if_pos rfl]
    by_cases e : 0 ≤ y ∧ y < nR b
    · have hy : y.toNat < nR b := by omega
      have ey : y = ((y.toNat : Nat) : Int) := by omega
      have hc := hC y.toNat hy
      rw [decide_eq_true e, if_pos rfl]
      by_cases c1 : d < 0
      · rw [if_pos c1, if_neg (by omega)]
      · rw [if_neg c1, xck_z (by omega) (by omega) (by decide), zixz (by omega) (by omega), CP_C h hy, zif (by omega) (by omega) h3 h4]
        by_cases c2 : bC b y.toNat < d
        · rw [if_pos c2, if_neg (by omega)]
        · rw [if_neg c2, if_pos (by omega), zi_03, zi_mul, zi_add, xck_z (by omega) (by omega) (by decide), zixz (by omega) (by omega), show (x * 3 + y).toNat = 3 * x.toNat + y.toNat by omega]
    · rw [decide_eq_false e, if_neg (by decide), if_neg (fun q => e q.1.2)]
  · rw [decide_eq_false c, if_neg (by decide), if_neg (fun q => c q.1.1)]
theorem s_chC {M : xM} {p : Nat} {b : Nat → Int} (h : CP M p b) (hU : ∀ t r, t < nT b → r < nR b → 0 ≤ bU b t r ∧ bU b t r < 1000) {y d : Int} (h3 : -2147483648 ≤ d) (h4 : d < 2147483648) (h5 : -2147483648 ≤ y) (h6 : y < 2147483648) : m_P_changeCapacity p (zi y) (zi d) M = if (0 ≤ y ∧ y < nR b) ∧ (1 ≤ d ∧ d ≤ 9) ∧ mxF (fun _ => true) (fun t => bU b t y.toNat) 0 (nT b) ≤ d then rI (bz true) (xst M 4 p y.toNat (.int (zi d))) else rI (bz false) M := by
  have hn := CP_n h
  have hr := CP_r h
  rw [e_m_P_changeCapacity, s_hasRes h h5 h6, xbI_r, ite_b, xnar_0, xnar_1, zi_01, zi_09, zif h3 h4 (by decide) (by decide), zif (by decide) (by decide) h3 h4]
  by_cases e : 0 ≤ y ∧ y < nR b
  · have hy : y.toNat < nR b := by omega
    have ey : y = ((y.toNat : Nat) : Int) := by omega
    have b1 : mxF (fun _ => true) (fun t => bU b t y.toNat) 0 (nT b) ≤ 1000 := mxF_le (by decide) (fun j hj _ => by have := hU j y.toNat hj hy; omega)
    have b2 := mxF_a (fun _ => true) (fun t => bU b t y.toNat) 0 (nT b)
    have sg := s_greatest h hy (fun t ht => hU t y.toNat ht hy)
    rw [← ey] at sg
    rw [decide_eq_true e, if_pos rfl]
    by_cases c1 : d < 1
    · rw [if_pos c1, if_neg (by omega)]
    · rw [if_neg c1]
      by_cases c2 : 9 < d
      · rw [if_pos c2, if_neg (by omega)]
      · rw [if_neg c2, sg, xbI_r, zif (by omega) (by omega) (by omega) (by omega)]
        by_cases c3 : d < mxF (fun _ => true) (fun t => bU b t y.toNat) 0 (nT b)
        · rw [if_pos c3, if_neg (by omega)]
        · rw [if_neg c3, if_pos ⟨e, ⟨by omega, by omega⟩, by omega⟩, xck_z (by omega) (by omega) (by decide), zixz (by omega) (by omega)]
  · rw [decide_eq_false e, if_neg (by decide), if_neg (fun q => e q.1)]
theorem s_chR {M : xM} {p : Nat} {d : Int} (h3 : -2147483648 ≤ d) (h4 : d < 2147483648) : m_P_changeRule p (zi d) M = if 0 ≤ d ∧ d ≤ 3 then rI (bz true) (xst M 2 p 0 (.int (zi d))) else rI (bz false) M := by
  rw [e_m_P_changeRule, xnar_0, xnar_1, zi_00, zi_03, zif h3 h4 (by decide) (by decide), zif (by decide) (by decide) h3 h4]
  by_cases c1 : d < 0
  · rw [if_pos c1, if_neg (by omega)]
  · rw [if_neg c1]
    by_cases c2 : 3 < d
    · rw [if_pos c2, if_neg (by omega)]
    · rw [if_neg c2, if_pos (by omega)]
theorem mk_put (P : Nat → Bool) (f : Nat) : mk (fun t => P t || (t == f)) = mk (fun g => if g = f then true else P g) := mk_ext (fun g _ => by
  by_cases e : g = f
  · rw [if_pos e, e]; simp
  · have : (g == f) = false := by simp [e]
    rw [if_neg e, this, Bool.or_false])
theorem mk_cut (P : Nat → Bool) (f : Nat) : mk (fun t => P t && !(t == f)) = mk (fun g => if g = f then false else P g) := mk_ext (fun g _ => by
  by_cases e : g = f
  · rw [if_pos e, e]; simp
  · have : (g == f) = false := by simp [e]
    rw [if_neg e, this, Bool.not_false, Bool.and_true])
theorem s_link {M : xM} {p : Nat} {b : Nat → Int} (h : CP M p b) (ha : acy (nT b) (bL b)) {x y : Int} (h1 : -2147483648 ≤ x) (h2 : x < 2147483648) (h5 : -2147483648 ≤ y) (h6 : y < 2147483648) : m_P_link p (zi x) (zi y) M = if ((0 ≤ x ∧ x < nT b) ∧ (0 ≤ y ∧ y < nT b)) ∧ (!bL b x.toNat y.toNat && decide (dF (nT b) (bL b) y.toNat (nT b) x.toNat = -1)) = true then rI (bz true) (xst M 8 p y.toNat (.int (mk (fun g => if g = x.toNat then true else bL b g y.toNat)))) else rI (bz false) M := by
  have hn := CP_n h
  rw [e_m_P_link, s_hasTask h h1 h2, xbI_r, ite_b, s_hasTask h h5 h6, xbI_r, ite_b, xnar_0, xnar_1]
  by_cases c : 0 ≤ x ∧ x < nT b
  · rw [decide_eq_true c, if_pos rfl]
    by_cases e : 0 ≤ y ∧ y < nT b
    · have ex : x = ((x.toNat : Nat) : Int) := by omega
      have ey : y = ((y.toNat : Nat) : Int) := by omega
      have sc := s_canLink h (show x.toNat < nT b by omega) (show y.toNat < nT b by omega) ha
      rw [← ex, ← ey] at sc
      rw [decide_eq_true e, if_pos rfl, sc, xbI_r, ite_b]
      by_cases q : (!bL b x.toNat y.toNat && decide (dF (nT b) (bL b) y.toNat (nT b) x.toNat = -1)) = true
      · have hx12 : x.toNat < 12 := by omega
        have es : ((1 : Int32) <<< (zi x &&& 31) : Int32) = mk (fun t => t == x.toNat) := by
          have := mk_shl hx12
          rw [← ex] at this
          exact this
        rw [if_pos q, if_pos ⟨⟨c, e⟩, q⟩, xck_z (by omega) (by omega) (by decide), xck_z (by omega) (by omega) (by decide), zixz (by omega) (by omega), CP_L h (by omega), es, mk_or, mk_put]
      · rw [if_neg q, if_neg (fun z => q z.2)]
    · rw [decide_eq_false e, if_neg (by decide), if_neg (fun q => e q.1.2)]
  · rw [decide_eq_false c, if_neg (by decide), if_neg (fun q => c q.1.1)]
theorem s_unlink {M : xM} {p : Nat} {b : Nat → Int} (h : CP M p b) {x y : Int} (h1 : -2147483648 ≤ x) (h2 : x < 2147483648) (h5 : -2147483648 ≤ y) (h6 : y < 2147483648) : m_P_unlink p (zi x) (zi y) M = if ((0 ≤ x ∧ x < nT b) ∧ (0 ≤ y ∧ y < nT b)) ∧ bL b x.toNat y.toNat = true then rI (bz true) (xst M 8 p y.toNat (.int (mk (fun g => if g = x.toNat then false else bL b g y.toNat)))) else rI (bz false) M := by
  have hn := CP_n h
  rw [e_m_P_unlink, s_hasTask h h1 h2, xbI_r, ite_b, s_hasTask h h5 h6, xbI_r, ite_b, xnar_0, xnar_1]
  by_cases c : 0 ≤ x ∧ x < nT b
  · rw [decide_eq_true c, if_pos rfl]
    by_cases e : 0 ≤ y ∧ y < nT b
    · have ex : x = ((x.toNat : Nat) : Int) := by omega
      have ey : y = ((y.toNat : Nat) : Int) := by omega
      have sc := s_isLinked h (show x.toNat < 12 by omega) (show y.toNat < nT b by omega)
      rw [← ex, ← ey] at sc
      rw [decide_eq_true e, if_pos rfl, sc, xbI_r, ite_b]
      by_cases q : bL b x.toNat y.toNat = true
      · have hx12 : x.toNat < 12 := by omega
        have es : (mk (fun g => bL b g y.toNat) &&& (((1 : Int32) <<< (zi x &&& 31) : Int32) ^^^ (-1 : Int32))) = mk (fun t => bL b t y.toNat && !(t == x.toNat)) := by
          have := mk_del (fun g => bL b g y.toNat) hx12
          rw [← ex] at this
          exact this
        rw [if_pos q, if_pos ⟨⟨c, e⟩, q⟩, xck_z (by omega) (by omega) (by decide), xck_z (by omega) (by omega) (by decide), zixz (by omega) (by omega), CP_L h (by omega), es, mk_cut]
      · rw [if_neg q, if_neg (fun z => q z.2)]
    · rw [decide_eq_false e, if_neg (by decide), if_neg (fun q => e q.1.2)]
  · rw [decide_eq_false c, if_neg (by decide), if_neg (fun q => c q.1.1)]
