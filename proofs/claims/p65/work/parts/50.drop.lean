/-! the class's half of the part 50 of the proof of whole (wip/p65/mkhalf.py) -/
def sh (t s : Nat) : Nat := if s < t then s else s + 1
def dpL (b : Nat → Int) (t f g : Nat) : Bool := (decide (sh t f < 12) && decide (sh t g < 12)) && bL b (sh t f) (sh t g)
def dpB (b : Nat → Int) (t : Nat) : Nat → Int := fun k => if k = 2 then b 2 - 1 else if 28 + 12 * t ≤ k ∧ k < 16 + 12 * nT b then b (k + 12) else if 172 ≤ k ∧ k < 316 then (if dpL b t ((k - 172) / 12) ((k - 172) % 12) = true then 1 else 0) else b k
theorem dp_T {b : Nat → Int} {t : Nat} (h : 1 ≤ nT b) : nT (dpB b t) = nT b - 1 := by
  unfold nT dpB
  rw [if_pos rfl]
  unfold nT at h
  omega
theorem dp_row {b : Nat → Int} {t s w : Nat} (hT : nT b ≤ 12) (ht : t < nT b) (hs : s < nT b - 1) (hw : w < 12) : dpB b t (28 + 12 * s + w) = b (28 + 12 * sh t s + w) := by
  unfold dpB sh
  rw [if_neg (by omega)]
  by_cases c : s < t
  · rw [if_neg (by omega), if_neg (by omega), if_pos c]
  · rw [if_pos (by omega), if_neg c]
    congr 1
    omega
theorem dp_lo {b : Nat → Int} {t k : Nat} (h : k < 28) (h2 : k ≠ 2) : dpB b t k = b k := by
  unfold dpB
  rw [if_neg h2, if_neg (by omega), if_neg (by omega)]
theorem dp_L {b : Nat → Int} {t f g : Nat} (hT : nT b ≤ 12) (hf : f < 12) (hg : g < 12) : dpB b t (172 + 12 * f + g) = if dpL b t f g = true then 1 else 0 := by
  unfold dpB
  rw [if_neg (by omega), if_neg (by omega), if_pos (by omega), show (172 + 12 * f + g - 172) / 12 = f by omega, show (172 + 12 * f + g - 172) % 12 = g by omega]
theorem dp_bL {b : Nat → Int} {t f g : Nat} (hT : nT b ≤ 12) (hf : f < 12) (hg : g < 12) : bL (dpB b t) f g = dpL b t f g := by
  unfold bL
  rw [dp_L hT hf hg]
  cases dpL b t f g <;> rfl
theorem sh_lt {t s n : Nat} (ht : t < n) (hs : s < n - 1) : sh t s < n := by
  unfold sh; split <;> omega
theorem wF_dp {b : Nat → Int} (hw : wF b) {t : Nat} (ht : t < nT b) (h2 : 2 ≤ nT b) : wF (dpB b t) := by
  obtain ⟨⟨a1, a2, a3, a4, a5, a6, a7, a8⟩, w2, w3, w4, w5⟩ := hw
  have nt : nT b ≤ 12 := by unfold nT; omega
  have bt : b 2 = nT b := by unfold nT; omega
  have eT : nT (dpB b t) = nT b - 1 := dp_T (by omega)
  have eR : nR (dpB b t) = nR b := by unfold nR; rw [dp_lo (by omega) (by omega)]
  have nr : nR b ≤ 3 := by unfold nR; omega
  have eD : ∀ s, s < nT b - 1 → bD (dpB b t) s = bD b (sh t s) := fun s hs => by
    have := dp_row (w := 7) nt ht hs (by omega)
    unfold bD
    rw [show 35 + 12 * s = 28 + 12 * s + 7 by omega, show 35 + 12 * sh t s = 28 + 12 * sh t s + 7 by omega]; exact this
  have eE : ∀ s, s < nT b - 1 → bE (dpB b t) s = bE b (sh t s) := fun s hs => by
    have := dp_row (w := 8) nt ht hs (by omega)
    unfold bE
    rw [show 36 + 12 * s = 28 + 12 * s + 8 by omega, show 36 + 12 * sh t s = 28 + 12 * sh t s + 8 by omega]; exact this
  have eU : ∀ s r, s < nT b - 1 → r < 3 → bU (dpB b t) s r = bU b (sh t s) r := fun s r hs hr => by
    have := dp_row (w := 9 + r) nt ht hs (by omega)
    unfold bU
    rw [show 37 + 12 * s + r = 28 + 12 * s + (9 + r) by omega, show 37 + 12 * sh t s + r = 28 + 12 * sh t s + (9 + r) by omega]; exact this
  have eC : ∀ r, r < 3 → bC (dpB b t) r = bC b r ∨ r = 2 → bC (dpB b t) r = bC b r ∨ r = 2 := fun _ _ h => h
  have eC : ∀ r, r < nR b → bC (dpB b t) r = bC b r := fun r hr => by
    unfold bC
    exact dp_lo (by omega) (by omega)
  refine ⟨⟨?_, by rw [dp_lo (by omega) (by omega)]; exact a2, by rw [dp_lo (by omega) (by omega)]; exact a3, fun s hs => ?_, fun s hs => ?_, fun s r hs hr => ?_, fun r hr => ?_, ?_⟩, fun f g hf hg => ?_, fun s hs => ?_, fun r hr => ?_, fun r hr => ?_⟩
  · have : dpB b t 2 = b 2 - 1 := by unfold dpB; rw [if_pos rfl]
    rw [this]; omega
  · rw [eT] at hs; rw [eD s hs]; exact a4 _ (sh_lt ht hs)
  · rw [eT] at hs; rw [eE s hs]; exact a5 _ (sh_lt ht hs)
  · rw [eT] at hs; rw [eR] at hr; rw [eU s r hs (by omega), eC r hr]; exact a6 _ r (sh_lt ht hs) hr
  · rw [eR] at hr; rw [eC r hr]; exact a7 r hr
  · rw [eT]
    obtain ⟨rk, _, r2⟩ := a8
    refine acy_of (fun s => rk (sh t s)) (fun f g hf hg q => ?_)
    rw [dp_bL nt (by omega) (by omega)] at q
    unfold dpL at q
    rw [Bool.and_eq_true] at q
    exact r2 _ _ (sh_lt ht hf) (sh_lt ht hg) q.2
  · rw [eT, dp_L nt hf hg]
    cases q : dpL b t f g with
    | false => exact ⟨Or.inl rfl, fun z => by rw [if_neg (by decide)] at z; exact absurd z (by decide)⟩
    | true =>
      refine ⟨Or.inr rfl, fun _ => ?_⟩
      unfold dpL at q
      rw [Bool.and_eq_true, Bool.and_eq_true] at q
      have q1 := of_decide_eq_true q.1.1
      have q2 := of_decide_eq_true q.1.2
      have := (w2 _ _ q1 q2).2 (of_decide_eq_true q.2)
      unfold sh at this
      have h1 := this.1
      have h2 := this.2
      constructor
      · split at h1 <;> omega
      · split at h2 <;> omega
  · rw [eT] at hs
    refine nmB_congr (w3 _ (sh_lt ht hs)) ?_ (fun k hk => ?_)
    · have := dp_row (w := 0) nt ht hs (by omega)
      exact this
    · have := dp_row (w := 1 + k) nt ht hs (by omega)
      rw [show 28 + 12 * s + 1 + k = 28 + 12 * s + (1 + k) by omega, show 28 + 12 * sh t s + 1 + k = 28 + 12 * sh t s + (1 + k) by omega]; exact this
  · rw [eR] at hr
    exact nmB_congr (w4 r hr) (dp_lo (by omega) (by omega)) (fun k hk => dp_lo (by omega) (by omega))
  · rw [eR] at hr; rw [eC r hr]; exact w5 r hr
/-- a row that is moved -/
theorem s_move {M : xM} {p f t : Nat} (hf : f < 12) (ht : t < 12) (hft : f ≠ t) : ∃ M', m_P_moveTask p (zi f) (zi t) M = rV M' ∧ (∀ k o s, ¬ (o = p ∧ ((5 ≤ k ∧ k ≤ 8 ∧ s = t) ∨ (k = 9 ∧ 3 * t ≤ s ∧ s < 3 * t + 3))) → M' k o s = M k o s) ∧ (gi M' 6 p t = gi M 6 p f ∧ gi M' 7 p t = gi M 7 p f ∧ gi M' 8 p t = gi M 8 p f ∧ gl M' 5 p t = gl M 5 p f) ∧ ∀ r, r < 3 → gi M' 9 p (3 * t + r) = gi M 9 p (3 * f + r) := by
  rw [e_m_P_moveTask, xck_n hf (by decide), xck_n ht (by decide), xck_n hf (by decide), xck_n ht (by decide), xck_n hf (by decide), xck_n ht (by decide), xck_n hf (by decide), xck_n ht (by decide), zix (by omega), zix (by omega)]
  refine lpM (B := fun i M' => b_P_moveTask_35 p (zi f) (zi t) (zi (i : Nat)) M') (n := 3) (fun i M' => (∀ k o s, ¬ (o = p ∧ ((5 ≤ k ∧ k ≤ 8 ∧ s = t) ∨ (k = 9 ∧ 3 * t ≤ s ∧ s < 3 * t + 3))) → M' k o s = M k o s) ∧ (gi M' 6 p t = gi M 6 p f ∧ gi M' 7 p t = gi M 7 p f ∧ gi M' 8 p t = gi M 8 p f ∧ gl M' 5 p t = gl M 5 p f) ∧ ∀ r, r < i → gi M' 9 p (3 * t + r) = gi M 9 p (3 * f + r)) (fun r => ∃ M', r = rV M' ∧ (∀ k o s, ¬ (o = p ∧ ((5 ≤ k ∧ k ≤ 8 ∧ s = t) ∨ (k = 9 ∧ 3 * t ≤ s ∧ s < 3 * t + 3))) → M' k o s = M k o s) ∧ (gi M' 6 p t = gi M 6 p f ∧ gi M' 7 p t = gi M 7 p f ∧ gi M' 8 p t = gi M 8 p f ∧ gl M' 5 p t = gl M 5 p f) ∧ ∀ r, r < 3 → gi M' 9 p (3 * t + r) = gi M 9 p (3 * f + r)) ?_ ?_ 0 _ (Nat.zero_le _) ⟨fun k o s h => ?_, ⟨?_, ?_, ?_, ?_⟩, fun r hr => absurd hr (Nat.not_lt_zero r)⟩
  · intro i M1 hi ⟨f1, g1, u1⟩
    have src : gi M1 9 p (3 * f + i) = gi M 9 p (3 * f + i) := by
      unfold gi; rw [f1 9 p _ (by omega)]
    refine ⟨xst M1 9 p (3 * t + i) (.int (gi M1 9 p (3 * f + i))), ⟨fun k o s h => ?_, ?_, fun r hr => ?_⟩, ?_⟩
    · show (if k = 9 ∧ o = p ∧ s = 3 * t + i then _ else M1 k o s) = _
      rw [if_neg (by omega)]; exact f1 k o s h
    · rw [gi_k (by decide), gi_k (by decide), gi_k (by decide), gl_k (by decide)]; exact g1
    · by_cases e : r = i
      · subst e; rw [gi_h]; exact src
      · rw [gi_s (by omega)]; exact u1 r (by omega)
    · show b_P_moveTask_35 p (zi f) (zi t) (zi (i : Nat)) M1 = _
      rw [e_b_P_moveTask_35, zi_03, zif (by omega) (by omega) (by decide) (by decide), if_pos (by omega), zi_mul, zi_add, zi_mul, zi_add, xck_z (by omega) (by omega) (by decide), xck_z (by omega) (by omega) (by decide), zixz (by omega) (by omega), zixz (by omega) (by omega), zi_suc, show ((f : Int) * 3 + (i : Int)).toNat = 3 * f + i by omega, show ((t : Int) * 3 + (i : Int)).toNat = 3 * t + i by omega]
  · intro M1 h
    refine ⟨M1, ?_, h⟩
    show b_P_moveTask_35 p (zi f) (zi t) (zi ((3 : Nat) : Int)) M1 = _
    rw [e_b_P_moveTask_35, zi_03, zif (by decide) (by decide) (by decide) (by decide), if_neg (by decide)]
  · show (if k = 8 ∧ o = p ∧ s = t then _ else (if k = 7 ∧ o = p ∧ s = t then _ else (if k = 6 ∧ o = p ∧ s = t then _ else (if k = 5 ∧ o = p ∧ s = t then _ else M k o s)))) = _
    rw [if_neg (by omega), if_neg (by omega), if_neg (by omega), if_neg (by omega)]
  · rw [gi_k (by decide), gi_k (by decide), gi_h]
  · rw [gi_k (by decide), gi_h]
  · rw [gi_h]
  · rw [gl_k (by decide), gl_k (by decide), gl_k (by decide), gl_h]
theorem s_remove {M : xM} {p : Nat} {b : Nat → Int} (h : CP M p b) {x : Int} (h1 : -2147483648 ≤ x) (h2 : x < 2147483648) (hno : ¬ ((0 ≤ x ∧ x < nT b) ∧ nT b ≠ 1)) : m_P_removeTask p (zi x) M = rI (bz false) M := by
  have hn := CP_n h
  rw [e_m_P_removeTask, s_hasTask h h1 h2, xbI_r, ite_b, xnar_0]
  by_cases c : 0 ≤ x ∧ x < nT b
  · have e : nT b = 1 := by
      by_cases e : nT b = 1
      · exact e
      · exact absurd ⟨c, e⟩ hno
    rw [decide_eq_true c, if_pos rfl, CP_T h, e, if_pos (show zi ((1 : Nat) : Int) = 1 from rfl)]
  · rw [decide_eq_false c, if_neg (by decide)]
theorem s_removeT {M : xM} {p : Nat} {b : Nat → Int} (h : CP M p b) (hw : wF b) {t : Nat} (ht : t < nT b) (h2 : 2 ≤ nT b) : ∃ M', m_P_removeTask p (zi t) M = rI (bz true) M' ∧ fr (onP p) M M' ∧ CP M' p (dpB b t) := by
  have hn := CP_n h
  have hr := CP_r h
  have bt : b 2 = nT b := by unfold nT; unfold nT at ht; omega
  have kk : ∀ k, 2 ≤ k → k ≤ 9 → onP p k p = true := fun k h1 h2 => by
    unfold onP
    rw [Nat.ble_eq_true_of_le h1, Nat.ble_eq_true_of_le h2]
    exact Nat.beq_refl p
  have onf : ∀ {M1 M2 : xM} {t : Nat}, (∀ k o s, ¬ (o = p ∧ ((5 ≤ k ∧ k ≤ 8 ∧ s = t) ∨ (k = 9 ∧ 3 * t ≤ s ∧ s < 3 * t + 3))) → M2 k o s = M1 k o s) → fr (onP p) M1 M2 := fun h k o s q => h k o s (by
    rintro ⟨rfl, hk⟩
    rw [kk k (by omega) (by omega)] at q; cases q)
  rw [e_m_P_removeTask, s_hasTask h (by omega) (by omega), xbI_r, ite_b, decide_eq_true (show (0 : Int) ≤ (t : Int) ∧ (t : Int) < nT b by omega), if_pos rfl, CP_T h, zi_01, zife (by omega) (by omega) (by decide) (by decide), if_neg (by omega), zi_sub]
  have st0 : ∃ T : Nat, T = nT b - 1 ∧ (nT b : Int) - 1 = (T : Nat) := ⟨nT b - 1, rfl, by omega⟩
  obtain ⟨T, eT, eT2⟩ := st0
  rw [eT2]
  have key := lpM (B := fun i M' => b_P_removeTask_19 p (zi t) (zi ((t + i : Nat) : Int)) M') (n := T - t) (fun i M' => fr (onP p) M M' ∧ (gi M' 2 p 0 = gi M 2 p 0 ∧ gi M' 2 p 1 = gi M 2 p 1 ∧ gi M' 2 p 2 = zi (T : Nat)) ∧ (∀ s, s < 12 → (gi M' 6 p s = gi M 6 p (if t ≤ s ∧ s < t + i then s + 1 else s) ∧ gi M' 7 p s = gi M 7 p (if t ≤ s ∧ s < t + i then s + 1 else s) ∧ gi M' 8 p s = gi M 8 p (if t ≤ s ∧ s < t + i then s + 1 else s) ∧ gl M' 5 p s = gl M 5 p (if t ≤ s ∧ s < t + i then s + 1 else s)) ∧ ∀ r, r < 3 → gi M' 9 p (3 * s + r) = gi M 9 p (3 * (if t ≤ s ∧ s < t + i then s + 1 else s) + r)) ∧ (∀ r, gi M' 4 p r = gi M 4 p r ∧ gl M' 3 p r = gl M 3 p r)) (fun r => ∃ M', r = b_P_removeTask_34 p (zi t) (zi ((0 : Nat) : Int)) M' ∧ fr (onP p) M M' ∧ (gi M' 2 p 0 = gi M 2 p 0 ∧ gi M' 2 p 1 = gi M 2 p 1 ∧ gi M' 2 p 2 = zi (T : Nat)) ∧ (∀ s, s < T → (gi M' 6 p s = gi M 6 p (sh t s) ∧ gi M' 7 p s = gi M 7 p (sh t s) ∧ gi M' 8 p s = gi M 8 p (sh t s) ∧ gl M' 5 p s = gl M 5 p (sh t s)) ∧ ∀ r, r < 3 → gi M' 9 p (3 * s + r) = gi M 9 p (3 * (sh t s) + r)) ∧ (∀ r, gi M' 4 p r = gi M 4 p r ∧ gl M' 3 p r = gl M 3 p r)) (fun i M1 hi ⟨f1, g1, u1, c1⟩ => ?_) (fun M1 ⟨f1, g1, u1, c1⟩ => ?_) 0 (xst M 2 p 2 (.int (zi (T : Nat)))) (Nat.zero_le _) ⟨fr_st (kk 2 (by omega) (by omega)), ⟨gi_s (by decide), gi_s (by decide), gi_h _ _ _ _ _⟩, fun s hs => ?_, fun r => ⟨gi_k (by decide), gl_k (by decide)⟩⟩
  · obtain ⟨M1, e1, f1, g1, u1, c1⟩ := key
    have e1 : b_P_removeTask_19 p (zi t) (zi (t : Nat)) (xst M 2 p 2 (.int (zi (T : Nat)))) = b_P_removeTask_34 p (zi t) (zi ((0 : Nat) : Int)) M1 := e1
    rw [e1]
    refine lpM (B := fun i M' => b_P_removeTask_34 p (zi t) (zi (i : Nat)) M') (n := T) (fun i M' => fr (onP p) M M' ∧ (gi M' 2 p 0 = gi M 2 p 0 ∧ gi M' 2 p 1 = gi M 2 p 1 ∧ gi M' 2 p 2 = zi (T : Nat)) ∧ (∀ s, s < T → (gi M' 6 p s = gi M 6 p (sh t s) ∧ gi M' 7 p s = gi M 7 p (sh t s) ∧ gi M' 8 p s = (if s < i then mk (wbP (fun f => bL b f (sh t s)) t) else gi M 8 p (sh t s)) ∧ gl M' 5 p s = gl M 5 p (sh t s)) ∧ ∀ r, r < 3 → gi M' 9 p (3 * s + r) = gi M 9 p (3 * (sh t s) + r)) ∧ (∀ r, gi M' 4 p r = gi M 4 p r ∧ gl M' 3 p r = gl M 3 p r)) (fun r => ∃ M', r = rI (bz true) M' ∧ fr (onP p) M M' ∧ CP M' p (dpB b t)) ?_ ?_ 0 M1 (Nat.zero_le _) ⟨f1, g1, fun s hs => ⟨⟨(u1 s hs).1.1, (u1 s hs).1.2.1, by rw [if_neg (by omega)]; exact (u1 s hs).1.2.2.1, (u1 s hs).1.2.2.2⟩, (u1 s hs).2⟩, c1⟩
    · intro i M2 hi ⟨f2, g2, u2, c2⟩
      have hi2 : sh t i < nT b := sh_lt ht (by omega)
      have m8 : gi M2 8 p i = mk (fun f => bL b f (sh t i)) := by
        rw [(u2 i hi).1.2.2.1, if_neg (by omega)]; exact CP_L h hi2
      refine ⟨xst M2 8 p i (.int (mk (wbP (fun f => bL b f (sh t i)) t))), ⟨fr_step f2 (kk 8 (by omega) (by omega)), ⟨(gi_k (by decide)).trans g2.1, (gi_k (by decide)).trans g2.2.1, (gi_k (by decide)).trans g2.2.2⟩, fun s hs => ⟨⟨(gi_k (by decide)).trans (u2 s hs).1.1, (gi_k (by decide)).trans (u2 s hs).1.2.1, ?_, (gl_k (by decide)).trans (u2 s hs).1.2.2.2⟩, fun r hr2 => (gi_k (by decide)).trans ((u2 s hs).2 r hr2)⟩, fun r => ⟨(gi_k (by decide)).trans (c2 r).1, (gl_k (by decide)).trans (c2 r).2⟩⟩, ?_⟩
      · by_cases e : s = i
        · subst e; rw [gi_h, if_pos (by omega)]
        · rw [gi_s e, (u2 s hs).1.2.2.1]
          by_cases q : s < i
          · rw [if_pos q, if_pos (by omega)]
          · rw [if_neg q, if_neg (by omega)]
      · show b_P_removeTask_34 p (zi t) (zi (i : Nat)) M2 = _
        have wb : m_P_withoutBit (mk (fun f => bL b f (sh t i))) (zi t) M2 = rI (mk (wbP (fun f => bL b f (sh t i)) t)) M2 := by
          rw [e_m_P_withoutBit]
          show rI (wbX _ _) M2 = _
          rw [wbX_mk _ (by omega)]
        rw [e_b_P_removeTask_34, g2.2.2, if_pos (zi_ltn hi (by omega)), xck_n (by omega) (by decide), zix (by omega), m8, wb, xbI_r, xck_n (by omega) (by decide), zi_suc]
    · intro M2 ⟨f2, g2, u2, c2⟩
      have eTd : nT (dpB b t) = T := by rw [dp_T (by omega), eT]
      have eRd : nR (dpB b t) = nR b := by unfold nR; rw [dp_lo (by omega) (by omega)]
      refine ⟨M2, ?_, f2, CP_ext h ⟨fun s hs => by omega, eRd, by omega⟩ ⟨?_, ?_, ?_⟩ (fun s hs => ?_) (fun r hr2 => ?_) (fun s r hs hr2 => ?_)⟩
      · show b_P_removeTask_34 p (zi t) (zi (T : Nat)) M2 = _
        rw [e_b_P_removeTask_34, g2.2.2, if_neg (zi_irr _), xnar_1]
      · rw [g2.1, dp_lo (by omega) (by omega)]; exact CP_0 h
      · rw [g2.2.1, eRd]; exact CP_R h
      · rw [g2.2.2, eTd]
      · rw [eTd] at hs
        have hs' : s < nT b - 1 := by omega
        have hs2 : sh t s < nT b := sh_lt ht hs'
        have rw_ := fun (w : Nat) (hw : w < 12) => dp_row (w := w) hn ht hs' hw
        have u := (u2 s hs).1
        refine ⟨?_, ?_, ?_, ?_⟩
        · rw [u.1, CP_D h hs2]
          have := rw_ 7 (by omega)
          unfold bD
          rw [show 35 + 12 * s = 28 + 12 * s + 7 by omega, show 35 + 12 * sh t s = 28 + 12 * sh t s + 7 by omega, this]
        · rw [u.2.1, CP_E h hs2]
          have := rw_ 8 (by omega)
          unfold bE
          rw [show 36 + 12 * s = 28 + 12 * s + 8 by omega, show 36 + 12 * sh t s = 28 + 12 * sh t s + 8 by omega, this]
        · rw [u.2.2.1, if_pos hs]
          refine mk_ext (fun f hf => ?_)
          rw [dp_bL hn hf (by omega)]
          unfold wbP dpL sh
          by_cases c : f < t
          · rw [if_pos c, if_pos c, decide_eq_true hf, Bool.true_and]
            have : (if s < t then s else s + 1) < 12 := by split <;> omega
            rw [decide_eq_true this, Bool.true_and]
          · rw [if_neg c, if_neg c]
            have : (if s < t then s else s + 1) < 12 := by split <;> omega
            rw [decide_eq_true this, Bool.and_true]
            have : decide (f < 11) = decide (f + 1 < 12) := by
              apply decide_eq_decide.mpr; omega
            rw [this]
        · rw [u.2.2.2, CP_N h hs2]
          refine (pk_congr (show dpB b t (28 + 12 * s) = b (28 + 12 * sh t s) from rw_ 0 (by omega)) (fun k hk => ?_)).symm
          have := (hw.2.2.1 _ hs2).1
          have := rw_ (1 + k) (by omega)
          rw [show 28 + 12 * s + 1 + k = 28 + 12 * s + (1 + k) by omega, show 28 + 12 * sh t s + 1 + k = 28 + 12 * sh t s + (1 + k) by omega]; exact this
      · rw [eRd] at hr2
        rw [(c2 r).1, (c2 r).2]
        refine ⟨?_, ?_⟩
        · rw [CP_C h hr2]
          unfold bC
          rw [dp_lo (by omega) (by omega)]
        · rw [CP_M h hr2]
          have := (hw.2.2.2.1 r hr2).1
          exact (pk_congr (dp_lo (by omega) (by omega)) (fun k hk => dp_lo (by omega) (by omega))).symm
      · rw [eTd] at hs
        rw [eRd] at hr2
        have hs' : s < nT b - 1 := by omega
        have hs2 : sh t s < nT b := sh_lt ht hs'
        rw [(u2 s hs).2 r (by omega), CP_U h hs2 hr2]
        have := dp_row (w := 9 + r) hn ht hs' (by omega)
        unfold bU
        rw [show 37 + 12 * s + r = 28 + 12 * s + (9 + r) by omega, show 37 + 12 * sh t s + r = 28 + 12 * sh t s + (9 + r) by omega, this]
  · -- a step of the first loop
    have ti : t + i < 12 := by omega
    obtain ⟨M2, e2, f2, g2, u2⟩ := s_move (M := M1) (p := p) (f := t + i + 1) (t := t + i) (by omega) ti (by omega)
    have keep : ∀ k s, ¬ ((5 ≤ k ∧ k ≤ 8 ∧ s = t + i) ∨ (k = 9 ∧ 3 * (t + i) ≤ s ∧ s < 3 * (t + i) + 3)) → M2 k p s = M1 k p s := fun k s q => f2 k p s (fun z => q z.2)
    refine ⟨M2, ⟨fr_trans f1 (onf f2), ⟨?_, ?_, ?_⟩, fun s hs => ?_, fun r => ⟨?_, ?_⟩⟩, ?_⟩
    · rw [← g1.1]; unfold gi; rw [keep 2 0 (by omega)]
    · rw [← g1.2.1]; unfold gi; rw [keep 2 1 (by omega)]
    · rw [← g1.2.2]; unfold gi; rw [keep 2 2 (by omega)]
    · by_cases e : s = t + i
      · subst e
        rw [if_pos (by omega : t ≤ t + i ∧ t + i < t + (i + 1))]
        have u := u1 (t + i + 1) (by omega)
        rw [if_neg (by omega)] at u
        refine ⟨⟨g2.1.trans u.1.1, g2.2.1.trans u.1.2.1, g2.2.2.1.trans u.1.2.2.1, g2.2.2.2.trans u.1.2.2.2⟩, fun r hr2 => (u2 r hr2).trans (u.2 r hr2)⟩
      · have u := u1 s hs
        have ei : (if t ≤ s ∧ s < t + (i + 1) then s + 1 else s) = (if t ≤ s ∧ s < t + i then s + 1 else s) := by
          by_cases q : t ≤ s ∧ s < t + i
          · rw [if_pos q, if_pos (by omega)]
          · rw [if_neg q, if_neg (by omega)]
        rw [ei]
        have k6 : gi M2 6 p s = gi M1 6 p s := by unfold gi; rw [keep 6 s (by omega)]
        have k7 : gi M2 7 p s = gi M1 7 p s := by unfold gi; rw [keep 7 s (by omega)]
        have k8 : gi M2 8 p s = gi M1 8 p s := by unfold gi; rw [keep 8 s (by omega)]
        have k5 : gl M2 5 p s = gl M1 5 p s := by unfold gl; rw [keep 5 s (by omega)]
        refine ⟨⟨k6.trans u.1.1, k7.trans u.1.2.1, k8.trans u.1.2.2.1, k5.trans u.1.2.2.2⟩, fun r hr2 => ?_⟩
        have k9 : gi M2 9 p (3 * s + r) = gi M1 9 p (3 * s + r) := by unfold gi; rw [keep 9 _ (by omega)]
        exact k9.trans (u.2 r hr2)
    · rw [← (c1 r).1]; unfold gi; rw [keep 4 r (by omega)]
    · rw [← (c1 r).2]; unfold gl; rw [keep 3 r (by omega)]
    · show b_P_removeTask_19 p (zi t) (zi ((t + i : Nat) : Int)) M1 = b_P_removeTask_19 p (zi t) (zi ((t + (i + 1) : Nat) : Int)) M2
      rw [e_b_P_removeTask_19, g1.2.2, if_pos (zi_ltn (by omega) (by omega)), zi_suc, e2, xbV_r]
      rfl
  · refine ⟨M1, ?_, f1, g1, fun s hs => ?_, c1⟩
    · show b_P_removeTask_19 p (zi t) (zi ((t + (T - t) : Nat) : Int)) M1 = _
      rw [e_b_P_removeTask_19, g1.2.2, show t + (T - t) = T by omega, if_neg (zi_irr _)]
      rfl
    · have u := u1 s (by omega)
      have ei : (if t ≤ s ∧ s < t + (T - t) then s + 1 else s) = sh t s := by
        unfold sh
        by_cases q : s < t
        · rw [if_pos q, if_neg (by omega)]
        · rw [if_neg q, if_pos (by omega)]
      rw [ei] at u
      exact u
  · have ei : (if t ≤ s ∧ s < t + 0 then s + 1 else s) = s := if_neg (by omega)
    rw [ei]
    exact ⟨⟨gi_k (by decide), gi_k (by decide), gi_k (by decide), gl_k (by decide)⟩, fun r _ => gi_k (by decide)⟩
