/-! writing the schedule: the class's builder -/
theorem xnewD_v {M : xM} {k n k' o' s' : Nat} (h100 : k' ≠ 100) (h1 : ¬ (k' = 101 ∧ o' = k)) (h2 : ¬ ((k' = k ∨ k' = 200 + k) ∧ o' = gn M 101 k 0)) (h3 : ¬ (k' = 110 + k ∧ o' = gn M 101 k 0)) : (xnewD M k n) k' o' s' = M k' o' s' := by
  unfold xnewD
  have a : (xst (xnew M k n) (110 + k) (gn M 101 k 0) 0 (.ref n)) k' o' s' = (xnew M k n) k' o' s' := if_neg (fun q => h3 ⟨q.1, q.2.1⟩)
  rw [a]
  unfold xnew
  rw [bump_n _ _ _ _ _ _ h100]
  have c : (xst (xclr M k (gn M 101 k 0)) 101 k 0 (.ref (gn M 101 k 0 + 1))) k' o' s' = (xclr M k (gn M 101 k 0)) k' o' s' := if_neg (fun q => h1 ⟨q.1, q.2.1⟩)
  rw [c]
  exact if_neg h2
theorem xnew_v {M : xM} {k n k' o' s' : Nat} (h100 : k' ≠ 100) (h1 : ¬ (k' = 101 ∧ o' = k)) (h2 : ¬ ((k' = k ∨ k' = 200 + k) ∧ o' = gn M 101 k 0)) : (xnew M k n) k' o' s' = M k' o' s' := by
  unfold xnew
  rw [bump_n _ _ _ _ _ _ h100]
  have c : (xst (xclr M k (gn M 101 k 0)) 101 k 0 (.ref (gn M 101 k 0 + 1))) k' o' s' = (xclr M k (gn M 101 k 0)) k' o' s' := if_neg (fun q => h1 ⟨q.1, q.2.1⟩)
  rw [c]
  exact if_neg h2
theorem xnew_101 (M : xM) (k n : Nat) : gn (xnew M k n) 101 k 0 = gn M 101 k 0 + 1 := by
  unfold xnew
  rw [bump_gn (by decide), gn_h]
theorem xnew_z {M : xM} {k n s : Nat} (h1 : k ≠ 100) (h2 : k ≠ 101) : gi (xnew M k n) k (gn M 101 k 0) s = 0 := by
  unfold xnew
  rw [bump_gi h1, gi_k h2]
  unfold gi xclr
  rw [if_pos ⟨Or.inl rfl, rfl⟩]
theorem xnew_RM {M : xM} {k n : Nat} (h1 : k ≠ 100) (h2 : k < 200) : gn (xnew M k n) 100 0 0 = gn M 100 0 0 + 1 ∧ gn (xnew M k n) 100 0 1 = gn M 100 0 1 + n := by
  have c : ∀ s, gn (xst (xclr M k (gn M 101 k 0)) 101 k 0 (.ref (gn M 101 k 0 + 1))) 100 0 s = gn M 100 0 s := fun s => by
    rw [gn_k (by decide)]
    unfold gn xclr
    rw [if_neg (fun q => by omega)]
  unfold xnew xbump
  rw [gn_s (by decide), gn_h, gn_h, c, c]
  exact ⟨rfl, rfl⟩
theorem xnewD_101 {M : xM} {k n : Nat} : gn (xnewD M k n) 101 k 0 = gn M 101 k 0 + 1 := by
  unfold xnewD
  rw [gn_k (by omega), xnew_101]
theorem xnewD_len {M : xM} {k n : Nat} : gn (xnewD M k n) (110 + k) (gn M 101 k 0) 0 = n := gn_h _ _ _ _ _
theorem xnewD_RM {M : xM} {k n : Nat} (h1 : k ≠ 100) (h2 : k < 200) : gn (xnewD M k n) 100 0 0 = gn M 100 0 0 + 1 ∧ gn (xnewD M k n) 100 0 1 = gn M 100 0 1 + n := by
  have c := xnew_RM (M := M) (n := n) h1 h2
  unfold xnewD
  rw [gn_k (by omega), gn_k (by omega)]
  exact c
theorem gn_cpy {M : xM} {ks os kd od sp dp n k o s : Nat} (h : k ≠ kd) : gn (xcpy M ks os kd od sp dp n) k o s = gn M k o s := by
  unfold gn xcpy
  rw [if_neg (fun q => h q.1)]
def onWx (k o _ : Nat) : Bool := Nat.beq k 49 || Nat.beq k 50 || Nat.beq k 100 || Nat.beq k 159 || Nat.beq k 249 || Nat.beq k 250 || (Nat.beq k 101 && (Nat.beq o 49 || Nat.beq o 50))
theorem onWx_f {k o s : Nat} (h : onWx k o s = false) : k ≠ 49 ∧ k ≠ 50 ∧ k ≠ 100 ∧ k ≠ 159 ∧ k ≠ 249 ∧ k ≠ 250 ∧ ¬ (k = 101 ∧ o = 49) ∧ ¬ (k = 101 ∧ o = 50) := by
  refine ⟨?_, ?_, ?_, ?_, ?_, ?_, ?_, ?_⟩
  · intro e; subst e; exact nomatch (show true = false from h)
  · intro e; subst e; exact nomatch (show true = false from h)
  · intro e; subst e; exact nomatch (show true = false from h)
  · intro e; subst e; exact nomatch (show true = false from h)
  · intro e; subst e; exact nomatch (show true = false from h)
  · intro e; subst e; exact nomatch (show true = false from h)
  · rintro ⟨e, e2⟩; subst e; subst e2; exact nomatch (show true = false from h)
  · rintro ⟨e, e2⟩; subst e; subst e2; exact nomatch (show true = false from h)
theorem Wx_new (M : xM) (n : Nat) : fz onWx M (xnewD M 49 n) := fun k o s h => by
  obtain ⟨a, c, d, e, f, g, i, j⟩ := onWx_f h
  exact xnewD_v d i (fun q => by rcases q.1 with r | r <;> omega) (fun q => by omega)
theorem Wx_cpy {M : xM} {os od sp dp n : Nat} : fz onWx M (xcpy M 49 os 49 od sp dp n) := fun k o s h => if_neg (fun q => (onWx_f h).1 q.1)
/-- the builder holds a text -/
def CWx (M0 M : xM) (sb : Nat) (T : Wx) (a cap : Nat) : Prop := (gn M 250 sb 0 = 1 ∧ gi M 50 sb 1 = 0 ∧ gi M 50 sb 2 = zi (T.1 : Nat) ∧ gn M 50 sb 0 = a ∧ gn M 159 a 0 = cap ∧ a < gn M 101 49 0) ∧ (T.1 ≤ cap ∧ 16 ≤ cap ∧ cap ≤ 2 * T.1 + 16) ∧ (∀ i, i < T.1 → gi M 49 a i = T.2 i) ∧ (gn M 100 0 0 ≤ gn M0 100 0 0 + cap ∧ gn M 100 0 1 ≤ gn M0 100 0 1 + 4 * cap) ∧ fz onWx M0 M
theorem sh0 (x : Int32) : (x >>> ((0 : Int32) &&& 31) : Int32) = x := Int32.shiftRight_zero
theorem sl0 (x : Int32) : (x <<< ((0 : Int32) &&& 31) : Int32) = x := Int32.shiftLeft_zero
theorem s_newCap {M : xM} {sb a cap m : Nat} (h1 : gn M 250 sb 0 = 1) (h2 : gi M 50 sb 1 = 0) (h3 : gn M 50 sb 0 = a) (h4 : gn M 159 a 0 = cap) (hc : 16 ≤ cap) (hc2 : cap ≤ 1000) (hm : cap < m) (hm2 : m ≤ cap + 3) : m_JA_newCapacity sb (zi (m : Nat)) M = rI (zi ((2 * cap + 2 : Nat) : Int)) M := by
  rw [e_m_JA_newCapacity, if_pos h1, h3, h4, h2, sl0, sl0, zi_n, zi_sub, zi_02, zi_add, e_m_JP_newLength, e_m_JM_max, zif (by omega) (by omega) (by omega) (by omega), if_pos (by omega), xret_v, xbI_r, zi_add, zi_00, zif (by omega) (by omega) (by omega) (by omega), if_pos (by omega), show (2147483639 : Int32) = zi 2147483639 from rfl, zif (by omega) (by omega) (by omega) (by omega), if_neg (by omega), xret_v, xbI_r, show (2147483647 : Int32) = zi 2147483647 from rfl, zife (by omega) (by omega) (by omega) (by omega), if_neg (by omega), h2, sh0, show (cap : Int) + ((cap : Int) + 2) = ((2 * cap + 2 : Nat) : Int) by omega]
theorem s_copyOf {M : xM} {a cap n : Nat} (h4 : gn M 159 a 0 = cap) (ha : a < gn M 101 49 0) (hn : cap < n) (hn2 : n ≤ 65536) : m_JR_copyOf a (zi (n : Nat)) M = some (.inl (some (49, .ref (gn M 101 49 0))), xcpy (xnewD M 49 n) 49 a 49 (gn M 101 49 0) 0 0 cap) := by
  have l1 : gn (xnewD M 49 n) 159 a 0 = cap := by
    have : (xnewD M 49 n) 159 a 0 = M 159 a 0 := xnewD_v (by decide) (by omega) (by omega) (by omega)
    have e : gn (xnewD M 49 n) 159 a 0 = gn M 159 a 0 := by unfold gn; rw [this]
    exact e.trans h4
  have l2 : gn (xnewD M 49 n) 159 (gn M 101 49 0) 0 = n := xnewD_len
  have i0 : ix 0 = 0 := rfl
  rw [e_m_JR_copyOf, h4, zi_n, zife (by omega) (by omega) (by omega) (by omega), if_neg (by omega), if_neg (fun q => by
    rcases q with q | q
    · rw [zi_00, zi_lt (by omega) (by omega) (by omega) (by omega)] at q; omega
    · rw [zix (by omega)] at q; omega), zix (by omega), l1, zi_n, e_m_JM_min, zif (by omega) (by omega) (by omega) (by omega), if_neg (by omega), xret_v, xbI_r, l1, l2, i0, zix (by omega), if_neg (fun q => by
    rcases q with q | q | q | q | q
    · exact Int32.lt_irrefl q
    · exact Int32.lt_irrefl q
    · rw [zi_00, zi_lt (by omega) (by omega) (by omega) (by omega)] at q; omega
    · omega
    · omega)]
theorem s_ens {M0 M : xM} {sb : Nat} {T : Wx} {a cap k : Nat} (h : CWx M0 M sb T a cap) (hk : k ≤ 3) (hl : T.1 + k ≤ 220) : ∃ M1 a1 cap1, m_JA_ensureCapacityInternal sb (zi ((T.1 + k : Nat) : Int)) M = rV M1 ∧ CWx M0 M1 sb T a1 cap1 ∧ T.1 + k ≤ cap1 := by
  obtain ⟨⟨c1, c2, c3, c4, c5, c6⟩, ⟨d1, d2, d3⟩, e, ⟨r1, r2⟩, f⟩ := h
  have hd : m_JA_ensureCapacityInternal sb (zi ((T.1 + k : Nat) : Int)) M = if 0 < zi (((T.1 + k : Nat) : Int) - (cap : Int)) then xbI (xret (m_JA_newCapacity sb (zi ((T.1 + k : Nat) : Int)) M)) (fun r2 M1 => xbR (xret (m_JR_copyOf a (r2 <<< ((gi M1 50 sb 1) &&& 31) : Int32) M1)) 49 (fun r4 M3 => rV (xst (xst M3 50 sb 0 (.ref r4)) 250 sb 0 (.ref 1)))) else rV M := by
    rw [e_m_JA_ensureCapacityInternal, if_pos c1, c4, c5, c2, sh0, zi_n, zi_sub, if_pos c1]
  rw [hd, zi_00, zif (by omega) (by omega) (by omega) (by omega)]
  by_cases g : T.1 + k ≤ cap
  · rw [if_neg (by omega)]
    exact ⟨M, a, cap, rfl, ⟨⟨c1, c2, c3, c4, c5, c6⟩, ⟨d1, d2, d3⟩, e, ⟨r1, r2⟩, f⟩, g⟩
  · rw [if_pos (by omega), s_newCap c1 c2 c4 c5 d2 (by omega) (by omega) (by omega), xret_v, xbI_r, c2, sl0, s_copyOf c5 c6 (by omega) (by omega), xret_v, xbR_r]
    have q50 : ∀ o s, (xcpy (xnewD M 49 (2 * cap + 2)) 49 a 49 (gn M 101 49 0) 0 0 cap) 50 o s = M 50 o s := fun o s => (if_neg (fun q => absurd q.1 (by decide))).trans (xnewD_v (by decide) (by omega) (by omega) (by omega))
    have g50 : ∀ o s, gi (xcpy (xnewD M 49 (2 * cap + 2)) 49 a 49 (gn M 101 49 0) 0 0 cap) 50 o s = gi M 50 o s := fun o s => by unfold gi; rw [q50]
    have z49 : ∀ i, gi (xnewD M 49 (2 * cap + 2)) 49 a i = gi M 49 a i := fun i => by
      unfold gi
      rw [xnewD_v (by decide) (by omega) (by omega) (by omega)]
    have rm := xnewD_RM (M := M) (k := 49) (n := 2 * cap + 2) (by decide) (by decide)
    refine ⟨_, gn M 101 49 0, 2 * cap + 2, rfl, ⟨⟨gn_h _ _ _ _ _, ?_, ?_, ?_, ?_, ?_⟩, ⟨by omega, by omega, by omega⟩, fun i hi => ?_, ⟨?_, ?_⟩, ?_⟩, by omega⟩
    · rw [gi_k (by decide), gi_s (by decide), g50]; exact c2
    · rw [gi_k (by decide), gi_s (by decide), g50]; exact c3
    · rw [gn_k (by decide), gn_h]
    · rw [gn_k (by decide), gn_k (by decide), gn_cpy (by decide)]; exact xnewD_len
    · rw [gn_k (by decide), gn_k (by decide), gn_cpy (by decide), xnewD_101]; omega
    · rw [gi_k (by decide), gi_k (by decide), gi_cpy, if_pos ⟨rfl, rfl, by omega, by omega⟩, show 0 + (i - 0) = i by omega, z49]
      exact e i hi
    · rw [gn_k (by decide), gn_k (by decide), gn_cpy (by decide), rm.1]; omega
    · rw [gn_k (by decide), gn_k (by decide), gn_cpy (by decide), rm.2]; omega
    · exact fz_step (fz_step (fz_trans f (fz_trans (Wx_new _ _) Wx_cpy)) rfl) rfl
theorem by_tab : (List.range 128).all (fun c => (Int32.toInt8 ((Int32.toInt8 (zi ((c : Nat) : Int))).toInt32)).toInt32 == zi ((c : Nat) : Int)) = true := by decide +kernel
theorem by_eq {c : Nat} (h : c < 128) : (Int32.toInt8 ((Int32.toInt8 (zi ((c : Nat) : Int))).toInt32)).toInt32 = zi ((c : Nat) : Int) := eq_of_beq (List.all_eq_true.mp by_tab c (List.mem_range.mpr h))
theorem s_app {M0 M : xM} {sb : Nat} {T : Wx} {a cap c : Nat} (h : CWx M0 M sb T a cap) (hc : c < 128) (hl : T.1 + 1 ≤ 220) : ∃ M1 a1 cap1, m_JB_append_0 sb (zi (c : Nat)) M = some (.inl (some (50, .ref sb)), M1) ∧ CWx M0 M1 sb (wxp T (zi (c : Nat))) a1 cap1 := by
  obtain ⟨M1, a1, cap1, e1, h1, l1⟩ := s_ens h (by decide) hl
  have hcnt := h.1.2.2.1
  obtain ⟨⟨c1, c2, c3, c4, c5, c6⟩, ⟨d1, d2, d3⟩, e, ⟨r1, r2⟩, f⟩ := h1
  have lat : ∀ N, gi N 50 sb 1 = 0 → m_JA_isLatin1 sb N = rI (bz true) N := fun N q => by rw [e_m_JA_isLatin1, if_neg (by decide), if_pos q, xnar_1]
  have enc : ∀ N, m_JL_canEncode (zi (c : Nat)) N = rI (bz true) N := fun N => by
    rw [e_m_JL_canEncode, show (255 : Int32) = zi 255 from rfl, zif (by decide) (by decide) (by omega) (by omega), if_neg (by omega), xnar_1]
  refine ⟨xst (xst M1 50 sb 2 (.int (zi ((T.1 + 1 : Nat) : Int)))) 49 a1 T.1 (.int (zi (c : Nat))), a1, cap1, ?_, ⟨⟨?_, ?_, ?_, ?_, ?_, ?_⟩, ⟨?_, d2, ?_⟩, fun i hi => ?_, ⟨?_, ?_⟩, fz_step (fz_step f rfl) rfl⟩⟩
  · rw [e_m_JB_append_0, e_m_JA_append_0, hcnt, zi_suc, e1, xret_v, xbV_r, lat M1 c2, xret_v, xbI_r, ite_bt, enc, xret_v, xbI_r, ite_bt, if_pos c1, c3, c4, c5, xck_n (by omega) (by omega), xret_v, xbR_r, zi_suc, zix (by omega), by_eq hc]
  · rw [gn_k (by decide), gn_k (by decide)]; exact c1
  · rw [gi_k (by decide), gi_s (by decide)]; exact c2
  · rw [gi_k (by decide), gi_h]; rfl
  · rw [gn_k (by decide), gn_s (by decide)]; exact c4
  · rw [gn_k (by decide), gn_k (by decide)]; exact c5
  · rw [gn_k (by decide), gn_k (by decide)]; exact c6
  · show T.1 + 1 ≤ cap1; exact l1
  · show cap1 ≤ 2 * (T.1 + 1) + 16; omega
  · show _ = if i = T.1 then _ else _
    by_cases q : i = T.1
    · subst q; rw [if_pos rfl, gi_h]
    · rw [if_neg q, gi_s q, gi_k (by decide)]
      exact e i (by have : i < T.1 + 1 := hi; omega)
  · rw [gn_k (by decide), gn_k (by decide)]; exact r1
  · rw [gn_k (by decide), gn_k (by decide)]; exact r2
