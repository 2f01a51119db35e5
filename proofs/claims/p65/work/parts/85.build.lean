/-! the law's text: the builder -/
def TX (M : xM) (o len : Nat) (f : Nat → Int32) : Prop := gn M 246 o 0 = 1 ∧ gn M 157 o 0 = len ∧ gi M 46 o 1 = 0 ∧ ∀ i, gi M 47 o i = f i
theorem bump_n (M : xM) (c n k o s : Nat) (h : k ≠ 100) : (xbump M c n) k o s = M k o s := by
  unfold xbump xst
  rw [if_neg (fun q => h q.1), if_neg (fun q => h q.1)]
theorem bump_gn {M : xM} {c n k o s : Nat} (h : k ≠ 100) : gn (xbump M c n) k o s = gn M k o s := by unfold gn; rw [bump_n _ _ _ _ _ _ h]
abbrev Wx := Nat × (Nat → Int32)
def wxp (T : Wx) (x : Int32) : Wx := (T.1 + 1, fun i => if i = T.1 then x else T.2 i)
def wxd (T : Wx) (x : Nat) : Wx := if x < 10 then wxp T (zi ((48 + x % 10 : Nat) : Int)) else if x < 100 then wxp (wxp T (zi ((48 + x / 10 % 10 : Nat) : Int))) (zi ((48 + x % 10 : Nat) : Int)) else wxp (wxp (wxp T (zi ((48 + x / 100 % 10 : Nat) : Int))) (zi ((48 + x / 10 % 10 : Nat) : Int))) (zi ((48 + x % 10 : Nat) : Int))
theorem wxd_len (T : Wx) (x : Nat) : T.1 + 1 ≤ (wxd T x).1 ∧ (wxd T x).1 ≤ T.1 + 3 := by
  unfold wxd
  by_cases c : x < 10
  · rw [if_pos c]; exact ⟨Nat.le_refl _, by show T.1 + 1 ≤ _; omega⟩
  · rw [if_neg c]
    by_cases d : x < 100
    · rw [if_pos d]; exact ⟨by show _ ≤ T.1 + 1 + 1; omega, by show T.1 + 1 + 1 ≤ _; omega⟩
    · rw [if_neg d]; exact ⟨by show _ ≤ T.1 + 1 + 1 + 1; omega, by show T.1 + 1 + 1 + 1 ≤ _; omega⟩
theorem xnewD_v {M : xM} {k n k' o' s' : Nat} (h100 : k' ≠ 100) (h1 : ¬ (k' = 101 ∧ o' = k)) (h2 : ¬ ((k' = k ∨ k' = 200 + k) ∧ o' = gn M 101 k 0)) (h3 : ¬ (k' = 110 + k ∧ o' = gn M 101 k 0)) : (xnewD M k n) k' o' s' = M k' o' s' := by
  unfold xnewD
  have a : (xst (xnew M k n) (110 + k) (gn M 101 k 0) 0 (.ref n)) k' o' s' = (xnew M k n) k' o' s' := if_neg (fun q => h3 ⟨q.1, q.2.1⟩)
  rw [a]
  unfold xnew
  rw [bump_n _ _ _ _ _ _ h100]
  have c : (xst (xclr M k (gn M 101 k 0)) 101 k 0 (.ref (gn M 101 k 0 + 1))) k' o' s' = (xclr M k (gn M 101 k 0)) k' o' s' := if_neg (fun q => h1 ⟨q.1, q.2.1⟩)
  rw [c]
  exact if_neg h2
theorem xnew_101 (M : xM) (k n : Nat) : gn (xnew M k n) 101 k 0 = gn M 101 k 0 + 1 := by
  unfold xnew
  rw [bump_gn (by decide), gn_h]
theorem xnew_RM {M : xM} {k n : Nat} (h1 : k ≠ 100) (h2 : k < 200) : gn (xnew M k n) 100 0 0 = gn M 100 0 0 + 1 ∧ gn (xnew M k n) 100 0 1 = gn M 100 0 1 + n := by
  have c : ∀ s, gn (xst (xclr M k (gn M 101 k 0)) 101 k 0 (.ref (gn M 101 k 0 + 1))) 100 0 s = gn M 100 0 s := fun s => by
    rw [gn_k (by decide)]
    unfold gn xclr
    rw [if_neg (fun q => by omega)]
  unfold xnew xbump
  rw [gn_s (by decide), gn_h, gn_h, c, c]
  exact ⟨rfl, rfl⟩
theorem xnewD_101 {M : xM} {k n : Nat} : gn (xnewD M k n) 101 k 0 = gn M 101 k 0 + 1 := by
  unfold xnewD
  rw [gn_k (by omega), xnew_101]
theorem xnewD_len {M : xM} {k n : Nat} : gn (xnewD M k n) (110 + k) (gn M 101 k 0) 0 = n := gn_h _ _ _ _ _
theorem xnewD_RM {M : xM} {k n : Nat} (h1 : k ≠ 100) (h2 : k < 200) : gn (xnewD M k n) 100 0 0 = gn M 100 0 0 + 1 ∧ gn (xnewD M k n) 100 0 1 = gn M 100 0 1 + n := by
  have c := xnew_RM (M := M) (n := n) h1 h2
  unfold xnewD
  rw [gn_k (by omega), gn_k (by omega)]
  exact c
theorem gn_cpy {M : xM} {ks os kd od sp dp n k o s : Nat} (h : k ≠ kd) : gn (xcpy M ks os kd od sp dp n) k o s = gn M k o s := by
  unfold gn xcpy
  rw [if_neg (fun q => h q.1)]
def onWx (k o _ : Nat) : Bool := Nat.beq k 49 || Nat.beq k 50 || Nat.beq k 100 || Nat.beq k 159 || Nat.beq k 249 || Nat.beq k 250 || (Nat.beq k 101 && (Nat.beq o 49 || Nat.beq o 50))
theorem onWx_f {k o s : Nat} (h : onWx k o s = false) : k ≠ 49 ∧ k ≠ 50 ∧ k ≠ 100 ∧ k ≠ 159 ∧ k ≠ 249 ∧ k ≠ 250 ∧ ¬ (k = 101 ∧ o = 49) ∧ ¬ (k = 101 ∧ o = 50) := by
  refine ⟨?_, ?_, ?_, ?_, ?_, ?_, ?_, ?_⟩
  · intro e; subst e; exact nomatch (show true = false from h)
  · intro e; subst e; exact nomatch (show true = false from h)
  · intro e; subst e; exact nomatch (show true = false from h)
  · intro e; subst e; exact nomatch (show true = false from h)
  · intro e; subst e; exact nomatch (show true = false from h)
  · intro e; subst e; exact nomatch (show true = false from h)
  · rintro ⟨e, e2⟩; subst e; subst e2; exact nomatch (show true = false from h)
  · rintro ⟨e, e2⟩; subst e; subst e2; exact nomatch (show true = false from h)
theorem Wx_new (M : xM) (n : Nat) : fz onWx M (xnewD M 49 n) := fun k o s h => by
  obtain ⟨a, c, d, e, f, g, i, j⟩ := onWx_f h
  exact xnewD_v d i (fun q => by rcases q.1 with r | r <;> omega) (fun q => by omega)
theorem Wx_cpy {M : xM} {os od sp dp n : Nat} : fz onWx M (xcpy M 49 os 49 od sp dp n) := fun k o s h => if_neg (fun q => (onWx_f h).1 q.1)
/-- the builder holds a text -/
def CWx (M0 M : xM) (sb : Nat) (T : Wx) (a cap : Nat) : Prop := (gn M 250 sb 0 = 1 ∧ gi M 50 sb 1 = 0 ∧ gi M 50 sb 2 = zi (T.1 : Nat) ∧ gn M 50 sb 0 = a ∧ gn M 159 a 0 = cap ∧ a < gn M 101 49 0) ∧ (T.1 ≤ cap ∧ 16 ≤ cap ∧ cap ≤ 2 * T.1 + 40) ∧ (∀ i, i < T.1 → gi M 49 a i = T.2 i) ∧ (gn M 100 0 0 ≤ gn M0 100 0 0 + cap ∧ gn M 100 0 1 ≤ gn M0 100 0 1 + 4 * cap) ∧ fz onWx M0 M
theorem sh0 (x : Int32) : (x >>> ((0 : Int32) &&& 31) : Int32) = x := Int32.shiftRight_zero
theorem sl0 (x : Int32) : (x <<< ((0 : Int32) &&& 31) : Int32) = x := Int32.shiftLeft_zero
theorem s_newCap {M : xM} {sb a cap m : Nat} (h1 : gn M 250 sb 0 = 1) (h2 : gi M 50 sb 1 = 0) (h3 : gn M 50 sb 0 = a) (h4 : gn M 159 a 0 = cap) (hc : 16 ≤ cap) (hc2 : cap ≤ 1000) (hm : cap < m) (hm2 : m ≤ cap + 12) : m_JA_newCapacity sb (zi (m : Nat)) M = rI (zi ((2 * cap + 2 : Nat) : Int)) M := by
  rw [e_m_JA_newCapacity, if_pos h1, h3, h4, h2, sl0, sl0, zi_n, zi_sub, zi_02, zi_add, e_m_JP_newLength, e_m_JM_max, zif (by omega) (by omega) (by omega) (by omega), if_pos (by omega), xret_v, xbI_r, zi_add, zi_00, zif (by omega) (by omega) (by omega) (by omega), if_pos (by omega), show (2147483639 : Int32) = zi 2147483639 from rfl, zif (by omega) (by omega) (by omega) (by omega), if_neg (by omega), xret_v, xbI_r, show (2147483647 : Int32) = zi 2147483647 from rfl, zife (by omega) (by omega) (by omega) (by omega), if_neg (by omega), h2, sh0, show (cap : Int) + ((cap : Int) + 2) = ((2 * cap + 2 : Nat) : Int) by omega]
theorem s_copyOf {M : xM} {a cap n : Nat} (h4 : gn M 159 a 0 = cap) (ha : a < gn M 101 49 0) (hn : cap < n) (hn2 : n ≤ 65536) : m_JR_copyOf a (zi (n : Nat)) M = some (.inl (some (49, .ref (gn M 101 49 0))), xcpy (xnewD M 49 n) 49 a 49 (gn M 101 49 0) 0 0 cap) := by
  have l1 : gn (xnewD M 49 n) 159 a 0 = cap := by
    have : (xnewD M 49 n) 159 a 0 = M 159 a 0 := xnewD_v (by decide) (by omega) (by omega) (by omega)
    have e : gn (xnewD M 49 n) 159 a 0 = gn M 159 a 0 := by unfold gn; rw [this]
    exact e.trans h4
  have l2 : gn (xnewD M 49 n) 159 (gn M 101 49 0) 0 = n := xnewD_len
  have i0 : ix 0 = 0 := rfl
  rw [e_m_JR_copyOf, h4, zi_n, zife (by omega) (by omega) (by omega) (by omega), if_neg (by omega), if_neg (fun q => by
    rcases q with q | q
    · rw [zi_00, zi_lt (by omega) (by omega) (by omega) (by omega)] at q; omega
    · rw [zix (by omega)] at q; omega), zix (by omega), l1, zi_n, e_m_JM_min, zif (by omega) (by omega) (by omega) (by omega), if_neg (by omega), xret_v, xbI_r, l1, l2, i0, zix (by omega), if_neg (fun q => by
    rcases q with q | q | q | q | q
    · exact Int32.lt_irrefl q
    · exact Int32.lt_irrefl q
    · rw [zi_00, zi_lt (by omega) (by omega) (by omega) (by omega)] at q; omega
    · omega
    · omega)]
theorem s_ens {M0 M : xM} {sb : Nat} {T : Wx} {a cap k : Nat} (h : CWx M0 M sb T a cap) (hk : k ≤ 12) (hl : T.1 + k ≤ 420) : ∃ M1 a1 cap1, m_JA_ensureCapacityInternal sb (zi ((T.1 + k : Nat) : Int)) M = rV M1 ∧ CWx M0 M1 sb T a1 cap1 ∧ T.1 + k ≤ cap1 := by
  obtain ⟨⟨c1, c2, c3, c4, c5, c6⟩, ⟨d1, d2, d3⟩, e, ⟨r1, r2⟩, f⟩ := h
  have hd : m_JA_ensureCapacityInternal sb (zi ((T.1 + k : Nat) : Int)) M = if 0 < zi (((T.1 + k : Nat) : Int) - (cap : Int)) then xbI (xret (m_JA_newCapacity sb (zi ((T.1 + k : Nat) : Int)) M)) (fun r2 M1 => xbR (xret (m_JR_copyOf a (r2 <<< ((gi M1 50 sb 1) &&& 31) : Int32) M1)) 49 (fun r4 M3 => rV (xst (xst M3 50 sb 0 (.ref r4)) 250 sb 0 (.ref 1)))) else rV M := by
    rw [e_m_JA_ensureCapacityInternal, if_pos c1, c4, c5, c2, sh0, zi_n, zi_sub, if_pos c1]
  rw [hd, zi_00, zif (by omega) (by omega) (by omega) (by omega)]
  by_cases g : T.1 + k ≤ cap
  · rw [if_neg (by omega)]
    exact ⟨M, a, cap, rfl, ⟨⟨c1, c2, c3, c4, c5, c6⟩, ⟨d1, d2, d3⟩, e, ⟨r1, r2⟩, f⟩, g⟩
  · rw [if_pos (by omega), s_newCap c1 c2 c4 c5 d2 (by omega) (by omega) (by omega), xret_v, xbI_r, c2, sl0, s_copyOf c5 c6 (by omega) (by omega), xret_v, xbR_r]
    have q50 : ∀ o s, (xcpy (xnewD M 49 (2 * cap + 2)) 49 a 49 (gn M 101 49 0) 0 0 cap) 50 o s = M 50 o s := fun o s => (if_neg (fun q => absurd q.1 (by decide))).trans (xnewD_v (by decide) (by omega) (by omega) (by omega))
    have g50 : ∀ o s, gi (xcpy (xnewD M 49 (2 * cap + 2)) 49 a 49 (gn M 101 49 0) 0 0 cap) 50 o s = gi M 50 o s := fun o s => by unfold gi; rw [q50]
    have z49 : ∀ i, gi (xnewD M 49 (2 * cap + 2)) 49 a i = gi M 49 a i := fun i => by
      unfold gi
      rw [xnewD_v (by decide) (by omega) (by omega) (by omega)]
    have rm := xnewD_RM (M := M) (k := 49) (n := 2 * cap + 2) (by decide) (by decide)
    refine ⟨_, gn M 101 49 0, 2 * cap + 2, rfl, ⟨⟨gn_h _ _ _ _ _, ?_, ?_, ?_, ?_, ?_⟩, ⟨by omega, by omega, by omega⟩, fun i hi => ?_, ⟨?_, ?_⟩, ?_⟩, by omega⟩
    · rw [gi_k (by decide), gi_s (by decide), g50]; exact c2
    · rw [gi_k (by decide), gi_s (by decide), g50]; exact c3
    · rw [gn_k (by decide), gn_h]
    · rw [gn_k (by decide), gn_k (by decide), gn_cpy (by decide)]; exact xnewD_len
    · rw [gn_k (by decide), gn_k (by decide), gn_cpy (by decide), xnewD_101]; omega
    · rw [gi_k (by decide), gi_k (by decide), gi_cpy, if_pos ⟨rfl, rfl, by omega, by omega⟩, show 0 + (i - 0) = i by omega, z49]
      exact e i hi
    · rw [gn_k (by decide), gn_k (by decide), gn_cpy (by decide), rm.1]; omega
    · rw [gn_k (by decide), gn_k (by decide), gn_cpy (by decide), rm.2]; omega
    · exact fz_step (fz_step (fz_trans f (fz_trans (Wx_new _ _) Wx_cpy)) rfl) rfl
theorem by_tab : (List.range 128).all (fun c => (Int32.toInt8 ((Int32.toInt8 (zi ((c : Nat) : Int))).toInt32)).toInt32 == zi ((c : Nat) : Int)) = true := by decide +kernel
theorem by_eq {c : Nat} (h : c < 128) : (Int32.toInt8 ((Int32.toInt8 (zi ((c : Nat) : Int))).toInt32)).toInt32 = zi ((c : Nat) : Int) := eq_of_beq (List.all_eq_true.mp by_tab c (List.mem_range.mpr h))
theorem s_app {M0 M : xM} {sb : Nat} {T : Wx} {a cap c : Nat} (h : CWx M0 M sb T a cap) (hc : c < 128) (hl : T.1 + 1 ≤ 420) : ∃ M1 a1 cap1, m_JB_append_3 sb (zi (c : Nat)) M = some (.inl (some (50, .ref sb)), M1) ∧ CWx M0 M1 sb (wxp T (zi (c : Nat))) a1 cap1 := by
  obtain ⟨M1, a1, cap1, e1, h1, l1⟩ := s_ens h (by decide) hl
  have hcnt := h.1.2.2.1
  obtain ⟨⟨c1, c2, c3, c4, c5, c6⟩, ⟨d1, d2, d3⟩, e, ⟨r1, r2⟩, f⟩ := h1
  have lat : ∀ N, gi N 50 sb 1 = 0 → m_JA_isLatin1 sb N = rI (bz true) N := fun N q => by rw [e_m_JA_isLatin1, if_neg (by decide), if_pos q, xnar_1]
  have enc : ∀ N, m_JL_canEncode (zi (c : Nat)) N = rI (bz true) N := fun N => by
    rw [e_m_JL_canEncode, show (255 : Int32) = zi 255 from rfl, zif (by decide) (by decide) (by omega) (by omega), if_neg (by omega), xnar_1]
  refine ⟨xst (xst M1 50 sb 2 (.int (zi ((T.1 + 1 : Nat) : Int)))) 49 a1 T.1 (.int (zi (c : Nat))), a1, cap1, ?_, ⟨⟨?_, ?_, ?_, ?_, ?_, ?_⟩, ⟨?_, d2, ?_⟩, fun i hi => ?_, ⟨?_, ?_⟩, fz_step (fz_step f rfl) rfl⟩⟩
  · rw [e_m_JB_append_3, e_m_JA_append_2, hcnt, zi_suc, e1, xret_v, xbV_r, lat M1 c2, xret_v, xbI_r, ite_bt, enc, xret_v, xbI_r, ite_bt, if_pos c1, c3, c4, c5, xck_n (by omega) (by omega), xret_v, xbR_r, zi_suc, zix (by omega), by_eq hc]
  · rw [gn_k (by decide), gn_k (by decide)]; exact c1
  · rw [gi_k (by decide), gi_s (by decide)]; exact c2
  · rw [gi_k (by decide), gi_h]; rfl
  · rw [gn_k (by decide), gn_s (by decide)]; exact c4
  · rw [gn_k (by decide), gn_k (by decide)]; exact c5
  · rw [gn_k (by decide), gn_k (by decide)]; exact c6
  · show T.1 + 1 ≤ cap1; exact l1
  · show cap1 ≤ 2 * (T.1 + 1) + 40; omega
  · show _ = if i = T.1 then _ else _
    by_cases q : i = T.1
    · subst q; rw [if_pos rfl, gi_h]
    · rw [if_neg q, gi_s q, gi_k (by decide)]
      exact e i (by have : i < T.1 + 1 := hi; omega)
  · rw [gn_k (by decide), gn_k (by decide)]; exact r1
  · rw [gn_k (by decide), gn_k (by decide)]; exact r2
theorem dg1_tab : (List.range 100).all (fun r => (Int32.toInt8 (xget0 0 xdg1 r)).toInt32 == zi ((48 + r % 10 : Nat) : Int)) = true := by decide +kernel
theorem dg10_tab : (List.range 100).all (fun r => (Int32.toInt8 (xget0 0 xdg10 r)).toInt32 == zi ((48 + r / 10 : Nat) : Int)) = true := by decide +kernel
set_option maxRecDepth 100000 in
theorem ndv_tab : (List.range 1000).all (fun x => zi (-((x : Nat) : Int)) / 100 == zi (-((x / 100 : Nat) : Int))) = true := by decide +kernel
theorem dg1_eq {M : xM} (h : KC M) {r : Nat} (hr : r < 100) : (Int32.toInt8 (gi M 48 0 r)).toInt32 = zi ((48 + r % 10 : Nat) : Int) := by
  rw [(h.2 r).1]
  exact eq_of_beq (List.all_eq_true.mp dg1_tab r (List.mem_range.mpr hr))
theorem dg10_eq {M : xM} (h : KC M) {r : Nat} (hr : r < 100) : (Int32.toInt8 (gi M 52 0 r)).toInt32 = zi ((48 + r / 10 : Nat) : Int) := by
  rw [(h.2 r).2]
  exact eq_of_beq (List.all_eq_true.mp dg10_tab r (List.mem_range.mpr hr))
theorem ndv {x : Nat} (h : x < 1000) : zi (-(x : Int)) / 100 = zi (-((x / 100 : Nat) : Int)) := eq_of_beq (List.all_eq_true.mp ndv_tab x (List.mem_range.mpr h))
/-- the last one or two digits -/
theorem gc_1 {M : xM} (hK : KC M) {x p A : Nat} (hx : x < 10) (hp : p + 1 ≤ gn M 159 A 0) (hA : gn M 159 A 0 ≤ 1000) : b_JI_getChars_14 (zi (-(x : Int))) A (zi ((p + 1 : Nat) : Int)) 0 M = rI (zi (p : Nat)) (xst M 49 A p (.int (zi ((48 + x % 10 : Nat) : Int)))) := by
  have e1 : zi ((p + 1 : Nat) : Int) + (-1) = zi (p : Nat) := by rw [zi_m1, zi_add]; exact congrArg zi (by omega)
  have e2 : -zi (-(x : Int)) = zi (x : Nat) := by rw [zi_neg]; exact congrArg zi (by omega)
  rw [e_b_JI_getChars_14, show (-100 : Int32) = zi (-100) from rfl, zif (by decide) (by decide) (by omega) (by omega), if_pos (by omega), e1, e2, xck_n (by omega) (by decide), xck_n (by omega) (by omega), show (-9 : Int32) = zi (-9) from rfl, zif (by omega) (by omega) (by decide) (by decide), if_neg (by omega), if_pos rfl, zix (by omega), zix (by omega), dg1_eq hK (by omega)]
theorem gc_2 {M : xM} (hK : KC M) {x p A : Nat} (hx0 : 10 ≤ x) (hx : x < 100) (hp : p + 2 ≤ gn M 159 A 0) (hA : gn M 159 A 0 ≤ 1000) : b_JI_getChars_14 (zi (-(x : Int))) A (zi ((p + 2 : Nat) : Int)) 0 M = rI (zi (p : Nat)) (xst (xst M 49 A (p + 1) (.int (zi ((48 + x % 10 : Nat) : Int)))) 49 A p (.int (zi ((48 + x / 10 : Nat) : Int)))) := by
  have e1 : zi ((p + 2 : Nat) : Int) + (-1) = zi ((p + 1 : Nat) : Int) := by rw [zi_m1, zi_add]; exact congrArg zi (by omega)
  have e3 : zi ((p + 1 : Nat) : Int) + (-1) = zi (p : Nat) := by rw [zi_m1, zi_add]; exact congrArg zi (by omega)
  have e2 : -zi (-(x : Int)) = zi (x : Nat) := by rw [zi_neg]; exact congrArg zi (by omega)
  rw [e_b_JI_getChars_14, show (-100 : Int32) = zi (-100) from rfl, zif (by decide) (by decide) (by omega) (by omega), if_pos (by omega), e1, e2, e3, xck_n (by omega) (by decide), xck_n (by omega) (by omega), show (-9 : Int32) = zi (-9) from rfl, zif (by omega) (by omega) (by decide) (by decide), if_pos (by omega), xck_n (by omega) (by decide), xck_n (by omega) (by omega), if_pos rfl, zix (by omega), zix (by omega), zix (by omega), dg1_eq hK hx, dg10_eq hK hx]
theorem gc_3 {M : xM} (hK : KC M) {x p A : Nat} (hx0 : 100 ≤ x) (hx : x < 1000) (hp : p + 3 ≤ gn M 159 A 0) (hA : gn M 159 A 0 ≤ 1000) : b_JI_getChars_14 (zi (-(x : Int))) A (zi ((p + 3 : Nat) : Int)) 0 M = rI (zi (p : Nat)) (xst (xst (xst M 49 A (p + 2) (.int (zi ((48 + x % 10 : Nat) : Int)))) 49 A (p + 1) (.int (zi ((48 + x / 10 % 10 : Nat) : Int)))) 49 A p (.int (zi ((48 + x / 100 % 10 : Nat) : Int)))) := by
  have e1 : zi ((p + 3 : Nat) : Int) + (-1) = zi ((p + 2 : Nat) : Int) := by rw [zi_m1, zi_add]; exact congrArg zi (by omega)
  have e3 : zi ((p + 2 : Nat) : Int) + (-1) = zi ((p + 1 : Nat) : Int) := by rw [zi_m1, zi_add]; exact congrArg zi (by omega)
  have e2 : zi (-((x / 100 : Nat) : Int)) * (100 : Int32) - zi (-(x : Int)) = zi ((x % 100 : Nat) : Int) := by
    rw [show (100 : Int32) = zi 100 from rfl, zi_mul, zi_sub]; exact congrArg zi (by omega)
  have KC2 : KC (xst (xst M 49 A (p + 2) (.int (zi ((48 + x % 100 % 10 : Nat) : Int)))) 49 A (p + 1) (.int (zi ((48 + x % 100 / 10 : Nat) : Int)))) := KC_fz hK (fz_step (fz_st (K := onWx) rfl) rfl) (fun k o s q => by
    rcases q with rfl | rfl | ⟨rfl | rfl | rfl | rfl, _⟩ <;> rfl)
  have l : gn (xst (xst M 49 A (p + 2) (.int (zi ((48 + x % 100 % 10 : Nat) : Int)))) 49 A (p + 1) (.int (zi ((48 + x % 100 / 10 : Nat) : Int)))) 159 A 0 = gn M 159 A 0 := by rw [gn_k (by decide), gn_k (by decide)]
  have g1 := gc_1 KC2 (x := x / 100) (p := p) (A := A) (by omega) (by rw [l]; omega) (by rw [l]; exact hA)
  rw [e_b_JI_getChars_14, show (-100 : Int32) = zi (-100) from rfl, zif (by decide) (by decide) (by omega) (by omega), if_neg (by omega), if_neg (by decide), ndv hx, e1, e2, e3, xck_n (by omega) (by decide), xck_n (by omega) (by omega), xck_n (by omega) (by decide), xck_n (by omega) (by omega), zix (by omega), zix (by omega), zix (by omega), dg1_eq hK (by omega), dg10_eq hK (by omega), g1, show x % 100 % 10 = x % 10 by omega, show x % 100 / 10 = x / 10 % 10 by omega]
def wxl (x : Nat) : Nat := if x < 10 then 1 else if x < 100 then 2 else 3
theorem wxd_l (T : Wx) (x : Nat) : (wxd T x).1 = T.1 + wxl x := by
  unfold wxd wxl
  by_cases c : x < 10
  · rw [if_pos c, if_pos c]; rfl
  · rw [if_neg c, if_neg c]
    by_cases d : x < 100
    · rw [if_pos d, if_pos d]; rfl
    · rw [if_neg d, if_neg d]; rfl
theorem s_size {M : xM} {x : Nat} (hx : x < 1000) : m_JI_stringSize (zi (x : Nat)) M = rI (zi (wxl x : Nat)) M := by
  have e2 : -zi ((x : Nat) : Int) = zi (-(x : Int)) := zi_neg _
  have z0 : ∀ v : Int32, v + 0 = v := fun v => Int32.add_zero v
  have st : ∀ (y : Int) (j : Int), -100000 ≤ y → y < 0 → 0 ≤ j → j < 10 → b_JI_stringSize_14 (zi (-(x : Int))) 0 (zi y) (zi j) M = if y < -(x : Int) then rI (zi j) M else b_JI_stringSize_14 (zi (-(x : Int))) 0 (zi (10 * y)) (zi (j + 1)) M := fun y j h1 h2 h3 h4 => by
    rw [e_b_JI_stringSize_14, zi_10, zif (by omega) (by omega) (by decide) (by decide), if_pos h4, zif (by omega) (by omega) (by omega) (by omega), z0, zi_mul, zi_01, zi_add]
  have s1 := st (-10) 1 (by decide) (by decide) (by decide) (by decide)
  have s2 := st (10 * -10) (1 + 1) (by decide) (by decide) (by decide) (by decide)
  have s3 := st (10 * (10 * -10)) (1 + 1 + 1) (by decide) (by decide) (by decide) (by decide)
  rw [e_m_JI_stringSize, zi_00, zif (by omega) (by omega) (by decide) (by decide), if_neg (by omega), e2, ← zi_00, show (-10 : Int32) = zi (-10) from rfl, zi_01, s1]
  unfold wxl
  by_cases c : x < 10
  · rw [if_pos (by omega), if_pos c]; rfl
  · rw [if_neg (by omega), if_neg c, s2]
    by_cases d : x < 100
    · rw [if_pos (by omega), if_pos d]; rfl
    · rw [if_neg (by omega), if_neg d, s3, if_pos (by omega)]; rfl
theorem s_chars {M : xM} (hK : KC M) {T : Wx} {x A : Nat} (hx : x < 1000) (hp : T.1 + wxl x ≤ gn M 159 A 0) (hA : gn M 159 A 0 ≤ 1000) (ht : ∀ i, i < T.1 → gi M 49 A i = T.2 i) : ∃ M' r, m_JI_getChars (zi (x : Nat)) (zi ((T.1 + wxl x : Nat) : Int)) A M = rI r M' ∧ (∀ i, i < (wxd T x).1 → gi M' 49 A i = (wxd T x).2 i) ∧ (∀ k o s, k ≠ 49 → M' k o s = M k o s) := by
  have e2 : -zi ((x : Nat) : Int) = zi (-(x : Int)) := zi_neg _
  have hd : m_JI_getChars (zi (x : Nat)) (zi ((T.1 + wxl x : Nat) : Int)) A M = b_JI_getChars_14 (zi (-(x : Int))) A (zi ((T.1 + wxl x : Nat) : Int)) 0 M := by
    rw [e_m_JI_getChars, zi_00, zif (by omega) (by omega) (by decide) (by decide), if_neg (by omega), if_pos (by decide), e2]
  have ne : ∀ {N : xM} {p : Nat} {v : Value} {k o s : Nat}, k ≠ 49 → (xst N 49 A p v) k o s = N k o s := fun h => if_neg (fun q => h q.1)
  rw [hd, wxd_l]
  unfold wxl at hp ⊢
  unfold wxd
  by_cases c : x < 10
  · rw [if_pos c] at hp ⊢
    rw [if_pos c]
    refine ⟨_, _, gc_1 hK c hp hA, fun i hi => ?_, fun k o s h => ne h⟩
    show _ = if i = T.1 then _ else _
    by_cases q : i = T.1
    · subst q; rw [if_pos rfl, gi_h]
    · rw [if_neg q, gi_s q]; exact ht i (by omega)
  · rw [if_neg c] at hp ⊢
    rw [if_neg c]
    by_cases d : x < 100
    · rw [if_pos d] at hp ⊢
      rw [if_pos d]
      refine ⟨_, _, gc_2 hK (by omega) d hp hA, fun i hi => ?_, fun k o s h => (ne h).trans (ne h)⟩
      show _ = if i = T.1 + 1 then _ else if i = T.1 then _ else _
      by_cases q : i = T.1 + 1
      · subst q; rw [if_pos rfl, gi_s (by omega), gi_h]
      · rw [if_neg q]
        by_cases q2 : i = T.1
        · subst q2; rw [if_pos rfl, gi_h]
          exact congrArg zi (by omega)
        · rw [if_neg q2, gi_s q2, gi_s q]; exact ht i (by omega)
    · rw [if_neg d] at hp ⊢
      rw [if_neg d]
      refine ⟨_, _, gc_3 hK (by omega) hx hp hA, fun i hi => ?_, fun k o s h => ((ne h).trans (ne h)).trans (ne h)⟩
      show _ = if i = T.1 + 1 + 1 then _ else if i = T.1 + 1 then _ else if i = T.1 then _ else _
      by_cases q : i = T.1 + 2
      · subst q; rw [if_pos rfl, gi_s (by omega), gi_s (by omega), gi_h]
      · rw [if_neg q]
        by_cases q1 : i = T.1 + 1
        · subst q1; rw [if_pos rfl, gi_s (by omega), gi_h]
        · rw [if_neg q1]
          by_cases q2 : i = T.1
          · subst q2; rw [if_pos rfl, gi_h]
          · rw [if_neg q2, gi_s q2, gi_s q1, gi_s q]; exact ht i (by omega)
theorem KC_Wx {M M' : xM} (h : KC M) (f : fz onWx M M') : KC M' := KC_fz h f (fun k o s q => by
  rcases q with rfl | rfl | ⟨rfl | rfl | rfl | rfl, _⟩ <;> rfl)
theorem s_appN {M0 M : xM} {sb : Nat} {T : Wx} {a cap x : Nat} (hK : KC M0) (h : CWx M0 M sb T a cap) (hx : x < 1000) (hl : T.1 + 3 ≤ 420) : ∃ M1 a1 cap1, m_JB_append_2 sb (zi (x : Nat)) M = some (.inl (some (50, .ref sb)), M1) ∧ CWx M0 M1 sb (wxd T x) a1 cap1 := by
  have l3 : wxl x ≤ 3 := by
    unfold wxl
    by_cases c : x < 10
    · rw [if_pos c]; decide
    · rw [if_neg c]
      by_cases d : x < 100
      · rw [if_pos d]; decide
      · rw [if_neg d]; decide
  obtain ⟨M1, a1, cap1, e1, h1, l1⟩ := s_ens h (Nat.le_trans l3 (by decide)) (by omega)
  have hcnt := h.1.2.2.1
  obtain ⟨⟨c1, c2, c3, c4, c5, c6⟩, ⟨d1, d2, d3⟩, e, ⟨r1, r2⟩, f⟩ := h1
  have lat : ∀ N, gi N 50 sb 1 = 0 → m_JA_isLatin1 sb N = rI (bz true) N := fun N q => by rw [e_m_JA_isLatin1, if_neg (by decide), if_pos q, xnar_1]
  obtain ⟨M2, r, e2, t2, g2⟩ := s_chars (KC_Wx hK f) (T := T) (x := x) (A := a1) hx (by rw [c5]; exact l1) (by rw [c5]; omega) e
  have gi2 : ∀ k o s, k ≠ 49 → gi M2 k o s = gi M1 k o s := fun k o s q => by unfold gi; rw [g2 k o s q]
  have gn2 : ∀ k o s, k ≠ 49 → gn M2 k o s = gn M1 k o s := fun k o s q => by unfold gn; rw [g2 k o s q]
  have ln := wxd_l T x
  refine ⟨xst M2 50 sb 2 (.int (zi ((T.1 + wxl x : Nat) : Int))), a1, cap1, ?_, ⟨⟨?_, ?_, ?_, ?_, ?_, ?_⟩, ⟨by omega, d2, by omega⟩, fun i hi => ?_, ⟨?_, ?_⟩, ?_⟩⟩
  · rw [e_m_JB_append_2, e_m_JA_append_1, s_size hx, xret_v, xbI_r, hcnt, zi_add, show (T.1 : Int) + (wxl x : Int) = ((T.1 + wxl x : Nat) : Int) by omega, e1, xret_v, xbV_r, lat M1 c2, xret_v, xbI_r, ite_bt, if_pos c1, c4, e2, xret_v, xbI_r, xret_v, xbR_r]
  · rw [gn_k (by decide), gn2 _ _ _ (by decide)]; exact c1
  · rw [gi_s (by decide), gi2 _ _ _ (by decide)]; exact c2
  · rw [gi_h, ln]
  · rw [gn_s (by decide), gn2 _ _ _ (by decide)]; exact c4
  · rw [gn_k (by decide), gn2 _ _ _ (by decide)]; exact c5
  · rw [gn_k (by decide), gn2 _ _ _ (by decide)]; exact c6
  · rw [gi_k (by decide)]; exact t2 i hi
  · rw [gn_k (by decide), gn2 _ _ _ (by decide)]; exact r1
  · rw [gn_k (by decide), gn2 _ _ _ (by decide)]; exact r2
  · exact fz_step (fun k o s q => (g2 k o s (onWx_f q).1).trans (f k o s q)) rfl
theorem u16_tab : (List.range 128).all (fun c => ((Int32.toUInt32 (zi ((c : Nat) : Int))) % 65536).toInt32 == zi ((c : Nat) : Int)) = true := by decide +kernel
theorem u16_eq {c : Nat} (h : c < 128) : ((Int32.toUInt32 (zi ((c : Nat) : Int))) % 65536).toInt32 = zi ((c : Nat) : Int) := eq_of_beq (List.all_eq_true.mp u16_tab c (List.mem_range.mpr h))
def CWX (M0 M : xM) (sb : Nat) (T : Wx) : Prop := ∃ a cap, CWx M0 M sb T a cap
theorem CWX_f {M0 M : xM} {sb : Nat} {T : Wx} (h : CWX M0 M sb T) : fz onWx M0 M := by
  obtain ⟨a, cap, h⟩ := h
  exact h.2.2.2.2
theorem CWX_n {M0 M : xM} {sb : Nat} {T : Wx} (h : CWX M0 M sb T) : gi M 50 sb 2 = zi (T.1 : Nat) := by
  obtain ⟨a, cap, h⟩ := h
  exact h.1.2.2.1
theorem S_app {M0 M : xM} {sb : Nat} {T : Wx} {c : Nat} (h : CWX M0 M sb T) (hc : c < 128) (hl : T.1 + 1 ≤ 420) : ∃ M1, m_JB_append_3 sb (zi (c : Nat)) M = some (.inl (some (50, .ref sb)), M1) ∧ CWX M0 M1 sb (wxp T (zi (c : Nat))) := by
  obtain ⟨a, cap, h⟩ := h
  obtain ⟨M1, a1, cap1, e, h1⟩ := s_app h hc hl
  exact ⟨M1, e, a1, cap1, h1⟩
theorem S_appN {M0 M : xM} {sb : Nat} {T : Wx} {x : Nat} (hK : KC M0) (h : CWX M0 M sb T) (hx : x < 1000) (hl : T.1 + 3 ≤ 420) : ∃ M1, m_JB_append_2 sb (zi (x : Nat)) M = some (.inl (some (50, .ref sb)), M1) ∧ CWX M0 M1 sb (wxd T x) := by
  obtain ⟨a, cap, h⟩ := h
  obtain ⟨M1, a1, cap1, e, h1⟩ := s_appN hK h hx hl
  exact ⟨M1, e, a1, cap1, h1⟩
