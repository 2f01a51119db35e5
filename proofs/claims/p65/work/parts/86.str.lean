/-! the law's text: strings -/
theorem xnew_v {M : xM} {k n k' o' s' : Nat} (h100 : k' ≠ 100) (h1 : ¬ (k' = 101 ∧ o' = k)) (h2 : ¬ ((k' = k ∨ k' = 200 + k) ∧ o' = gn M 101 k 0)) : (xnew M k n) k' o' s' = M k' o' s' := by
  unfold xnew
  rw [bump_n _ _ _ _ _ _ h100]
  have c : (xst (xclr M k (gn M 101 k 0)) 101 k 0 (.ref (gn M 101 k 0 + 1))) k' o' s' = (xclr M k (gn M 101 k 0)) k' o' s' := if_neg (fun q => h1 ⟨q.1, q.2.1⟩)
  rw [c]
  exact if_neg h2
def onWs (k o s : Nat) : Bool := onWx k o s || ((Nat.beq k 46 || Nat.beq k 47 || Nat.beq k 157 || Nat.beq k 246 || Nat.beq k 247) && Nat.ble 13 o) || (Nat.beq k 101 && (Nat.beq o 46 || Nat.beq o 47))
theorem Ws_x {M M' : xM} (f : fz onWx M M') : fz onWs M M' := fz_mono (fun k o s h => by unfold onWs; rw [h]; rfl) f
theorem onWs_t {k o s : Nat} (h : k = 46 ∨ k = 47 ∨ k = 157 ∨ k = 246 ∨ k = 247) (ho : 13 ≤ o) : onWs k o s = true := by
  unfold onWs
  rw [Nat.ble_eq_true_of_le ho]
  rcases h with rfl | rfl | rfl | rfl | rfl <;> rfl
theorem Ws_st {M : xM} {k o s : Nat} {v : Value} (h : k = 46 ∨ k = 47 ∨ k = 157 ∨ k = 246 ∨ k = 247) (ho : 13 ≤ o) : fz onWs M (xst M k o s v) := fz_st (onWs_t h ho)
theorem onWs_f {k o s : Nat} (h : onWs k o s = false) : onWx k o s = false ∧ ¬ ((k = 46 ∨ k = 47 ∨ k = 157 ∨ k = 246 ∨ k = 247) ∧ 13 ≤ o) ∧ ¬ (k = 101 ∧ o = 46) ∧ ¬ (k = 101 ∧ o = 47) := by
  refine ⟨?_, fun q => ?_, ?_, ?_⟩
  · unfold onWs at h
    cases e : onWx k o s with
    | false => rfl
    | true => rw [e] at h; exact nomatch (show true = false from h)
  · rw [onWs_t q.1 q.2] at h; exact nomatch h
  · rintro ⟨e, e2⟩; subst e; subst e2; exact nomatch (show true = false from h)
  · rintro ⟨e, e2⟩; subst e; subst e2; exact nomatch (show true = false from h)
theorem Ws_new46 {M : xM} {n : Nat} (h : 13 ≤ gn M 101 46 0) : fz onWs M (xnew M 46 n) := fun k o s q => by
  obtain ⟨a, c, d, e⟩ := onWs_f q
  have x := onWx_f a
  exact xnew_v x.2.2.1 d (fun r => by
    obtain ⟨r1, r2⟩ := r
    exact c ⟨by omega, by omega⟩)
theorem Ws_new47 {M : xM} {n : Nat} (h : 13 ≤ gn M 101 47 0) : fz onWs M (xnewD M 47 n) := fun k o s q => by
  obtain ⟨a, c, d, e⟩ := onWs_f q
  have x := onWx_f a
  exact xnewD_v x.2.2.1 e (fun r => by
    obtain ⟨r1, r2⟩ := r
    exact c ⟨by omega, by omega⟩) (fun r => by
    obtain ⟨r1, r2⟩ := r
    exact c ⟨by omega, by omega⟩)
theorem Ws_cpy {M : xM} {os od sp dp n : Nat} (h : 13 ≤ od) : fz onWs M (xcpy M 49 os 47 od sp dp n) := fun k o s q => if_neg (fun r => (onWs_f q).2.1 ⟨Or.inr (Or.inl r.1), by rw [r.2.1]; exact h⟩)
theorem s_range {M : xM} {a cap len : Nat} (h1 : gn M 159 a 0 = cap) (h2 : len ≤ cap) (h3 : cap ≤ 1000) (h4 : 13 ≤ gn M 101 47 0) : m_JR_copyOfRange a 0 (zi (len : Nat)) M = some (.inl (some (47, .ref (gn M 101 47 0))), xcpy (xnewD M 47 len) 49 a 47 (gn M 101 47 0) 0 0 len) := by
  have g : Nat.ble 13 (gn M 101 47 0) = true := Nat.ble_eq_true_of_le h4
  have i0 : ix 0 = 0 := rfl
  rw [e_m_JR_copyOfRange, if_pos rfl, h1, zi_n, zife (by omega) (by omega) (by omega) (by omega)]
  by_cases c : len = cap
  · rw [if_pos (by omega), g, c]; rfl
  · rw [if_neg (by omega)]
    have l1 : gn (xnewD M 47 len) 159 a 0 = cap := by
      have : (xnewD M 47 len) 159 a 0 = M 159 a 0 := xnewD_v (by decide) (by omega) (by omega) (by omega)
      have e : gn (xnewD M 47 len) 159 a 0 = gn M 159 a 0 := by unfold gn; rw [this]
      exact e.trans h1
    have l2 : gn (xnewD M 47 len) 157 (gn M 101 47 0) 0 = len := xnewD_len
    have z0 : zi (len : Nat) - 0 = zi (len : Nat) := Int32.sub_zero _
    rw [e_m_JR_copyOfRangeByte, e_m_JR_checkLength, zi_00, zif (by omega) (by omega) (by decide) (by decide), if_neg (by omega), ← zi_00, xret_v, xbV_r, z0, if_neg (fun q => by
      rcases q with q | q
      · rw [zi_00, zi_lt (by omega) (by omega) (by omega) (by omega)] at q; omega
      · rw [zix (by omega)] at q; omega), zix (by omega), l1, Int32.sub_zero, zi_n, e_m_JM_min, zif (by omega) (by omega) (by omega) (by omega), if_pos (by omega), xret_v, xbI_r, xgd_t g, l1, l2, i0, zix (by omega), if_neg (fun q => by
      rcases q with q | q | q | q | q
      · exact Int32.lt_irrefl q
      · exact Int32.lt_irrefl q
      · rw [zi_00, zi_lt (by omega) (by omega) (by omega) (by omega)] at q; omega
      · omega
      · omega), xret_v, xbR_r]
/-- counters of strings and their bytes -/
def CNs (M : xM) : Prop := gn M 101 46 0 = gn M 101 47 0 ∧ 13 ≤ gn M 101 47 0
theorem s_toString {M0 M : xM} {sb : Nat} {T : Wx} (hC : CNs M) (h : CWX M0 M sb T) (hl : T.1 ≤ 420) : ∃ M1 f, m_JB_toString sb M = some (.inl (some (46, .ref (gn M 101 46 0))), M1) ∧ TX M1 (gn M 101 46 0) T.1 f ∧ (∀ i, i < T.1 → f i = T.2 i) ∧ fz onWs M M1 ∧ gn M1 101 46 0 = gn M 101 46 0 + 1 ∧ gn M1 101 47 0 = gn M 101 47 0 + 1 ∧ gn M1 100 0 0 ≤ gn M 100 0 0 + 2 ∧ gn M1 100 0 1 ≤ gn M 100 0 1 + 430 := by
  obtain ⟨a, cap, ⟨⟨c1, c2, c3, c4, c5, c6⟩, ⟨d1, d2, d3⟩, e, _, f⟩⟩ := h
  obtain ⟨k1, k2⟩ := hC
  obtain ⟨n, hn⟩ : ∃ n, gn M 101 46 0 = n + 13 := ⟨gn M 101 46 0 - 13, by omega⟩
  generalize hA : xnew M 46 4 = A
  have A50 : ∀ s, A 50 sb s = M 50 sb s := fun s => by rw [← hA]; exact xnew_v (by decide) (by omega) (by omega)
  have A250 : A 250 sb 0 = M 250 sb 0 := by rw [← hA]; exact xnew_v (by decide) (by omega) (by omega)
  have A159 : A 159 a 0 = M 159 a 0 := by rw [← hA]; exact xnew_v (by decide) (by omega) (by omega)
  have A47 : A 101 47 0 = M 101 47 0 := by rw [← hA]; exact xnew_v (by decide) (by omega) (by omega)
  have A49 : ∀ i, A 49 a i = M 49 a i := fun i => by rw [← hA]; exact xnew_v (by decide) (by omega) (by omega)
  have A46 : gn A 101 46 0 = n + 13 + 1 := by rw [← hA, xnew_101, hn]
  have Arm := xnew_RM (M := M) (k := 46) (n := 4) (by decide) (by decide)
  rw [hA] at Arm
  have fA : fz onWs M A := by rw [← hA]; exact Ws_new46 (by omega)
  generalize hB : xst A 46 (n + 13) 1 (.int 0) = B
  have vB : ∀ k o s, k ≠ 46 → B k o s = A k o s := fun k o s q => by rw [← hB]; exact if_neg (fun r => q r.1)
  have b159 : gn B 159 a 0 = cap := by unfold gn; rw [vB _ _ _ (by decide), A159]; exact c5
  have b47 : gn B 101 47 0 = n + 13 := by
    have : gn B 101 47 0 = gn M 101 47 0 := by unfold gn; rw [vB _ _ _ (by decide), A47]
    omega
  have sr := s_range (len := T.1) b159 d1 (by omega) (by omega)
  rw [b47] at sr
  have a1 : gn A 250 sb 0 = 1 := by unfold gn; rw [A250]; exact c1
  have a2 : gn A 50 sb 0 = a := by unfold gn; rw [A50]; exact c4
  have a3 : gi A 50 sb 2 = zi (T.1 : Nat) := by unfold gi; rw [A50]; exact c3
  have a4 : gi A 50 sb 1 = 0 := by unfold gi; rw [A50]; exact c2
  have fB : fz onWs A B := by rw [← hB]; exact Ws_st (Or.inl rfl) (by omega)
  have fD : fz onWs B (xnewD B 47 T.1) := Ws_new47 (by omega)
  have Brm := xnewD_RM (M := B) (k := 47) (n := T.1) (by decide) (by decide)
  have B100 : ∀ s, gn B 100 0 s = gn A 100 0 s := fun s => by unfold gn; rw [vB _ _ _ (by decide)]
  have W46 : ∀ o s, (xst (xcpy (xnewD B 47 T.1) 49 a 47 (n + 13) 0 0 T.1) 246 (n + 13) 0 (.ref 1)) 46 o s = B 46 o s := fun o s => (if_neg (fun q => absurd q.1 (by decide))).trans ((if_neg (fun q => absurd q.1 (by decide))).trans (xnewD_v (by decide) (by omega) (by omega) (by omega)))
  refine ⟨xst (xcpy (xnewD B 47 T.1) 49 a 47 (n + 13) 0 0 T.1) 246 (n + 13) 0 (.ref 1), fun i => gi (xst (xcpy (xnewD B 47 T.1) 49 a 47 (n + 13) 0 0 T.1) 246 (n + 13) 0 (.ref 1)) 47 (n + 13) i, ?_, ?_, fun i hi => ?_, ?_, ?_, ?_, ?_, ?_⟩
  · rw [e_m_JB_toString, hn, hA, e_m_JS_init_1, e_m_JS_init_0, e_m_JA_getValue, if_pos a1, xret_v, a2, xbR_r, e_m_JB_length, e_m_JA_length, a3, xret_v, xbI_r, xret_v, xbI_r, e_m_JA_isLatin1, if_neg (by decide), if_pos a4, xnar_1, xret_v, xbI_r, ite_bt, if_pos rfl, hB, sr, xret_v, xbR_r, if_pos rfl, xret_v, xbV_r, xret_v, xbV_r]
  · rw [hn]
    refine ⟨gn_h _ _ _ _ _, ?_, ?_, fun i => rfl⟩
    · rw [gn_k (by decide), gn_cpy (by decide)]
      have := xnewD_len (M := B) (k := 47) (n := T.1)
      rw [b47] at this
      exact this
    · have : gi B 46 (n + 13) 1 = 0 := by rw [← hB, gi_h]
      unfold gi at this ⊢
      rw [W46]; exact this
  · show gi (xst (xcpy (xnewD B 47 T.1) 49 a 47 (n + 13) 0 0 T.1) 246 (n + 13) 0 (.ref 1)) 47 (n + 13) i = T.2 i
    rw [gi_k (by decide), gi_cpy, if_pos ⟨rfl, rfl, by omega, by omega⟩, show 0 + (i - 0) = i by omega, ← e i hi]
    unfold gi
    rw [xnewD_v (by decide) (by omega) (by omega) (by omega), vB _ _ _ (by decide), A49]
  · exact fz_trans (fz_trans (fz_trans (fz_trans fA fB) fD) (Ws_cpy (by omega))) (Ws_st (Or.inr (Or.inr (Or.inr (Or.inl rfl)))) (by omega))
  · rw [gn_k (by decide), gn_cpy (by decide), hn]
    have : (xnewD B 47 T.1) 101 46 0 = B 101 46 0 := xnewD_v (by decide) (by omega) (by omega) (by omega)
    have e1 : gn (xnewD B 47 T.1) 101 46 0 = gn A 101 46 0 := by unfold gn; rw [this, vB _ _ _ (by decide)]
    rw [e1, A46]
  · rw [gn_k (by decide), gn_cpy (by decide), xnewD_101, b47]; omega
  · rw [gn_k (by decide), gn_cpy (by decide), Brm.1, B100]; omega
  · rw [gn_k (by decide), gn_cpy (by decide), Brm.2, B100]; omega
theorem onWs_i {k o s : Nat} (h : onWs k o s = true) : k = 49 ∨ k = 50 ∨ k = 100 ∨ k = 159 ∨ k = 249 ∨ k = 250 ∨ (k = 101 ∧ 46 ≤ o) ∨ ((k = 46 ∨ k = 47 ∨ k = 157 ∨ k = 246 ∨ k = 247) ∧ 13 ≤ o) := by
  unfold onWs onWx at h
  simp only [Bool.or_eq_true, Bool.and_eq_true, Nat.beq_eq, Nat.ble_eq] at h
  omega
theorem onWs_ff {k o s : Nat} (h : ¬ (k = 49 ∨ k = 50 ∨ k = 100 ∨ k = 159 ∨ k = 249 ∨ k = 250 ∨ (k = 101 ∧ 46 ≤ o) ∨ ((k = 46 ∨ k = 47 ∨ k = 157 ∨ k = 246 ∨ k = 247) ∧ 13 ≤ o))) : onWs k o s = false := by
  cases e : onWs k o s with
  | false => rfl
  | true => exact absurd (onWs_i e) h
/-- a string that is written -/
def wxs (T : Wx) (o : Nat) : Wx := (T.1 + cN o, fun i => if T.1 ≤ i ∧ i < T.1 + cN o then zi (cB o (i - T.1)) else T.2 i)
theorem KC_s {M : xM} (h : KC M) {o : Nat} (ho : o < 13) : gn M 246 o 0 = 1 ∧ gn M 157 o 0 = cN o ∧ gi M 46 o 1 = 0 ∧ ∀ f, gi M 47 o f = zi (cB o f) := by
  obtain ⟨h1, h2, h3, h4⟩ := h.1 o ho
  exact ⟨h1, h2, h3, fun f => by rw [h4 f]; exact (zi_of _).symm⟩
theorem s_appS {M0 M : xM} {sb : Nat} {T : Wx} {o : Nat} (hK : KC M0) (h : CWX M0 M sb T) (ho : o < 13) (h12 : cN o ≤ 12) (hl : T.1 + cN o ≤ 420) : ∃ M1, m_JB_append_0 sb o M = some (.inl (some (50, .ref sb)), M1) ∧ CWX M0 M1 sb (wxs T o) := by
  obtain ⟨a0, cap0, h⟩ := h
  have K1 := KC_s (KC_Wx hK h.2.2.2.2) ho
  have cnt := h.1.2.2.1
  obtain ⟨M1, a, cap, e1, h1, l1⟩ := s_ens h h12 hl
  have KM := KC_Wx hK h1.2.2.2.2
  have K2 := KC_s KM ho
  obtain ⟨⟨c1, c2, c3, c4, c5, c6⟩, ⟨d1, d2, d3⟩, e, ⟨r1, r2⟩, f⟩ := h1
  have cd : ∀ N : xM, gi N 46 o 1 = 0 → m_JS_coder o N = rI 0 N := fun N q => by rw [e_m_JS_coder, if_neg (by decide), q]; rfl
  have len : m_JS_length o M = rI (zi (cN o : Nat)) M := s_strlen (KC_Wx hK h.2.2.2.2) ho
  have i0 : ix 0 = 0 := rfl
  have gb : m_JS_getBytes o a (zi (T.1 : Nat)) 0 M1 = rV (xcpy M1 47 o 49 a 0 T.1 (cN o)) := by
    rw [e_m_JS_getBytes, cd M1 K2.2.2.1, xret_v, xbI_r, if_pos rfl, if_pos K2.1, if_pos K2.1, sl0, K2.2.1, c5, zi_n, i0, zix (by omega), zix (by omega), if_neg (fun q => by
      rcases q with q | q | q | q | q
      · exact Int32.lt_irrefl q
      · rw [zi_00, zi_lt (by omega) (by omega) (by omega) (by omega)] at q; omega
      · rw [zi_00, zi_lt (by omega) (by omega) (by omega) (by omega)] at q; omega
      · omega
      · omega)]
  refine ⟨xst (xcpy M1 47 o 49 a 0 T.1 (cN o)) 50 sb 2 (.int (zi ((T.1 + cN o : Nat) : Int))), ?_, a, cap, ⟨?_, ?_, ?_, ?_, ?_, ?_⟩, ⟨l1, d2, ?_⟩, fun i hi => ?_, ⟨?_, ?_⟩, ?_⟩
  · have g2 : gi (xcpy M1 47 o 49 a 0 T.1 (cN o)) 50 sb 2 = zi (T.1 : Nat) := by
      rw [gi_cpy, if_neg (fun q => absurd q.1 (by decide))]; exact c3
    rw [e_m_JB_append_0, e_m_JA_append_0, len, xret_v, xbI_r, cnt, zi_add, show (T.1 : Int) + (cN o : Nat) = ((T.1 + cN o : Nat) : Int) by omega, e1, xret_v, xbV_r, c3, e_m_JA_putStringAt, e_m_JA_inflateIfNeededFor, if_neg (by decide), cd M1 K2.2.2.1, xret_v, xbI_r, if_pos c2, xret_v, xbV_r, if_pos c1, c4, c2, gb, xret_v, xbV_r, xret_v, xbV_r, g2, zi_add, xret_v, xbR_r, show (T.1 : Int) + (cN o : Nat) = ((T.1 + cN o : Nat) : Int) by omega]
  · rw [gn_k (by decide), gn_cpy (by decide)]; exact c1
  · rw [gi_s (by decide), gi_cpy, if_neg (fun q => absurd q.1 (by decide))]; exact c2
  · rw [gi_h]; rfl
  · rw [gn_s (by decide), gn_cpy (by decide)]; exact c4
  · rw [gn_k (by decide), gn_cpy (by decide)]; exact c5
  · rw [gn_k (by decide), gn_cpy (by decide)]; exact c6
  · show cap ≤ 2 * (T.1 + cN o) + 40; omega
  · have hi : i < T.1 + cN o := hi
    show _ = if T.1 ≤ i ∧ i < T.1 + cN o then zi (cB o (i - T.1)) else T.2 i
    rw [gi_k (by decide), gi_cpy]
    by_cases q : T.1 ≤ i
    · rw [if_pos ⟨rfl, rfl, q, hi⟩, if_pos ⟨q, hi⟩, Nat.zero_add]
      exact K2.2.2.2 _
    · rw [if_neg (fun r => q r.2.2.1), if_neg (fun r => q r.1)]
      exact e i (by omega)
  · rw [gn_k (by decide), gn_cpy (by decide)]; exact r1
  · rw [gn_k (by decide), gn_cpy (by decide)]; exact r2
  · exact fz_step (fz_trans f (fun k o' s q => if_neg (fun r => (onWx_f q).1 r.1))) rfl
