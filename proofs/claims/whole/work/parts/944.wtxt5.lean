/-! writing the schedule: the text becomes a string -/
def onWs (k o s : Nat) : Bool := onWx k o s || ((Nat.beq k 46 || Nat.beq k 47 || Nat.beq k 157 || Nat.beq k 246 || Nat.beq k 247) && Nat.ble 18 o) || (Nat.beq k 101 && (Nat.beq o 46 || Nat.beq o 47))
theorem Ws_x {M M' : xM} (f : fz onWx M M') : fz onWs M M' := fz_mono (fun k o s h => by unfold onWs; rw [h]; rfl) f
theorem onWs_t {k o s : Nat} (h : k = 46 ∨ k = 47 ∨ k = 157 ∨ k = 246 ∨ k = 247) (ho : 18 ≤ o) : onWs k o s = true := by
  unfold onWs
  rw [Nat.ble_eq_true_of_le ho]
  rcases h with rfl | rfl | rfl | rfl | rfl <;> rfl
theorem Ws_st {M : xM} {k o s : Nat} {v : Value} (h : k = 46 ∨ k = 47 ∨ k = 157 ∨ k = 246 ∨ k = 247) (ho : 18 ≤ o) : fz onWs M (xst M k o s v) := fz_st (onWs_t h ho)
theorem onWs_f {k o s : Nat} (h : onWs k o s = false) : onWx k o s = false ∧ ¬ ((k = 46 ∨ k = 47 ∨ k = 157 ∨ k = 246 ∨ k = 247) ∧ 18 ≤ o) ∧ ¬ (k = 101 ∧ o = 46) ∧ ¬ (k = 101 ∧ o = 47) := by
  refine ⟨?_, fun q => ?_, ?_, ?_⟩
  · unfold onWs at h
    cases e : onWx k o s with
    | false => rfl
    | true => rw [e] at h; exact nomatch (show true = false from h)
  · rw [onWs_t q.1 q.2] at h; exact nomatch h
  · rintro ⟨e, e2⟩; subst e; subst e2; exact nomatch (show true = false from h)
  · rintro ⟨e, e2⟩; subst e; subst e2; exact nomatch (show true = false from h)
theorem Ws_new46 {M : xM} {n : Nat} (h : 18 ≤ gn M 101 46 0) : fz onWs M (xnew M 46 n) := fun k o s q => by
  obtain ⟨a, c, d, e⟩ := onWs_f q
  have x := onWx_f a
  exact xnew_v x.2.2.1 d (fun r => by
    obtain ⟨r1, r2⟩ := r
    exact c ⟨by omega, by omega⟩)
theorem Ws_new47 {M : xM} {n : Nat} (h : 18 ≤ gn M 101 47 0) : fz onWs M (xnewD M 47 n) := fun k o s q => by
  obtain ⟨a, c, d, e⟩ := onWs_f q
  have x := onWx_f a
  exact xnewD_v x.2.2.1 e (fun r => by
    obtain ⟨r1, r2⟩ := r
    exact c ⟨by omega, by omega⟩) (fun r => by
    obtain ⟨r1, r2⟩ := r
    exact c ⟨by omega, by omega⟩)
theorem Ws_cpy {M : xM} {os od sp dp n : Nat} (h : 18 ≤ od) : fz onWs M (xcpy M 49 os 47 od sp dp n) := fun k o s q => if_neg (fun r => (onWs_f q).2.1 ⟨Or.inr (Or.inl r.1), by rw [r.2.1]; exact h⟩)
theorem s_range {M : xM} {a cap len : Nat} (h1 : gn M 159 a 0 = cap) (h2 : len ≤ cap) (h3 : cap ≤ 1000) (h4 : 18 ≤ gn M 101 47 0) : m_JR_copyOfRange a 0 (zi (len : Nat)) M = some (.inl (some (47, .ref (gn M 101 47 0))), xcpy (xnewD M 47 len) 49 a 47 (gn M 101 47 0) 0 0 len) := by
  have g : Nat.ble 18 (gn M 101 47 0) = true := Nat.ble_eq_true_of_le h4
  have i0 : ix 0 = 0 := rfl
  rw [e_m_JR_copyOfRange, if_pos rfl, h1, zi_n, zife (by omega) (by omega) (by omega) (by omega)]
  by_cases c : len = cap
  · rw [if_pos (by omega), g, c]; rfl
  · rw [if_neg (by omega)]
    have l1 : gn (xnewD M 47 len) 159 a 0 = cap := by
      have : (xnewD M 47 len) 159 a 0 = M 159 a 0 := xnewD_v (by decide) (by omega) (by omega) (by omega)
      have e : gn (xnewD M 47 len) 159 a 0 = gn M 159 a 0 := by unfold gn; rw [this]
      exact e.trans h1
    have l2 : gn (xnewD M 47 len) 157 (gn M 101 47 0) 0 = len := xnewD_len
    have z0 : zi (len : Nat) - 0 = zi (len : Nat) := Int32.sub_zero _
    rw [e_m_JR_copyOfRangeByte, e_m_JR_checkLength, zi_00, zif (by omega) (by omega) (by decide) (by decide), if_neg (by omega), ← zi_00, xret_v, xbV_r, z0, if_neg (fun q => by
      rcases q with q | q
      · rw [zi_00, zi_lt (by omega) (by omega) (by omega) (by omega)] at q; omega
      · rw [zix (by omega)] at q; omega), zix (by omega), l1, Int32.sub_zero, zi_n, e_m_JM_min, zif (by omega) (by omega) (by omega) (by omega), if_pos (by omega), xret_v, xbI_r, xgd_t g, l1, l2, i0, zix (by omega), if_neg (fun q => by
      rcases q with q | q | q | q | q
      · exact Int32.lt_irrefl q
      · exact Int32.lt_irrefl q
      · rw [zi_00, zi_lt (by omega) (by omega) (by omega) (by omega)] at q; omega
      · omega
      · omega), xret_v, xbR_r]
/-- counters of strings and their bytes -/
def CNs (M : xM) : Prop := gn M 101 46 0 = gn M 101 47 0 ∧ 18 ≤ gn M 101 47 0
theorem s_toString {M0 M : xM} {sb : Nat} {T : Wx} (hC : CNs M) (h : CWX M0 M sb T) (hl : T.1 ≤ 192) : ∃ M1 f, m_JB_toString sb M = some (.inl (some (46, .ref (gn M 101 46 0))), M1) ∧ TX M1 (gn M 101 46 0) T.1 f ∧ (∀ i, i < T.1 → f i = T.2 i) ∧ fz onWs M M1 ∧ gn M1 101 46 0 = gn M 101 46 0 + 1 ∧ gn M1 101 47 0 = gn M 101 47 0 + 1 ∧ gn M1 100 0 0 ≤ gn M 100 0 0 + 2 ∧ gn M1 100 0 1 ≤ gn M 100 0 1 + 200 := by
  obtain ⟨a, cap, ⟨⟨c1, c2, c3, c4, c5, c6⟩, ⟨d1, d2, d3⟩, e, _, f⟩⟩ := h
  obtain ⟨k1, k2⟩ := hC
  obtain ⟨n, hn⟩ : ∃ n, gn M 101 46 0 = n + 18 := ⟨gn M 101 46 0 - 18, by omega⟩
  generalize hA : xnew M 46 4 = A
  have A50 : ∀ s, A 50 sb s = M 50 sb s := fun s => by rw [← hA]; exact xnew_v (by decide) (by omega) (by omega)
  have A250 : A 250 sb 0 = M 250 sb 0 := by rw [← hA]; exact xnew_v (by decide) (by omega) (by omega)
  have A159 : A 159 a 0 = M 159 a 0 := by rw [← hA]; exact xnew_v (by decide) (by omega) (by omega)
  have A47 : A 101 47 0 = M 101 47 0 := by rw [← hA]; exact xnew_v (by decide) (by omega) (by omega)
  have A49 : ∀ i, A 49 a i = M 49 a i := fun i => by rw [← hA]; exact xnew_v (by decide) (by omega) (by omega)
  have A46 : gn A 101 46 0 = n + 18 + 1 := by rw [← hA, xnew_101, hn]
  have Arm := xnew_RM (M := M) (k := 46) (n := 4) (by decide) (by decide)
  rw [hA] at Arm
  have fA : fz onWs M A := by rw [← hA]; exact Ws_new46 (by omega)
  generalize hB : xst A 46 (n + 18) 1 (.int 0) = B
  have vB : ∀ k o s, k ≠ 46 → B k o s = A k o s := fun k o s q => by rw [← hB]; exact if_neg (fun r => q r.1)
  have b159 : gn B 159 a 0 = cap := by unfold gn; rw [vB _ _ _ (by decide), A159]; exact c5
  have b47 : gn B 101 47 0 = n + 18 := by
    have : gn B 101 47 0 = gn M 101 47 0 := by unfold gn; rw [vB _ _ _ (by decide), A47]
    omega
  have sr := s_range (len := T.1) b159 d1 (by omega) (by omega)
  rw [b47] at sr
  have a1 : gn A 250 sb 0 = 1 := by unfold gn; rw [A250]; exact c1
  have a2 : gn A 50 sb 0 = a := by unfold gn; rw [A50]; exact c4
  have a3 : gi A 50 sb 2 = zi (T.1 : Nat) := by unfold gi; rw [A50]; exact c3
  have a4 : gi A 50 sb 1 = 0 := by unfold gi; rw [A50]; exact c2
  have fB : fz onWs A B := by rw [← hB]; exact Ws_st (Or.inl rfl) (by omega)
  have fD : fz onWs B (xnewD B 47 T.1) := Ws_new47 (by omega)
  have Brm := xnewD_RM (M := B) (k := 47) (n := T.1) (by decide) (by decide)
  have B100 : ∀ s, gn B 100 0 s = gn A 100 0 s := fun s => by unfold gn; rw [vB _ _ _ (by decide)]
  have W46 : ∀ o s, (xst (xcpy (xnewD B 47 T.1) 49 a 47 (n + 18) 0 0 T.1) 246 (n + 18) 0 (.ref 1)) 46 o s = B 46 o s := fun o s => (if_neg (fun q => absurd q.1 (by decide))).trans ((if_neg (fun q => absurd q.1 (by decide))).trans (xnewD_v (by decide) (by omega) (by omega) (by omega)))
  refine ⟨xst (xcpy (xnewD B 47 T.1) 49 a 47 (n + 18) 0 0 T.1) 246 (n + 18) 0 (.ref 1), fun i => gi (xst (xcpy (xnewD B 47 T.1) 49 a 47 (n + 18) 0 0 T.1) 246 (n + 18) 0 (.ref 1)) 47 (n + 18) i, ?_, ?_, fun i hi => ?_, ?_, ?_, ?_, ?_, ?_⟩
  · rw [e_m_JB_toString, hn, hA, e_m_JS_init_1, e_m_JS_init_0, e_m_JA_getValue, if_pos a1, xret_v, a2, xbR_r, e_m_JB_length, e_m_JA_length, a3, xret_v, xbI_r, xret_v, xbI_r, e_m_JA_isLatin1, if_neg (by decide), if_pos a4, xnar_1, xret_v, xbI_r, ite_bt, if_pos rfl, hB, sr, xret_v, xbR_r, if_pos rfl, xret_v, xbV_r, xret_v, xbV_r]
  · rw [hn]
    refine ⟨gn_h _ _ _ _ _, ?_, ?_, fun i => rfl⟩
    · rw [gn_k (by decide), gn_cpy (by decide)]
      have := xnewD_len (M := B) (k := 47) (n := T.1)
      rw [b47] at this
      exact this
    · have : gi B 46 (n + 18) 1 = 0 := by rw [← hB, gi_h]
      unfold gi at this ⊢
      rw [W46]; exact this
  · show gi (xst (xcpy (xnewD B 47 T.1) 49 a 47 (n + 18) 0 0 T.1) 246 (n + 18) 0 (.ref 1)) 47 (n + 18) i = T.2 i
    rw [gi_k (by decide), gi_cpy, if_pos ⟨rfl, rfl, by omega, by omega⟩, show 0 + (i - 0) = i by omega, ← e i hi]
    unfold gi
    rw [xnewD_v (by decide) (by omega) (by omega) (by omega), vB _ _ _ (by decide), A49]
  · exact fz_trans (fz_trans (fz_trans (fz_trans fA fB) fD) (Ws_cpy (by omega))) (Ws_st (Or.inr (Or.inr (Or.inr (Or.inl rfl)))) (by omega))
  · rw [gn_k (by decide), gn_cpy (by decide), hn]
    have : (xnewD B 47 T.1) 101 46 0 = B 101 46 0 := xnewD_v (by decide) (by omega) (by omega) (by omega)
    have e1 : gn (xnewD B 47 T.1) 101 46 0 = gn A 101 46 0 := by unfold gn; rw [this, vB _ _ _ (by decide)]
    rw [e1, A46]
  · rw [gn_k (by decide), gn_cpy (by decide), xnewD_101, b47]; omega
  · rw [gn_k (by decide), gn_cpy (by decide), Brm.1, B100]; omega
  · rw [gn_k (by decide), gn_cpy (by decide), Brm.2, B100]; omega
/-- the class's text -/
theorem s_asText {M : xM} {b : Nat → Int} (hK : KC M) (hS : CWs M b) (hw : wF b) (hC : CNs M) : ∃ M1 f, m_S_asText 0 9 M = some (.inl (some (46, .ref (gn M 101 46 0))), M1) ∧ TX M1 (gn M 101 46 0) (wxy b (mkB b).toNat).1 f ∧ (∀ i, i < (wxy b (mkB b).toNat).1 → f i = (wxy b (mkB b).toNat).2 i) ∧ fz onWs M M1 ∧ CNs M1 ∧ gn M1 100 0 0 ≤ gn M 100 0 0 + 450 ∧ gn M1 100 0 1 ≤ gn M 100 0 1 + 2000 := by
  have hn := wS_n hw.1
  have ln := wx_all hw.2.2.1 hn.2.1 (mkB b).toNat
  generalize hB : gn M 101 50 0 = sb
  generalize hN : xnew M 50 4 = N
  have fN : fz onWx M N := fun k o s q => by
    have x := onWx_f q
    rw [← hN]
    exact xnew_v x.2.2.1 x.2.2.2.2.2.2.2 (fun r => by rcases r.1 with r | r <;> omega)
  have N0 : gi N 50 sb 2 = 0 := by rw [← hN, ← hB]; exact xnew_z (by decide) (by decide)
  have Nrm := xnew_RM (M := M) (k := 50) (n := 4) (by decide) (by decide)
  rw [hN] at Nrm
  have Drm := xnewD_RM (M := N) (k := 49) (n := 16) (by decide) (by decide)
  have q50 : ∀ o s, gi (xnewD N 49 16) 50 o s = gi N 50 o s := fun o s => by unfold gi; rw [xnewD_v (by decide) (by omega) (by omega) (by omega)]
  have ini : m_JB_init sb N = rV (xst (xst (xst (xnewD N 49 16) 50 sb 0 (.ref (gn N 101 49 0))) 250 sb 0 (.ref 1)) 50 sb 1 (.int 0)) := by
    rw [e_m_JB_init, e_m_JA_init, if_neg (by decide), if_neg (show ¬ ((16 : Int32) < 0 ∨ 65536 < ix 16) by decide), if_pos (by decide), xret_v, xbV_r]
    rfl
  have h0 : CWX M (xst (xst (xst (xnewD N 49 16) 50 sb 0 (.ref (gn N 101 49 0))) 250 sb 0 (.ref 1)) 50 sb 1 (.int 0)) sb wx0 := by
    refine ⟨gn N 101 49 0, 16, ⟨?_, ?_, ?_, ?_, ?_, ?_⟩, ⟨by decide, by decide, by decide⟩, fun i hi => absurd hi (Nat.not_lt_zero i), ⟨?_, ?_⟩, ?_⟩
    · rw [gn_k (by decide), gn_h]
    · rw [gi_h]
    · rw [gi_s (by decide), gi_k (by decide), gi_s (by decide), q50, N0]; rfl
    · rw [gn_s (by decide), gn_k (by decide), gn_h]
    · rw [gn_k (by decide), gn_k (by decide), gn_k (by decide)]; exact xnewD_len
    · rw [gn_k (by decide), gn_k (by decide), gn_k (by decide), xnewD_101]; omega
    · rw [gn_k (by decide), gn_k (by decide), gn_k (by decide), Drm.1]; omega
    · rw [gn_k (by decide), gn_k (by decide), gn_k (by decide), Drm.2]; omega
    · exact fz_step (fz_step (fz_step (fz_trans fN (Wx_new _ _)) rfl) rfl) rfl
  obtain ⟨M2, e2, h2⟩ := s_wall hK hS hw h0
  have f2 := CWX_f h2
  have k46 : gn M2 101 46 0 = gn M 101 46 0 := fz_gn f2 rfl
  have k47 : gn M2 101 47 0 = gn M 101 47 0 := fz_gn f2 rfl
  have hC2 : CNs M2 := by unfold CNs; rw [k46, k47]; exact hC
  obtain ⟨M3, f, e3, tx, tf, f3, n46, n47, r1, r2⟩ := s_toString hC2 h2 ln
  obtain ⟨a, cap, hc⟩ := h2
  have rm := hc.2.2.2.1
  have cp := hc.2.1
  rw [k46] at e3 tx n46
  rw [k47] at n47
  refine ⟨M3, f, ?_, tx, tf, fz_trans (Ws_x f2) f3, ⟨?_, ?_⟩, by omega, by omega⟩
  · rw [e_m_S_asText, hB, hN, ini, xret_v, xbV_r, e2, e3, xret_v, xbR_r]
  · rw [n46, n47, hC.1]
  · rw [n47]; have := hC.2; omega
