/-! writing the schedule: the class writes its tasks -/
theorem s_letter {M : xM} {b : Nat → Int} {a : Nat} (n1 : 1 ≤ b a ∧ b a ≤ 6) (n2 : ∀ k, k < (b a).toNat → 97 ≤ b (a + 1 + k) ∧ b (a + 1 + k) ≤ 122) {k : Nat} (hk : k < 6) : m_C_letterOf (pk b a) (zi (k : Nat)) M = rI (zi (if (k : Int) < b a then b (a + 1 + k) else 0)) M := by
  have l8 : pkN (fun k => (b (a + 1 + k)).toNat) (b a).toNat < 9223372036854775808 := by
    have a1 := pkN_lt (g := fun k => (b (a + 1 + k)).toNat) (n := (b a).toNat) (fun k hk => by have := n2 k hk; omega)
    have a2 : 256 ^ (b a).toNat ≤ 256 ^ 6 := Nat.pow_le_pow_right (by decide) (by omega)
    have a3 : (256 : Nat) ^ 6 = 281474976710656 := by decide
    omega
  have key := pk_byte (i := k) (by omega) l8
  rw [pkN_byte (fun k hk => by have := n2 k hk; omega)] at key
  rw [e_m_C_letterOf, zi_00, zif (by omega) (by omega) (by decide) (by decide), if_neg (by omega), zi_06, zif (by omega) (by omega) (by decide) (by decide), if_pos (by omega)]
  unfold pk
  rw [key]
  by_cases q : (k : Int) < b a
  · have := n2 k (by omega)
    rw [if_pos (by omega), if_pos q]
    exact congrArg (fun z => rI (zi z) M) (by omega)
  · rw [if_neg (by omega), if_neg q]
    rfl
theorem u16_tab : (List.range 128).all (fun c => ((Int32.toUInt32 (zi ((c : Nat) : Int))) % 65536).toInt32 == zi ((c : Nat) : Int)) = true := by decide +kernel
theorem u16_eq {c : Nat} (h : c < 128) : ((Int32.toUInt32 (zi ((c : Nat) : Int))) % 65536).toInt32 = zi ((c : Nat) : Int) := eq_of_beq (List.all_eq_true.mp u16_tab c (List.mem_range.mpr h))
/-- what the class reads while it writes -/
def CWs (M : xM) (b : Nat → Int) : Prop := CP M 9 b ∧ DT M b ∧ gi M 15 0 3 = zi (mkB b) ∧ ∀ t, t < nT b → gi M 16 0 t = zi (stB b t)
theorem CWs_f {M M' : xM} {b : Nat → Int} (h : CWs M b) (f : fz onWx M M') : CWs M' b := ⟨CP_fz h.1 f (fun k s h1 h2 => by
  have : k = 2 ∨ k = 3 ∨ k = 4 ∨ k = 5 ∨ k = 6 ∨ k = 7 ∨ k = 8 ∨ k = 9 := by omega
  rcases this with rfl | rfl | rfl | rfl | rfl | rfl | rfl | rfl <;> rfl), ⟨(fz_gi f rfl).trans h.2.1.1, fun k hk => by
  obtain ⟨a, c, d, e⟩ := h.2.1.2 k hk
  exact ⟨(fz_gi f rfl).trans a, (fz_gi f rfl).trans c, (fz_gi f rfl).trans d, (fz_gi f rfl).trans e⟩⟩, (fz_gi f rfl).trans h.2.2.1, fun t ht => (fz_gi f rfl).trans (h.2.2.2 t ht)⟩
def CWX (M0 M : xM) (sb : Nat) (T : Wx) : Prop := ∃ a cap, CWx M0 M sb T a cap
theorem CWX_f {M0 M : xM} {sb : Nat} {T : Wx} (h : CWX M0 M sb T) : fz onWx M0 M := by
  obtain ⟨a, cap, h⟩ := h
  exact h.2.2.2.2
theorem CWX_n {M0 M : xM} {sb : Nat} {T : Wx} (h : CWX M0 M sb T) : gi M 50 sb 2 = zi (T.1 : Nat) := by
  obtain ⟨a, cap, h⟩ := h
  exact h.1.2.2.1
theorem S_app {M0 M : xM} {sb : Nat} {T : Wx} {c : Nat} (h : CWX M0 M sb T) (hc : c < 128) (hl : T.1 + 1 ≤ 220) : ∃ M1, m_JB_append_0 sb (zi (c : Nat)) M = some (.inl (some (50, .ref sb)), M1) ∧ CWX M0 M1 sb (wxp T (zi (c : Nat))) := by
  obtain ⟨a, cap, h⟩ := h
  obtain ⟨M1, a1, cap1, e, h1⟩ := s_app h hc hl
  exact ⟨M1, e, a1, cap1, h1⟩
theorem S_appN {M0 M : xM} {sb : Nat} {T : Wx} {x : Nat} (hK : KC M0) (h : CWX M0 M sb T) (hx : x < 1000) (hl : T.1 + 3 ≤ 220) : ∃ M1, m_JB_append_1 sb (zi (x : Nat)) M = some (.inl (some (50, .ref sb)), M1) ∧ CWX M0 M1 sb (wxd T x) := by
  obtain ⟨a, cap, h⟩ := h
  obtain ⟨M1, a1, cap1, e, h1⟩ := s_appN hK h hx hl
  exact ⟨M1, e, a1, cap1, h1⟩
theorem s_wtask {M0 M : xM} {b : Nat → Int} {T : Wx} {sb t : Nat} (hK : KC M0) (hS : CWs M0 b) (hw : wF b) (ht : t < nT b) (h : CWX M0 M sb T) (hl : T.1 + 16 ≤ 220) : ∃ M1, m_S_writeTask 0 9 (zi (t : Nat)) sb M = rV M1 ∧ CWX M0 M1 sb (wxk b T t) := by
  have hn := wS_n hw.1
  have nm := hw.2.2.1 t ht
  obtain ⟨n1, n2⟩ := nm
  have sb1 := stB_ok hw.1 ht
  have mk := (mkB_ok hw.1).2
  have bd := hw.1.2.2.2.1 t ht
  have wb := wxb_len T
  have A : ∃ N1, m_S_writeTask 0 9 (zi (t : Nat)) sb M = b_S_writeTask_10 0 9 (zi (t : Nat)) sb 0 N1 ∧ CWX M0 N1 sb (wxb T) := by
    rw [e_m_S_writeTask, e_m_JB_length, e_m_JA_length, CWX_n h, xret_v, xbI_r, xret_v, xbI_r, zi_00]
    unfold wxb
    by_cases c : T.1 = 0
    · rw [if_neg (fun q => by rw [zi_lt (by omega) (by omega) (by omega) (by omega)] at q; omega), if_pos c]
      exact ⟨M, rfl, h⟩
    · obtain ⟨N1, e1, h1⟩ := S_app (c := 32) h (by decide) (by omega)
      rw [if_pos (zi_ltz (x := 0) (by omega) (by decide) (by omega)), if_neg c, show (32 : Int32) = zi ((32 : Nat) : Int) from rfl, e1, xret_v, xbR_r]
      exact ⟨N1, rfl, h1⟩
  obtain ⟨N1, e1, h1⟩ := A
  rw [e1]
  have nn : ∀ i : Nat, (if i < (b (28 + 12 * t)).toNat then i else (b (28 + 12 * t)).toNat) ≤ 6 := fun i => by
    by_cases c : i < (b (28 + 12 * t)).toNat
    · rw [if_pos c]; omega
    · rw [if_neg c]; omega
  refine lpM (B := fun i N' => b_S_writeTask_10 0 9 (zi (t : Nat)) sb (zi (i : Nat)) N') (n := 6) (fun i N' => CWX M0 N' sb (wxn b (28 + 12 * t) (wxb T) (if i < (b (28 + 12 * t)).toNat then i else (b (28 + 12 * t)).toNat))) (fun q => ∃ M1, q = rV M1 ∧ CWX M0 M1 sb (wxk b T t)) (fun i N' hi g => ?_) (fun N' g => ?_) 0 N1 (Nat.zero_le _) (by rw [if_pos (by omega)]; exact h1)
  · have hC := CWs_f hS (CWX_f g)
    show ∃ N2, CWX M0 N2 sb (wxn b (28 + 12 * t) (wxb T) (if i + 1 < (b (28 + 12 * t)).toNat then i + 1 else (b (28 + 12 * t)).toNat)) ∧ b_S_writeTask_10 0 9 (zi (t : Nat)) sb (zi (i : Nat)) N' = b_S_writeTask_10 0 9 (zi (t : Nat)) sb (zi ((i + 1 : Nat) : Int)) N2
    have sl := s_letter (M := N') n1 n2 hi
    have hd : ∀ v : Int32, m_C_letterOf (pk b (28 + 12 * t)) (zi (i : Nat)) N' = rI v N' → b_S_writeTask_10 0 9 (zi (t : Nat)) sb (zi (i : Nat)) N' = (if v = 0 then b_S_writeTask_10 0 9 (zi (t : Nat)) sb (zi ((i + 1 : Nat) : Int)) N' else xbR (xret (m_JB_append_0 sb (((Int32.toUInt32 v) % 65536).toInt32) N')) 50 (fun _ M15 => b_S_writeTask_10 0 9 (zi (t : Nat)) sb (zi ((i + 1 : Nat) : Int)) M15)) := fun v hv => by
      rw [e_b_S_writeTask_10, zi_06, zif (by omega) (by omega) (by decide) (by decide), if_pos (show (i : Int) < 6 by omega), xck_n (by omega) (by decide), zix (by omega), CP_N hC.1 ht, hv, xret_v, xbI_r, zi_suc i]
    by_cases c : i < (b (28 + 12 * t)).toNat
    · have ly := n2 i c
      have ln := wxn_len b (28 + 12 * t) (wxb T) i
      have e0 : b (28 + 12 * t + 1 + i) = (((b (28 + 12 * t + 1 + i)).toNat : Nat) : Int) := by omega
      rw [if_pos c] at g
      rw [if_pos (show (i : Int) < b (28 + 12 * t) by omega)] at sl
      obtain ⟨N2, e2, h2⟩ := S_app (c := (b (28 + 12 * t + 1 + i)).toNat) g (by omega) (by omega)
      have e3 : (if i + 1 < (b (28 + 12 * t)).toNat then i + 1 else (b (28 + 12 * t)).toNat) = i + 1 := by
        by_cases d : i + 1 < (b (28 + 12 * t)).toNat
        · rw [if_pos d]
        · rw [if_neg d]; omega
      refine ⟨N2, ?_, ?_⟩
      · rw [e3]
        rw [← e0] at h2
        exact h2
      · rw [hd _ sl, if_neg (fun q => by rw [zi_00, zi_eq (by omega) (by omega) (by decide) (by decide)] at q; omega), e0, u16_eq (by omega), e2, xret_v, xbR_r]
    · rw [if_neg c] at g
      rw [if_neg (show ¬ (i : Int) < b (28 + 12 * t) by omega)] at sl
      refine ⟨N', ?_, ?_⟩
      · rw [if_neg (by omega)]
        exact g
      · rw [hd _ sl, if_pos (show zi 0 = (0 : Int32) from rfl)]
  · have g : CWX M0 N' sb (wxt b T t) := by
      have e3 : (if 6 < (b (28 + 12 * t)).toNat then 6 else (b (28 + 12 * t)).toNat) = (b (28 + 12 * t)).toNat := if_neg (by omega)
      have g := g
      rw [e3] at g
      exact g
    have wt := wxt_len T (hw.2.2.1 t ht)
    have st : (stB b t : Int) = (((stB b t).toNat : Nat) : Int) := by omega
    have fn : (stB b t + bD b t : Int) = (((stB b t + bD b t).toNat : Nat) : Int) := by omega
    obtain ⟨X1, x1, p1⟩ := S_app (c := 58) g (by decide) (by omega)
    have l1 : (wxp (wxt b T t) 58).1 = (wxt b T t).1 + 1 := rfl
    have p1 : CWX M0 X1 sb (wxp (wxt b T t) 58) := p1
    obtain ⟨X2, x2, p2⟩ := S_appN hK p1 (x := (stB b t).toNat) (by omega) (by omega)
    have l2 := wxd_len (wxp (wxt b T t) 58) (stB b t).toNat
    obtain ⟨X3, x3, p3⟩ := S_app (c := 45) p2 (by decide) (by omega)
    have l3 : (wxp (wxd (wxp (wxt b T t) 58) (stB b t).toNat) 45).1 = (wxd (wxp (wxt b T t) 58) (stB b t).toNat).1 + 1 := rfl
    have p3 : CWX M0 X3 sb (wxp (wxd (wxp (wxt b T t) 58) (stB b t).toNat) 45) := p3
    obtain ⟨X4, x4, p4⟩ := S_appN hK p3 (x := (stB b t + bD b t).toNat) (by omega) (by omega)
    have p4 : CWX M0 X4 sb (wxe b (wxt b T t) t) := p4
    have l4 := wxe_len b (wxt b T t) t
    have C1 := CWs_f hS (CWX_f p1)
    have C3 := CWs_f hS (CWX_f p3)
    have C4 := CWs_f hS (CWX_f p4)
    have el := esB_lo hw.1 ht
    have eh := esB_hi hw.1 ht
    have ll := lsB_lo hw.1 ht
    have lh := lsB_hi hw.1 ht
    have eh2 := etB_hi hw.1
    have hd : b_S_writeTask_10 0 9 (zi (t : Nat)) sb (zi ((6 : Nat) : Int)) N' = if zi (lsB b t - esB b t) = 0 then xbR (xret (m_JB_append_0 sb 42 X4)) 50 (fun r12 M11 => rV M11) else rV X4 := by
      rw [e_b_S_writeTask_10, if_neg (show ¬ zi ((6 : Nat) : Int) < 6 by decide), show (58 : Int32) = zi ((58 : Nat) : Int) from rfl, x1, xret_v, xbR_r, xck_n (by omega) (by decide), zix (by omega), C1.2.2.2 t ht, st, x2, xret_v, xbR_r, show (45 : Int32) = zi ((45 : Nat) : Int) from rfl, x3, xret_v, xbR_r, xck_n (by omega) (by decide), xck_n (by omega) (by decide), C3.2.2.2 t ht, CP_D C3.1 ht, zi_add, fn, x4, xret_v, xbR_r, s_slack C4.1 C4.2.1 ht, xbI_r]
    show ∃ M1, b_S_writeTask_10 0 9 (zi (t : Nat)) sb (zi ((6 : Nat) : Int)) N' = rV M1 ∧ CWX M0 M1 sb (wxk b T t)
    rw [hd, zi_00, zife (by omega) (by omega) (by decide) (by decide)]
    unfold wxk
    by_cases c : lsB b t = esB b t
    · obtain ⟨X5, x5, p5⟩ := S_app (c := 42) p4 (by decide) (by omega)
      rw [if_pos (by omega), if_pos c, show (42 : Int32) = zi ((42 : Nat) : Int) from rfl, x5, xret_v, xbR_r]
      exact ⟨X5, rfl, p5⟩
    · rw [if_neg (by omega), if_neg c]
      exact ⟨X4, rfl, p4⟩
theorem s_wall {M0 M : xM} {b : Nat → Int} {sb : Nat} (hK : KC M0) (hS : CWs M0 b) (hw : wF b) (h : CWX M0 M sb wx0) : ∃ M1, b_S_asText_7 0 9 sb 0 M = xbR (xret (m_JB_toString sb M1)) 46 (fun r2 M1 => some (.inl (some (46, .ref r2)), M1)) ∧ CWX M0 M1 sb (wxy b (mkB b).toNat) := by
  have hn := wS_n hw.1
  have mk := mkB_ok hw.1
  have em : ((mkB b).toNat : Int) = mkB b := by omega
  refine lpM (B := fun d N' => b_S_asText_7 0 9 sb (zi (d : Nat)) N') (n := (mkB b).toNat) (fun d N' => CWX M0 N' sb (wxy b d)) (fun q => ∃ M1, q = xbR (xret (m_JB_toString sb M1)) 46 (fun r2 M1 => some (.inl (some (46, .ref r2)), M1)) ∧ CWX M0 M1 sb (wxy b (mkB b).toNat)) (fun d N' hd g => ?_) (fun N' g => ?_) 0 M (Nat.zero_le _) h
  · have hC := CWs_f hS (CWX_f g)
    show ∃ N2, CWX M0 N2 sb (wxy b (d + 1)) ∧ b_S_asText_7 0 9 sb (zi (d : Nat)) N' = b_S_asText_7 0 9 sb (zi ((d + 1 : Nat) : Int)) N2
    rw [e_b_S_asText_7, hC.2.2.1, zif (by omega) (by omega) (by omega) (by omega), if_pos (by omega)]
    refine lpM (B := fun k N' => b_S_asText_14 0 9 sb (zi (d : Nat)) (zi (k : Nat)) N') (n := nT b) (fun k N' => CWX M0 N' sb (wxr b d (wxy b d) k)) (fun q => ∃ N2, CWX M0 N2 sb (wxy b (d + 1)) ∧ q = b_S_asText_7 0 9 sb (zi ((d + 1 : Nat) : Int)) N2) (fun k N1 hk g1 => ?_) (fun N1 g1 => ?_) 0 N' (Nat.zero_le _) g
    · have hC := CWs_f hS (CWX_f g1)
      have bd := wx_bd hw.2.2.1 hn.2.1 d k hk
      have sk := stB_ok hw.1 hk
      have bD := hw.1.2.2.2.1 k hk
      show ∃ N2, CWX M0 N2 sb (wxr b d (wxy b d) (k + 1)) ∧ b_S_asText_14 0 9 sb (zi (d : Nat)) (zi (k : Nat)) N1 = b_S_asText_14 0 9 sb (zi (d : Nat)) (zi ((k + 1 : Nat) : Int)) N2
      rw [e_b_S_asText_14, CP_T hC.1, if_pos (zi_ltn hk (by omega)), xck_n (by omega) (by decide), zix (by omega), hC.2.2.2 k hk]
      unfold wxr
      by_cases c : stB b k = (d : Int)
      · rw [if_pos c] at bd
        obtain ⟨N2, e2, r2⟩ := s_wtask hK hS hw hk g1 (by omega)
        rw [if_pos c, if_pos (show zi (stB b k) = zi (d : Nat) by rw [c]), e2, xbV_r, zi_suc k]
        exact ⟨N2, r2, rfl⟩
      · rw [if_neg c, if_neg (fun q : zi (stB b k) = zi (d : Nat) => by rw [zi_eq (by omega) (by omega) (by omega) (by omega)] at q; exact c q), zi_suc k]
        exact ⟨N1, g1, rfl⟩
    · have hC := CWs_f hS (CWX_f g1)
      show ∃ N2, CWX M0 N2 sb (wxy b (d + 1)) ∧ b_S_asText_14 0 9 sb (zi (d : Nat)) (zi (nT b : Nat)) N1 = b_S_asText_7 0 9 sb (zi ((d + 1 : Nat) : Int)) N2
      rw [e_b_S_asText_14, CP_T hC.1, if_neg (zi_irr _), zi_suc d]
      exact ⟨N1, g1, rfl⟩
  · have hC := CWs_f hS (CWX_f g)
    show ∃ M1, b_S_asText_7 0 9 sb (zi ((mkB b).toNat : Nat)) N' = _ ∧ _
    rw [e_b_S_asText_7, hC.2.2.1, em, if_neg (zi_irr _)]
    exact ⟨N', rfl, g⟩
