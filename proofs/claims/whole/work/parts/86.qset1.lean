/-! calls that change the plan -/
theorem CH_CP {M A : xM} {b : Nat → Int} (h : CH M A) (hP : CP M 9 b) : CP A 9 b := by
  obtain ⟨c, w, _, hw, _, _, _, _, f, _⟩ := h
  exact CP_fz hP f (fun k s a d => onCH_f (by omega) (by omega))
theorem CH_J {M A : xM} (h : CH M A) : fz onJ M A := by
  obtain ⟨c, w, _, hw, _, _, _, _, f, _⟩ := h
  exact fz_mono (fun k o s e => by
    unfold onCH at e
    rcases Bool.or_eq_true_iff.mp e with e | e
    · rw [Nat.eq_of_beq_eq_true (Bool.and_eq_true_iff.mp e).1]; rfl
    · unfold onP at e
      obtain ⟨h1, _⟩ := Bool.and_eq_true_iff.mp e
      obtain ⟨h2, h3⟩ := Bool.and_eq_true_iff.mp h1
      have h2 := Nat.le_of_ble_eq_true h2
      have h3 := Nat.le_of_ble_eq_true h3
      exact onJ_t (by omega) (by omega)) f
theorem CH_gi {M A : xM} (h : CH M A) {k o s : Nat} (h1 : k ≠ 17) (h2 : k < 2 ∨ 9 < k) : gi A k o s = gi M k o s := by
  obtain ⟨c, w, _, hw, _, _, _, _, f, _⟩ := h
  exact fz_gi f (onCH_f h1 (by omega))
theorem Inv_CH {M : xM} (hI : Inv M) : ∃ A, m_H_remember 0 9 M = rV A ∧ CH M A := by
  obtain ⟨c, w, g1, g2, g3, g4, g5, _⟩ := hI.2.1
  exact s_remember g1 g2 g4 g5
theorem J_H {M M' : xM} (f : fz onH M M') : fz onJ M M' := fz_mono (fun k o s h => by
  unfold onH at h
  rcases Bool.or_eq_true_iff.mp (Bool.and_eq_true_iff.mp h).2 with e | e
  · rw [Nat.eq_of_beq_eq_true (Bool.and_eq_true_iff.mp e).1]; rfl
  · rw [Nat.eq_of_beq_eq_true (Bool.and_eq_true_iff.mp e).1]; rfl) f
theorem RB_H {M M' : xM} {b : Nat → Int} (h : RB M b) (f : fz onH M M') : RB M' b := fun k hk => (fz_gi f (by
  have := onH_b (i := 0) hk (Or.inl rfl)
  rw [show 316 * 0 + k = k by omega] at this
  exact this)).trans (h k hk)
theorem r_rem {N : xM} {c : Nat} (hc : c ≤ 6) (h : gi N 27 0 2 = zi c) : ∃ N1, m_M_remember 0 0 N = rV N1 ∧ RH N N1 := by
  obtain ⟨N1, c', e, f, ec, e2, e0, ej⟩ := r_remember hc h
  exact ⟨N1, e, c, c', hc, h, f, ec, e2, e0, ej⟩
theorem RH_H {N N1 : xM} (h : RH N N1) : fz onH N N1 := by
  obtain ⟨c, c', _, _, f, _⟩ := h
  exact f
/-- a change that both sides do -/
theorem QR_chg {P : Int32 → Prop} {M A A2 N1 N2 : xM} {b' : Nat → Int} {y : Int32} {r : xR} {r' : xM → xR} (hI : Inv M) (hA : CH M A) (f2 : fr (onP 9) A A2) (hP : CP A2 9 b') (hw : wF b') (e : r = rI 0 (xst A2 39 0 0 (.long (Int32.toInt64 y)))) (e' : r' (xst A2 39 0 0 (.long (Int32.toInt64 y))) = rI y N2) (h4 : RH (xst (xst A2 39 0 0 (.long (Int32.toInt64 y))) 27 0 9 (.int 0)) N1) (f5 : fz onBK N1 N2) (hB : RB N2 b') (hp : P y) : QR P M r r' := by
  have f4 := RH_H h4
  have j1 : fz onJ M (xst A2 39 0 0 (.long (Int32.toInt64 y))) := fz_step (fz_trans (CH_J hA) (onJ_P9 f2)) rfl
  have j2 : fz onJ (xst A2 39 0 0 (.long (Int32.toInt64 y))) N2 := fz_trans (fz_st rfl) (fz_trans (J_H f4) (onJ_BK f5))
  refine ⟨0, _, N2, y, e, e', ?_, fun _ => ⟨?_, hp⟩, SF_J j1, SF_J j2, Inv_chg hI hA f2 (fz_step (fz_st rfl) rfl) h4 f5 hP hB hw, RM_le (RM_J (fz_trans j1 j2)) (by decide) (by decide)⟩
  · rw [fz_gi f5 rfl, fz_gi f4 rfl, gi_h]
  · rw [fz_gl f5 rfl, fz_gl f4 rfl, gl_k (by decide), gl_h]
/-- what the reference's buffers hold after the class's part -/
theorem mid_27 {M A A2 : xM} {v w : Value} {c : Nat} (hA : CH M A) (f2 : fr (onP 9) A A2) (h : gi M 27 0 2 = zi c) : gi (xst (xst A2 39 0 0 v) 27 0 9 w) 27 0 2 = zi c := by
  rw [gi_s (by decide), gi_k (by decide), fr_gi f2 (onP_k (by omega)), CH_gi hA (by decide) (by omega), h]
theorem mid_RB {M A A2 : xM} {v : Value} (hA : CH M A) (f2 : fr (onP 9) A A2) : RB (xst A2 39 0 0 v) (bk M 0) := fun k hk => by
  rw [gi_k (by decide), fr_gi f2 (onP_k (by omega)), CH_gi hA (by decide) (by omega)]
  exact RB_bk M k hk
theorem r_change {N : xM} {b : Nat → Int} (hB : RB N b) (hw : wS b) {x k v lo hi : Int} (h1 : -2147483648 ≤ x) (h2 : x < 2147483648) (h3 : -2147483648 ≤ v) (h4 : v < 2147483648) (h5 : -2147483648 ≤ lo) (h6 : lo < 2147483648) (h7 : -2147483648 ≤ hi) (h8 : hi < 2147483648) : m_M_change 0 (zi x) (zi k) (zi v) (zi lo) (zi hi) N = if 0 ≤ x ∧ x < nT b then (if lo ≤ v ∧ v ≤ hi then xbV (m_M_remember 0 0 (xst N 27 0 9 (.int 0))) (fun A => xbI (m_M_of 0 (zi x) (zi k) A) (fun r C => xbV (m_M_set 0 (zi x) (zi k) (zi v) C) (fun D => rI r D))) else rI 0 (xst N 27 0 9 (.int 2))) else rI 0 (xst N 27 0 9 (.int 1)) := by
  rw [e_m_M_change, r_isTask hB hw h1 h2, xbI_r]
  by_cases c : 0 ≤ x ∧ x < nT b
  · rw [if_pos c, decide_eq_true c, ite_bt, r_inr h3 h4 h5 h6 h7 h8, xbI_r]
    by_cases d : lo ≤ v ∧ v ≤ hi
    · rw [if_pos d, decide_eq_true d, ite_bt, r_F0]
    · rw [if_neg d, decide_eq_false d, ite_bf, r_F2]
  · rw [if_neg c, decide_eq_false c, ite_bf, r_inr h3 h4 h5 h6 h7 h8, xbI_r]
    by_cases d : lo ≤ v ∧ v ≤ hi
    · rw [decide_eq_true d, ite_bt, r_F1]
    · rw [decide_eq_false d, ite_bf, r_F1]
theorem wF_rel {b : Nat → Int} (hw : wF b) (hr : nR b ≤ 3) {t : Nat} (ht : t < nT b) {v : Int} (hv : 0 ≤ v ∧ v ≤ 99) : wF (upI b (36 + 12 * t) v) := by
  have hn := wS_n hw.1
  exact wF_up hw ⟨by omega, by omega⟩ (by omega) (fun q => by omega) (fun s hs => by omega) (fun r hr => by omega) (fun s hs q => by omega) (fun s hs q => hv) (fun s r hs hr q => by omega) (fun r hr q => by omega)
theorem BK_s {N : xM} {s : Nat} {v : Value} (h : s < 316) : fz onBK N (xst N 28 0 s v) := BK_8 (fz_st (on280_t h))
theorem q_setDuration {M : xM} (hI : Inv M) (x y : Int32) : QR PT M (m_L_setDuration 0 x y 0 M) (m_M_setDuration 0 x y) := by
  obtain ⟨x, rfl, h1, h2⟩ := zi_ex x
  obtain ⟨y, rfl, h3, h4⟩ := zi_ex y
  obtain ⟨hc, _, hc6, _, g3, _⟩ := hI.2.1
  have hw := hI.1.1
  have hn := CP_n hI.1.2
  have hr3 := CP_r hI.1.2
  have hBb := RB_bmp (RB_bk M)
  have ch : ∀ {N : xM}, RB N (bk M 0) → m_M_change 0 (zi x) 7 (zi y) 1 30 N = _ := fun hB => r_change (k := 7) (lo := 1) (hi := 30) hB hw.1 h1 h2 h3 h4 (by decide) (by decide) (by decide) (by decide)
  by_cases c : 0 ≤ x ∧ x < nT (bk M 0)
  · by_cases d : 1 ≤ y ∧ y ≤ 30
    · obtain ⟨t, rfl⟩ : ∃ t : Nat, x = (t : Int) := ⟨x.toNat, by omega⟩
      have ht : t < nT (bk M 0) := by omega
      obtain ⟨A, ea, hA⟩ := Inv_CH hI
      have cA := CH_CP hA hI.1.2
      have f2 : fr (onP 9) A (xst A 6 9 t (.int (zi y))) := fr_st rfl
      have hB := mid_RB (v := .long (Int32.toInt64 (zi (bD (bk M 0) t)))) hA f2
      obtain ⟨N1, e1, hN⟩ := r_rem hc6 (mid_27 (v := .long (Int32.toInt64 (zi (bD (bk M 0) t)))) (w := .int 0) hA f2 g3)
      have hB1 := RB_H (RB_9 (v := .int 0) hB) (RH_H hN)
      refine QR_chg (y := zi (bD (bk M 0) t)) (N2 := xst N1 28 0 (35 + 12 * t) (.int (zi y))) (b' := upI (bk M 0) (35 + 12 * t) y) hI hA f2 (CP_upD cA hw ht y) (wF_dur hw hr3 ht d) ?_ ?_ hN (BK_s (by omega)) (RB_st hB1) trivial
      · rw [e_m_L_setDuration, e_m_C_setDuration, s_reqT hI.1.2 h1 h2, if_pos c, xbV_r, s_reqDur h3 h4, if_pos d, xbV_r, ea, xbV_r, xck_n (by omega) (by decide), zix (by omega), CP_D cA ht, s_chD cA h1 h2 h3 h4, if_pos ⟨c, d⟩, xbI_r, Int.toNat_natCast, xhI_r, xck_01]
        rfl
      · have st : ∀ (A : xM) (v : Int32), m_M_set 0 (zi t) (zi 7) v A = rV (xst A 28 0 (35 + 12 * t) (.int v)) := fun A v => by
          rw [show zi 7 = zi ((7 : Nat) : Int) from rfl, r_set (by omega) (by decide), show 28 + 12 * t + 7 = 35 + 12 * t by omega]
        have rd : ∀ {A : xM}, RB A (bk M 0) → m_M_of 0 (zi t) (zi 7) A = rI (zi (bD (bk M 0) t)) A := fun hB => r_D hB (by omega)
        rw [e_m_M_setDuration, ch hB, if_pos c, if_pos d, e1, xbV_r, rd hB1, xbI_r, st, xbV_r, xbI_r]
    · refine QR_f (c := 2) (v := 0) hI (by decide) ?_ ?_ (fz_refl _)
      · rw [e_m_L_setDuration, e_m_C_setDuration, s_reqT hI.1.2 h1 h2, if_pos c, xbV_r, s_reqDur h3 h4, if_neg d, xbV_e, xhI_e, if_neg (by decide), if_pos rfl]
      · rw [e_m_M_setDuration, ch hBb, if_pos c, if_neg d, xbI_r]
  · refine QR_f (c := 1) (v := 0) hI (by decide) ?_ ?_ (fz_refl _)
    · rw [e_m_L_setDuration, e_m_C_setDuration, s_reqT hI.1.2 h1 h2, if_neg c, xbV_e, xhI_e, if_pos rfl]
    · rw [e_m_M_setDuration, ch hBb, if_neg c, xbI_r]
theorem q_setRelease {M : xM} (hI : Inv M) (x y : Int32) : QR PT M (m_L_setRelease 0 x y 0 M) (m_M_setRelease 0 x y) := by
  obtain ⟨x, rfl, h1, h2⟩ := zi_ex x
  obtain ⟨y, rfl, h3, h4⟩ := zi_ex y
  obtain ⟨hc, _, hc6, _, g3, _⟩ := hI.2.1
  have hw := hI.1.1
  have hn := CP_n hI.1.2
  have hr3 := CP_r hI.1.2
  have hBb := RB_bmp (RB_bk M)
  have ch : ∀ {N : xM}, RB N (bk M 0) → m_M_change 0 (zi x) 8 (zi y) 0 99 N = _ := fun hB => r_change (k := 8) (lo := 0) (hi := 99) hB hw.1 h1 h2 h3 h4 (by decide) (by decide) (by decide) (by decide)
  have cls : ∀ kL kH, xhI (m_C_setRelease 0 (zi x) (zi y) M) kL kH = if 0 ≤ x ∧ x < nT (bk M 0) then (if 0 ≤ y ∧ y ≤ 99 then xhI (xbV (m_H_remember 0 9 M) (fun M2 => (xck (zi x) 12 (xbI (m_P_changeRelease 9 (zi x) (zi y) M2) (fun r4 M3 => rI (gi M2 7 9 (ix (zi x))) M3))))) kL kH else kH 1 (xbump M 1 6)) else kH 2 (xbump M 1 6) := fun kL kH => by
    rw [e_m_C_setRelease, s_reqT hI.1.2 h1 h2]
    by_cases c : 0 ≤ x ∧ x < nT (bk M 0)
    · rw [if_pos c, if_pos c, xbV_r, zi_00, zi_99, zif h3 h4 (by decide) (by decide), zif (by decide) (by decide) h3 h4]
      by_cases q : y < 0
      · rw [if_pos q, if_neg (by omega), xhI_e]
      · rw [if_neg q]
        by_cases q2 : 99 < y
        · rw [if_pos q2, if_neg (by omega), xhI_e]
        · rw [if_neg q2, if_pos (by omega)]
    · rw [if_neg c, if_neg c, xbV_e, xhI_e]
  by_cases c : 0 ≤ x ∧ x < nT (bk M 0)
  · by_cases d : 0 ≤ y ∧ y ≤ 99
    · obtain ⟨t, rfl⟩ : ∃ t : Nat, x = (t : Int) := ⟨x.toNat, by omega⟩
      have ht : t < nT (bk M 0) := by omega
      obtain ⟨A, ea, hA⟩ := Inv_CH hI
      have cA := CH_CP hA hI.1.2
      have f2 : fr (onP 9) A (xst A 7 9 t (.int (zi y))) := fr_st rfl
      have hB := mid_RB (v := .long (Int32.toInt64 (zi (bE (bk M 0) t)))) hA f2
      obtain ⟨N1, e1, hN⟩ := r_rem hc6 (mid_27 (v := .long (Int32.toInt64 (zi (bE (bk M 0) t)))) (w := .int 0) hA f2 g3)
      have hB1 := RB_H (RB_9 (v := .int 0) hB) (RH_H hN)
      refine QR_chg (y := zi (bE (bk M 0) t)) (N2 := xst N1 28 0 (36 + 12 * t) (.int (zi y))) (b' := upI (bk M 0) (36 + 12 * t) y) hI hA f2 (CP_upE cA hw ht y) (wF_rel hw hr3 ht d) ?_ ?_ hN (BK_s (by omega)) (RB_st hB1) trivial
      · rw [e_m_L_setRelease, cls, if_pos c, if_pos d, ea, xbV_r, xck_n (by omega) (by decide), zix (by omega), CP_E cA ht, s_chE cA h1 h2 h3 h4, if_pos ⟨c, d⟩, xbI_r, Int.toNat_natCast, xhI_r, xck_01]
        rfl
      · have st : ∀ (A : xM) (v : Int32), m_M_set 0 (zi t) (zi 8) v A = rV (xst A 28 0 (36 + 12 * t) (.int v)) := fun A v => by
          rw [show zi 8 = zi ((8 : Nat) : Int) from rfl, r_set (by omega) (by decide), show 28 + 12 * t + 8 = 36 + 12 * t by omega]
        have rd : ∀ {A : xM}, RB A (bk M 0) → m_M_of 0 (zi t) (zi 8) A = rI (zi (bE (bk M 0) t)) A := fun hB => r_E hB (by omega)
        rw [e_m_M_setRelease, ch hB, if_pos c, if_pos d, e1, xbV_r, rd hB1, xbI_r, st, xbV_r, xbI_r]
    · refine QR_f (c := 2) (v := 0) hI (by decide) ?_ ?_ (fz_refl _)
      · rw [e_m_L_setRelease, cls, if_pos c, if_neg d, if_neg (by decide), if_pos rfl]
      · rw [e_m_M_setRelease, ch hBb, if_pos c, if_neg d, xbI_r]
  · refine QR_f (c := 1) (v := 0) hI (by decide) ?_ ?_ (fz_refl _)
    · rw [e_m_L_setRelease, cls, if_neg c, if_pos rfl]
    · rw [e_m_M_setRelease, ch hBb, if_neg c, xbI_r]
theorem q_setRule {M : xM} (hI : Inv M) (x : Int32) : QR PT M (m_L_setRule 0 x 0 M) (m_M_setRule 0 x) := by
  obtain ⟨x, rfl, h1, h2⟩ := zi_ex x
  obtain ⟨hc, _, hc6, _, g3, _⟩ := hI.2.1
  have hw := hI.1.1
  have hr3 := CP_r hI.1.2
  have rq : m_C_requireRule (zi x) M = if 0 ≤ x ∧ x ≤ 3 then rV M else rE 1 (xbump M 1 6) := by
    rw [e_m_C_requireRule, zi_00, zi_03, zif h1 h2 (by decide) (by decide), zif (by decide) (by decide) h1 h2]
    by_cases c1 : x < 0
    · rw [if_pos c1, if_neg (by omega)]
    · rw [if_neg c1]
      by_cases c2 : 3 < x
      · rw [if_pos c2, if_neg (by omega)]
      · rw [if_neg c2, if_pos (by omega)]
  have rin : ∀ {N : xM}, m_M_in (zi x) 0 3 N = rI (bz (decide (0 ≤ x ∧ x ≤ 3))) N := fun {N} => r_inr (a := 0) (c := 3) h1 h2 (by decide) (by decide) (by decide) (by decide)
  by_cases c : 0 ≤ x ∧ x ≤ 3
  · obtain ⟨A, ea, hA⟩ := Inv_CH hI
    have cA := CH_CP hA hI.1.2
    have f2 : fr (onP 9) A (xst A 2 9 0 (.int (zi x))) := fr_st rfl
    have hB := mid_RB (v := .long (Int32.toInt64 (zi (bk M 0 0)))) hA f2
    obtain ⟨N1, e1, hN⟩ := r_rem hc6 (mid_27 (v := .long (Int32.toInt64 (zi (bk M 0 0)))) (w := .int 0) hA f2 g3)
    have hB1 := RB_H (RB_9 (v := .int 0) hB) (RH_H hN)
    refine QR_chg (y := zi (bk M 0 0)) (N2 := xst N1 28 0 0 (.int (zi x))) (b' := upI (bk M 0) 0 x) hI hA f2 (CP_up0 cA hw x) (wF_rule hw hr3 c) ?_ ?_ hN (BK_s (by omega)) (RB_st hB1) trivial
    · rw [e_m_L_setRule, e_m_C_setRule, rq, if_pos c, xbV_r, ea, xbV_r, s_chR h1 h2, if_pos c, xbI_r, CP_0 cA, xhI_r, xck_01]
      rfl
    · rw [e_m_M_setRule, rin, xbI_r, decide_eq_true c, ite_bt, r_F0, e1, xbV_r, xck_0, xck_0, RB_0 hB1, ix_0]
  · refine QR_f (c := 1) (v := 0) hI (by decide) ?_ ?_ (fz_refl _)
    · rw [e_m_L_setRule, e_m_C_setRule, rq, if_neg c, xbV_e, xhI_e, if_pos rfl]
    · rw [e_m_M_setRule, rin, xbI_r, decide_eq_false c, ite_bf, r_F1]
