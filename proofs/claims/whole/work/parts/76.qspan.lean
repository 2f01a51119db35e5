/-! calls that ask: how long, if? -/
theorem sL_up {b : Nat → Int} {k : Nat} {v : Int} (hk : k < 172) (hk2 : k ≠ 1 ∧ k ≠ 2) (hl : wL b) : wL (upI b k v) := fun f t hf ht => by
  rw [upI_n (by omega), up_T (by omega)]
  exact hl f t hf ht
/-- one more of a resource -/
theorem sS_more {b : Nat → Int} (hw : wF b) {r : Nat} (hr : r < nR b) : wS (upI b (11 + 8 * r) (bC b r + 1)) := by
  have hn := wS_n hw.1
  obtain ⟨⟨a1, a2, a3, a4, a5, a6, a7, a8⟩, w2, w3, w4, w5⟩ := hw
  have nr : nR b ≤ 3 := by unfold nR; omega
  have eT : nT (upI b (11 + 8 * r) (bC b r + 1)) = nT b := up_T (by omega)
  have eR : nR (upI b (11 + 8 * r) (bC b r + 1)) = nR b := up_R (by omega)
  have cc : ∀ q, q < nR b → bC (upI b (11 + 8 * r) (bC b r + 1)) q = if q = r then bC b r + 1 else bC b q := fun q hq => by
    by_cases e : q = r
    · subst e; rw [if_pos rfl]; exact upI_h _ _ _
    · rw [if_neg e, up_C (by omega)]
  refine ⟨by rw [upI_n (by omega)]; exact a1, by rw [upI_n (by omega)]; exact a2, by rw [upI_n (by omega)]; exact a3, fun s hs => ?_, fun s hs => ?_, fun s q hs hq => ?_, fun q hq => ?_, ?_⟩
  · rw [eT] at hs; rw [up_D (by omega)]; exact a4 s hs
  · rw [eT] at hs; rw [up_E (by omega)]; exact a5 s hs
  · rw [eT] at hs; rw [eR] at hq
    have := a6 s q hs hq
    rw [up_U (by omega), cc q hq]
    split
    · rename_i e; subst e; omega
    · exact this
  · rw [eR] at hq
    have := a7 q hq
    have := w5 q hq
    rw [cc q hq]
    split
    · rename_i e; subst e; omega
    · omega
  · rw [eT]
    exact acy_congr a8 (fun f t hf ht q => by rw [up_L (by omega)] at q; exact q)
theorem wF_rule {b : Nat → Int} (hw : wF b) (hr : nR b ≤ 3) {v : Int} (hv : 0 ≤ v ∧ v ≤ 3) : wF (upI b 0 v) := wF_up hw ⟨by omega, by omega⟩ (by omega) (fun q => hv) (fun s hs => by omega) (fun r hr => by omega) (fun s hs q => by omega) (fun s hs q => by omega) (fun s r2 hs hr2 q2 => by omega) (fun r2 hr2 q3 => by omega)
theorem wF_dur {b : Nat → Int} (hw : wF b) (hr : nR b ≤ 3) {t : Nat} (ht : t < nT b) {v : Int} (hv : 1 ≤ v ∧ v ≤ 30) : wF (upI b (35 + 12 * t) v) := by
  have hn := wS_n hw.1
  exact wF_up hw ⟨by omega, by omega⟩ (by omega) (fun q => by omega) (fun s hs => by omega) (fun r hr => by omega) (fun s hs q => hv) (fun s hs q => by omega) (fun s r hs hr q => by omega) (fun r hr q => by omega)
theorem s_lenRule {M : xM} {b : Nat → Int} (h : CP M 9 b) (hw : wF b) {k : Int} (hk : 0 ≤ k ∧ k ≤ 3) : ∃ M1, m_C_lengthWithRule 0 (zi k) M = rI (zi (mkB (upI b 0 k))) M1 ∧ fr onYc M M1 ∧ CP M1 9 b := by
  have hr := CP_r h
  obtain ⟨M1, e1, f1, c1⟩ := s_copy M (p := 9) (q := 0) (by decide)
  have c2 := CP_up0 (c1 b h) hw k
  have hw2 := wF_rule hw hr hk
  obtain ⟨M2, e2, f2, d2⟩ := s_build c2 hw2.1 hw2.2.1
  have f : fr onYc M M2 := fr_trans (Yc_P (fr_trans f1 (fr_st rfl))) (Yc_S f2)
  exact ⟨M2, by rw [e_m_C_lengthWithRule, e1, xbV_r, e2, xbV_r, d2.2.2.2], f, CP_Yc h f⟩
theorem s_lenMore {M : xM} {b : Nat → Int} (h : CP M 9 b) (hw : wF b) {r : Nat} (hr : r < nR b) : ∃ M1, m_C_lengthWithMore 0 (zi r) M = rI (zi (mkB (upI b (11 + 8 * r) (bC b r + 1)))) M1 ∧ fr onYc M M1 ∧ CP M1 9 b := by
  have hr3 := CP_r h
  obtain ⟨M1, e1, f1, c1⟩ := s_copy M (p := 9) (q := 0) (by decide)
  have c0 := c1 b h
  have c2 := CP_upC c0 hw hr (bC b r + 1)
  obtain ⟨M2, e2, f2, d2⟩ := s_build c2 (sS_more hw hr) (sL_up (by omega) ⟨by omega, by omega⟩ hw.2.1)
  have f : fr onYc M M2 := fr_trans (Yc_P (fr_trans f1 (fr_st rfl))) (Yc_S f2)
  refine ⟨M2, ?_, f, CP_Yc h f⟩
  rw [e_m_C_lengthWithMore, e1, xbV_r, xck_n (by omega) (by decide), xck_n (by omega) (by decide), zix (by omega), CP_C c0 hr, zi_01, zi_add, e2, xbV_r, d2.2.2.2]
/-- the reference puts a thing for a while -/
def onBK (k o s : Nat) : Bool := onB k o s || on280 k o s
theorem BK_B {M M' : xM} (f : fz onB M M') : fz onBK M M' := fz_mono (fun k o s h => by unfold onBK; rw [h]; rfl) f
theorem BK_8 {M M' : xM} (f : fz on280 M M') : fz onBK M M' := fz_mono (fun k o s h => by unfold onBK; rw [h, Bool.or_true]) f
theorem IB_BK {M M' : xM} (f : fz onBK M M') : fz onIB M M' := fun k o s q => f k o s (by
  cases e : onBK k o s with
  | false => rfl
  | true =>
    exfalso
    unfold onBK at e
    rcases Bool.or_eq_true_iff.mp e with e | e
    · obtain ⟨rfl, ⟨rfl, rfl⟩ | h⟩ := onB_i e
      · exact absurd q (by decide)
      · have : k = 32 ∨ k = 33 ∨ k = 34 ∨ k = 35 ∨ k = 36 ∨ k = 37 := by omega
        rcases this with rfl | rfl | rfl | rfl | rfl | rfl <;> exact nomatch (show true = false from q)
    · unfold on280 at e
      unfold onIB at q
      rw [Bool.and_comm (Nat.beq k 28), e, Bool.or_true] at q
      exact nomatch (show true = false from q))
theorem onJ_BK {M M' : xM} (f : fz onBK M M') : fz onJ M M' := fz_mono (fun k o s e => by
  unfold onBK at e
  rcases Bool.or_eq_true_iff.mp e with e | e
  · obtain ⟨_, h⟩ := onB_i e
    exact onJ_t (by omega) (by omega)
  · unfold on280 at e
    rw [Bool.and_eq_true, Bool.and_eq_true] at e
    rw [Nat.eq_of_beq_eq_true e.1.2]; rfl) f
def RK (N N' : xM) : Prop := fz onBK N N' ∧ ∀ s, s < 316 → gi N' 28 0 s = gi N 28 0 s
theorem RK_refl (N : xM) : RK N N := ⟨fz_refl N, fun _ _ => rfl⟩
theorem RK_trans {N N1 N2 : xM} (h : RK N N1) (h2 : RK N1 N2) : RK N N2 := ⟨fz_trans h.1 h2.1, fun s hs => (h2.2 s hs).trans (h.2 s hs)⟩
theorem RK_RB {N N' : xM} {b : Nat → Int} (h : RK N N') (hB : RB N b) : RB N' b := fun k hk => (h.2 k hk).trans (hB k hk)
theorem RK_B {N N' : xM} (f : fz onB N N') : RK N N' := ⟨BK_B f, fun s _ => fz_gi f rfl⟩
theorem Inv_RK {N N' : xM} (hI : Inv N) (h : RK N N') : Inv N' := by
  refine Inv_B hI (IB_BK h.1) ?_
  have e : bk N' 0 = bk N 0 := bk_eq (fun k hk => by
    rw [show 316 * 0 + k = k by omega]
    exact h.2 k hk)
  unfold PLN
  rw [e]
  exact ⟨hI.1.1, CP_fz hI.1.2 h.1 (fun k s a c => by
    unfold onBK on280
    have k28 : Nat.beq k 28 = false := by
      cases e : Nat.beq k 28 with
      | false => rfl
      | true => have := Nat.eq_of_beq_eq_true e; omega
    rw [k28, Bool.and_false, Bool.false_and, Bool.or_false]
    cases e : onB k 9 s with
    | false => rfl
    | true => have := (onB_i e).1; omega)⟩
theorem r_spanBy {N : xM} {b : Nat → Int} (hB : RB N b) (hw : wF b) {k : Int} (hk : 0 ≤ k ∧ k ≤ 3) : ∃ N', m_M_spanBy 0 (zi k) N = rI (zi (mkB (upI b 0 k))) N' ∧ RK N N' := by
  have hr : nR b ≤ 3 := by unfold nR; have := hw.1.2.1; omega
  have hw2 := wF_rule hw hr hk
  have h1 : RB (xst N 28 0 0 (.int (zi k))) (upI b 0 k) := RB_st hB
  obtain ⟨N2, e2, f2, d2⟩ := r_build h1 hw2.1 hw2.2.1
  refine ⟨xst N2 28 0 0 (.int (gi N 28 0 0)), ?_, fz_trans (BK_8 (fz_st rfl)) (fz_trans (BK_B f2) (BK_8 (fz_st rfl))), fun s hs => ?_⟩
  · rw [e_m_M_spanBy, xck_0, xck_0, ix_0, e2, xbI_r, xck_0]
  · by_cases e : s = 0
    · subst e; rw [gi_h]
    · rw [gi_s e, fz_gi f2 rfl, gi_s e]
theorem r_spanMore {N : xM} {b : Nat → Int} (hB : RB N b) (hw : wF b) {r : Nat} (hr : r < nR b) : ∃ N', m_M_spanWithMore 0 (zi r) N = rI (zi (mkB (upI b (11 + 8 * r) (bC b r + 1)))) N' ∧ RK N N' := by
  have hr3 : nR b ≤ 3 := by unfold nR; have := hw.1.2.1; omega
  have hc := hw.1.2.2.2.2.2.2.1 r hr
  have set : ∀ (A : xM) (v : Int32), m_M_setCapacityOf 0 (zi r) v A = rV (xst A 28 0 (11 + 8 * r) (.int v)) := fun A v => by
    rw [e_m_M_setCapacityOf, zi_04, zi_08, zi_07, zi_mul, zi_add, zi_add, xck_z (by omega) (by omega) (by decide), zixz (by omega) (by omega), show ((4 : Int) + (r : Int) * 8 + 7).toNat = 11 + 8 * r by omega]
  have h1 : RB (xst N 28 0 (11 + 8 * r) (.int (zi (bC b r + 1)))) (upI b (11 + 8 * r) (bC b r + 1)) := RB_st hB
  obtain ⟨N2, e2, f2, d2⟩ := r_build h1 (sS_more hw hr) (sL_up (by omega) ⟨by omega, by omega⟩ hw.2.1)
  have c2 : bC (upI b (11 + 8 * r) (bC b r + 1)) r = bC b r + 1 := upI_h _ _ _
  refine ⟨xst N2 28 0 (11 + 8 * r) (.int (zi (bC b r))), ?_, fz_trans (BK_8 (fz_st (on280_t (by omega)))) (fz_trans (BK_B f2) (BK_8 (fz_st (on280_t (by omega))))), fun s hs => ?_⟩
  · rw [e_m_M_spanWithMore, r_cap hB (by omega), xbI_r, zi_01, zi_add, set, xbV_r, e2, xbI_r, r_cap (RB_B h1 f2) (by omega), xbI_r, c2, zi_sub, show bC b r + 1 - 1 = bC b r by omega, set, xbV_r]
  · by_cases e : s = 11 + 8 * r
    · subst e; rw [gi_h]; exact (hB _ (by omega)).symm
    · rw [gi_s e, fz_gi f2 rfl, gi_s e]
theorem QR_k {P : Int32 → Prop} {M M1 M2 : xM} {y : Int32} {r : xR} {r' : xM → xR} (hI : Inv M) (f : fr onYc M M1) (e : r = rI 0 (xst M1 39 0 0 (.long (Int32.toInt64 y)))) (e' : r' (xst M1 39 0 0 (.long (Int32.toInt64 y))) = rI y M2) (f' : RK (xst (xst M1 39 0 0 (.long (Int32.toInt64 y))) 27 0 9 (.int 0)) M2) (hP : P y) : QR P M r r' := by
  have j1 : fz onJ M (xst M1 39 0 0 (.long (Int32.toInt64 y))) := fz_step (onJ_Yc f) rfl
  have j2 : fz onJ (xst M1 39 0 0 (.long (Int32.toInt64 y))) M2 := fz_trans (fz_st rfl) (onJ_BK f'.1)
  have i0 : Inv (xst (xst M1 39 0 0 (.long (Int32.toInt64 y))) 27 0 9 (.int 0)) := Inv_I hI (fz_step (fz_step (onI_Yc f) rfl) rfl)
  refine ⟨0, _, M2, y, e, e', (fz_gi f'.1 rfl).trans (gi_h _ _ _ _ _), fun _ => ⟨?_, hP⟩, SF_J j1, SF_J j2, Inv_RK i0 f', RM_le (RM_J (fz_trans j1 j2)) (by decide) (by decide)⟩
  rw [fz_gl f'.1 rfl, gl_k (by decide), gl_h]
theorem q_makespanWith {M : xM} (hI : Inv M) (x : Int32) : QR PT M (m_L_makespanWith 0 x 0 M) (m_M_makespanWith 0 x) := by
  obtain ⟨x, rfl, h1, h2⟩ := zi_ex x
  have rq : m_C_requireRule (zi x) M = if 0 ≤ x ∧ x ≤ 3 then rV M else rE 1 (xbump M 1 6) := by
    rw [e_m_C_requireRule, zi_00, zi_03, zif h1 h2 (by decide) (by decide), zif (by decide) (by decide) h1 h2]
    by_cases c1 : x < 0
    · rw [if_pos c1, if_neg (by omega)]
    · rw [if_neg c1]
      by_cases c2 : 3 < x
      · rw [if_pos c2, if_neg (by omega)]
      · rw [if_neg c2, if_pos (by omega)]
  by_cases c : 0 ≤ x ∧ x ≤ 3
  · obtain ⟨M1, e1, f1, c1⟩ := s_lenRule hI.1.2 hI.1.1 c
    have hB : RB (xst (xst M1 39 0 0 (.long (Int32.toInt64 (zi (mkB (upI (bk M 0) 0 x)))))) 27 0 9 (.int 0)) (bk M 0) := RB_9 (fun k hk => (gi_k (by decide)).trans (RB_Yc (RB_bk M) f1 k hk))
    obtain ⟨M2, e2, f2⟩ := r_spanBy hB hI.1.1 c
    refine QR_k (y := zi (mkB (upI (bk M 0) 0 x))) (M2 := M2) hI f1 ?_ ?_ f2 trivial
    · rw [e_m_L_makespanWith, e_m_C_makespanWith, rq, if_pos c, xbV_r, e1, xbI_r, xhI_r, xck_01]
      rfl
    · rw [e_m_M_makespanWith, zi_00, zi_03, r_inr h1 h2 (by decide) (by decide) (by decide) (by decide), ← zi_00, xbI_r, decide_eq_true c, ite_bt, r_F0, e2, xbI_r]
  · refine QR_f (c := 1) (v := 0) hI (by decide) ?_ ?_ (fz_refl _)
    · rw [e_m_L_makespanWith, e_m_C_makespanWith, rq, if_neg c, xbV_e, xhI_e, if_pos rfl]
    · rw [e_m_M_makespanWith, zi_00, zi_03, r_inr h1 h2 (by decide) (by decide) (by decide) (by decide), ← zi_00, xbI_r, decide_eq_false c, ite_bf, r_F1]
theorem q_makespanWithMore {M : xM} (hI : Inv M) (x : Int32) : QR PT M (m_L_makespanWithMore 0 x 0 M) (m_M_makespanWithMore 0 x) := by
  obtain ⟨x, rfl, h1, h2⟩ := zi_ex x
  have hw := hI.1.1
  by_cases c : 0 ≤ x ∧ x < nR (bk M 0)
  · obtain ⟨r, rfl⟩ : ∃ t : Nat, x = (t : Int) := ⟨x.toNat, by omega⟩
    have hr : r < nR (bk M 0) := by omega
    obtain ⟨M1, e1, f1, c1⟩ := s_lenMore hI.1.2 hI.1.1 hr
    have hB0 : RB (xst M1 39 0 0 (.long (Int32.toInt64 (zi (mkB (upI (bk M 0) (11 + 8 * r) (bC (bk M 0) r + 1))))))) (bk M 0) := fun k hk => (gi_k (by decide)).trans (RB_Yc (RB_bk M) f1 k hk)
    obtain ⟨M2, e2, f2⟩ := r_spanMore (RB_9 (v := .int 0) hB0) hI.1.1 hr
    refine QR_k (y := zi (mkB (upI (bk M 0) (11 + 8 * r) (bC (bk M 0) r + 1)))) (M2 := M2) hI f1 ?_ ?_ f2 trivial
    · rw [e_m_L_makespanWithMore, e_m_C_makespanWithMore, s_reqR hI.1.2 h1 h2, if_pos c, xbV_r, e1, xbI_r, xhI_r, xck_01]
      rfl
    · rw [e_m_M_makespanWithMore, r_isRes hB0 hw.1 h1 h2, xbI_r, decide_eq_true c, ite_bt, r_F0, e2, xbI_r]
  · have hB : RB (xbump M 1 6) (bk M 0) := fun k hk => (bump_gi (by decide)).trans (RB_bk M k hk)
    refine QR_f (c := 1) (v := 0) hI (by decide) ?_ ?_ (fz_refl _)
    · rw [e_m_L_makespanWithMore, e_m_C_makespanWithMore, s_reqR hI.1.2 h1 h2, if_neg c, xbV_e, xhI_e, if_pos rfl]
    · rw [e_m_M_makespanWithMore, r_isRes hB hw.1 h1 h2, xbI_r, decide_eq_false c, ite_bf, r_F1]
