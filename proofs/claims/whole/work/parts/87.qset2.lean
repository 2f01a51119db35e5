/-! calls that change the plan: demands, links, capacities, tasks -/
theorem QR_f2 {P : Int32 → Prop} {M M2 : xM} {c v : Int32} {r : xR} {r' : xM → xR} (hI : Inv M) (hc : c ≠ 0) (e : r = rI c (xbump M 1 6)) (e' : r' (xbump M 1 6) = rI v M2) (g : fz onI (xbump M 1 6) M2) (j : fz onJ (xbump M 1 6) M2) (h9 : gi M2 27 0 9 = c) : QR P M r r' :=
  ⟨c, _, M2, v, e, e', h9, fun q => absurd q hc, SF_bump M 1 6, SF_J j, Inv_I hI (fz_trans (fz_bump M 1 6) g), RM_le (RM_trans (RM_bump M 1 6) (RM_J j)) (by decide) (by decide)⟩
theorem wF_dem {b : Nat → Int} (hw : wF b) (hr : nR b ≤ 3) {t r : Nat} (ht : t < nT b) (hr0 : r < nR b) {v : Int} (hv : 0 ≤ v ∧ v ≤ bC b r) : wF (upI b (37 + 12 * t + r) v) := by
  have hn := wS_n hw.1
  refine wF_up hw ⟨by omega, by omega⟩ (by omega) (fun q => by omega) (fun s hs => by omega) (fun r hr => by omega) (fun s hs q => by omega) (fun s hs q => by omega) (fun s r2 hs hr2 q2 => ?_) (fun r hr q => by omega)
  have : r2 = r := by omega
  subst this
  exact hv
theorem q_setDemand {M : xM} (hI : Inv M) (x z y : Int32) : QR PT M (m_L_setDemand 0 x z y 0 M) (m_M_setDemand 0 x z y) := by
  obtain ⟨x, rfl, h1, h2⟩ := zi_ex x
  obtain ⟨z, rfl, h5, h6⟩ := zi_ex z
  obtain ⟨y, rfl, h3, h4⟩ := zi_ex y
  obtain ⟨hc, _, hc6, _, g3, _⟩ := hI.2.1
  have hw := hI.1.1
  have hn := CP_n hI.1.2
  have hr3 := CP_r hI.1.2
  have hBb := RB_bmp (RB_bk M)
  by_cases c : 0 ≤ x ∧ x < nT (bk M 0)
  · by_cases c2 : 0 ≤ z ∧ z < nR (bk M 0)
    · obtain ⟨t, rfl⟩ : ∃ t : Nat, x = (t : Int) := ⟨x.toNat, by omega⟩
      obtain ⟨r, rfl⟩ : ∃ t : Nat, z = (t : Int) := ⟨z.toNat, by omega⟩
      have ht : t < nT (bk M 0) := by omega
      have hr : r < nR (bk M 0) := by omega
      have hcap := hw.1.2.2.2.2.2.2.1 r hr
      have hU := hw.1.2.2.2.2.2.1 t r ht hr
      have rin : ∀ {N : xM}, m_M_in (zi y) 0 (zi (bC (bk M 0) r)) N = rI (bz (decide (0 ≤ y ∧ y ≤ bC (bk M 0) r))) N := fun {N} => r_inr (a := 0) h3 h4 (by decide) (by decide) (by omega) (by omega)
      have cls : ∀ kL kH, xhI (m_C_setDemand 0 (zi t) (zi r) (zi y) M) kL kH = if 0 ≤ y ∧ y ≤ bC (bk M 0) r then xhI (xbV (m_H_remember 0 9 M) (fun M3 => (xbI (m_P_demandOf 9 (zi t) (zi r) M3) (fun r5 M4 => (xbI (m_P_changeDemand 9 (zi t) (zi r) (zi y) M4) (fun r7 M6 => rI r5 M6)))))) kL kH else kH 1 (xbump M 1 6) := fun kL kH => by
        rw [e_m_C_setDemand, s_reqT hI.1.2 h1 h2, if_pos c, xbV_r, s_reqR hI.1.2 h5 h6, if_pos c2, xbV_r, zi_00, zif h3 h4 (by decide) (by decide), xck_n (by omega) (by decide), zix (by omega), CP_C hI.1.2 hr, zif (by omega) (by omega) h3 h4]
        by_cases q : y < 0
        · rw [if_pos q, if_neg (by omega), xhI_e]
        · rw [if_neg q]
          by_cases q2 : bC (bk M 0) r < y
          · rw [if_pos q2, if_neg (by omega), xhI_e]
          · rw [if_neg q2, if_pos (by omega)]
      by_cases d : 0 ≤ y ∧ y ≤ bC (bk M 0) r
      · obtain ⟨A, ea, hA⟩ := Inv_CH hI
        have cA := CH_CP hA hI.1.2
        have f2 : fr (onP 9) A (xst A 9 9 (3 * t + r) (.int (zi y))) := fr_st rfl
        have hB := mid_RB (v := .long (Int32.toInt64 (zi (bU (bk M 0) t r)))) hA f2
        have m27 := mid_27 (v := .long (Int32.toInt64 (zi (bU (bk M 0) t r)))) (w := .int 0) hA f2 g3
        -- the reference says twice that nothing is thrown
        have tw : xst (xst (xst (xst A 9 9 (3 * t + r) (.int (zi y))) 39 0 0 (.long (Int32.toInt64 (zi (bU (bk M 0) t r))))) 27 0 9 (.int 0)) 27 0 9 (.int 0) = xst (xst (xst A 9 9 (3 * t + r) (.int (zi y))) 39 0 0 (.long (Int32.toInt64 (zi (bU (bk M 0) t r))))) 27 0 9 (.int 0) := by
          funext k' o' s'
          unfold xst
          by_cases q : k' = 27 ∧ o' = 0 ∧ s' = 9
          · rw [if_pos q, if_pos q]
          · rw [if_neg q]
        obtain ⟨N1, e1, hN⟩ := r_rem hc6 m27
        have hB1 := RB_H (RB_9 (v := .int 0) hB) (RH_H hN)
        refine QR_chg (y := zi (bU (bk M 0) t r)) (N2 := xst N1 28 0 (37 + 12 * t + r) (.int (zi y))) (b' := upI (bk M 0) (37 + 12 * t + r) y) hI hA f2 (CP_upU cA hw ht hr y) (wF_dem hw hr3 ht hr d) ?_ ?_ hN (BK_s (by omega)) (RB_st hB1) trivial
        · rw [e_m_L_setDemand, cls, if_pos d, ea, xbV_r, s_demandOf cA ht hr, xbI_r, s_chU cA (fun q hq => by have := hw.1.2.2.2.2.2.2.1 q hq; omega) h1 h2 h3 h4 h5 h6, Int.toNat_natCast, Int.toNat_natCast, if_pos ⟨⟨c, c2⟩, d⟩, xbI_r, xhI_r, xck_01]
          rfl
        · have st : ∀ (A : xM) (v : Int32), m_M_set 0 (zi t) (zi (9 + (r : Int))) v A = rV (xst A 28 0 (37 + 12 * t + r) (.int v)) := fun A v => by
            rw [show (9 : Int) + (r : Int) = ((9 + r : Nat) : Int) by omega, r_set (by omega) (by omega), show 28 + 12 * t + (9 + r) = 37 + 12 * t + r by omega]
          have rd : ∀ {A : xM}, RB A (bk M 0) → m_M_of 0 (zi t) (zi (9 + (r : Int))) A = rI (zi (bU (bk M 0) t r)) A := fun {A} hB => by
            have := r_U hB (t := t) (r := r) (by omega) (by omega)
            rw [zi_09, zi_add] at this
            exact this
          have ch : ∀ {N : xM}, RB N (bk M 0) → m_M_change 0 (zi t) (zi (9 + (r : Int))) (zi y) 0 9 N = _ := fun hB => r_change (lo := 0) (hi := 9) hB hw.1 h1 h2 h3 h4 (by decide) (by decide) (by decide) (by decide)
          have w9 := hw.2.2.2.2 r hr
          rw [e_m_M_setDemand, r_isTask hB hw.1 h1 h2, xbI_r, decide_eq_true c, ite_bt, r_isRes hB hw.1 h5 h6, xbI_r, decide_eq_true c2, ite_bt, ite_z1, ite_z1, r_cap hB (by omega), xbI_r, rin, xbI_r, decide_eq_true d, ite_bt, r_F0, zi_09, zi_add, ← zi_09, ch (RB_9 hB), if_pos c, if_pos (show 0 ≤ y ∧ y ≤ 9 by omega), tw, e1, xbV_r, rd hB1, xbI_r, st, xbV_r, xbI_r]
      · refine QR_f (c := 2) (v := 0) hI (by decide) ?_ ?_ (fz_refl _)
        · rw [e_m_L_setDemand, cls, if_neg d, if_neg (by decide), if_pos rfl]
        · rw [e_m_M_setDemand, r_isTask hBb hw.1 h1 h2, xbI_r, decide_eq_true c, ite_bt, r_isRes hBb hw.1 h5 h6, xbI_r, decide_eq_true c2, ite_bt, ite_z1, ite_z1, r_cap hBb (by omega), xbI_r, rin, xbI_r, decide_eq_false d, ite_bf, r_F2]
    · refine QR_f (c := 1) (v := 0) hI (by decide) ?_ ?_ (fz_refl _)
      · rw [e_m_L_setDemand, e_m_C_setDemand, s_reqT hI.1.2 h1 h2, if_pos c, xbV_r, s_reqR hI.1.2 h5 h6, if_neg c2, xbV_e, xhI_e, if_pos rfl]
      · rw [e_m_M_setDemand, r_isTask hBb hw.1 h1 h2, xbI_r, decide_eq_true c, ite_bt, r_isRes hBb hw.1 h5 h6, xbI_r, decide_eq_false c2, ite_bf, ite_z0, ite_z0, r_F1]
  · refine QR_f (c := 1) (v := 0) hI (by decide) ?_ ?_ (fz_refl _)
    · rw [e_m_L_setDemand, e_m_C_setDemand, s_reqT hI.1.2 h1 h2, if_neg c, xbV_e, xhI_e, if_pos rfl]
    · rw [e_m_M_setDemand, r_isTask hBb hw.1 h1 h2, xbI_r, decide_eq_false c, ite_bf, ite_z0, ite_z0, r_F1]
/-- a link that comes -/
theorem q_addLink {M : xM} (hI : Inv M) (x y : Int32) : QR PT M (m_L_addLink 0 x y 0 M) (m_M_addLink 0 x y) := by
  obtain ⟨x, rfl, h1, h2⟩ := zi_ex x
  obtain ⟨y, rfl, h3, h4⟩ := zi_ex y
  obtain ⟨hc, _, hc6, _, g3, _⟩ := hI.2.1
  have hw := hI.1.1
  have hn := CP_n hI.1.2
  have hBb := RB_bmp (RB_bk M)
  by_cases c : (0 ≤ x ∧ x < nT (bk M 0)) ∧ (0 ≤ y ∧ y < nT (bk M 0))
  · obtain ⟨f, rfl⟩ : ∃ t : Nat, x = (t : Int) := ⟨x.toNat, by omega⟩
    obtain ⟨t, rfl⟩ : ∃ t : Nat, y = (t : Int) := ⟨y.toNat, by omega⟩
    have hf : f < nT (bk M 0) := by omega
    have ht : t < nT (bk M 0) := by omega
    by_cases d : (!bL (bk M 0) f t && decide (dF (nT (bk M 0)) (bL (bk M 0)) t (nT (bk M 0)) f = -1)) = true
    · obtain ⟨A, ea, hA⟩ := Inv_CH hI
      have cA := CH_CP hA hI.1.2
      have f2 : fr (onP 9) A (xst A 8 9 t (.int (mk (fun g => if g = f then true else bL (bk M 0) g t)))) := fr_st rfl
      have c2 := CP_upL cA hw (show f < 12 by omega) ht true
      have w2 := wF_upL hw hf ht true (fun _ => by rw [Bool.and_eq_true] at d; exact of_decide_eq_true d.2)
      generalize hb' : upI (bk M 0) (172 + 12 * f + t) (if true = true then 1 else 0) = b' at c2 w2
      generalize hy : zi (sm (fun t => (cnt (fun f => bL b' f t) 12 : Nat)) (nT b')) = Y
      have hB := mid_RB (v := .long (Int32.toInt64 Y)) hA f2
      obtain ⟨N0, e0, fN⟩ := r_canLink hB hw.1 hw.2.1 hf ht
      have m27 := mid_27 (v := .long (Int32.toInt64 Y)) (w := .int 0) hA f2 g3
      -- the look for a ring, then the mark that nothing is thrown
      have m27' : gi (xst N0 27 0 9 (.int 0)) 27 0 2 = zi hc := by
        rw [gi_s (by decide), fz_gi fN rfl]
        rw [gi_s (by decide)] at m27
        exact m27
      obtain ⟨N1, e1, hN⟩ := r_rem hc6 m27'
      have hB1 := RB_H (RB_9 (v := .int 0) (RB_32 hB fN)) (RH_H hN)
      have hB2 : RB (xst N1 28 0 (172 + 12 * f + t) (.int (zi 1))) b' := by rw [← hb']; exact RB_st hB1
      have j1 : fz onJ M (xst (xst A 8 9 t (.int (mk (fun g => if g = f then true else bL (bk M 0) g t)))) 39 0 0 (.long (Int32.toInt64 Y))) := fz_step (fz_trans (CH_J hA) (onJ_P9 f2)) rfl
      have fB := B_32 fN
      have j2 : fz onJ (xst (xst A 8 9 t (.int (mk (fun g => if g = f then true else bL (bk M 0) g t)))) 39 0 0 (.long (Int32.toInt64 Y))) (xst N1 28 0 (172 + 12 * f + t) (.int (zi 1))) := fz_step (fz_trans (onJ_B fB) (fz_trans (fz_st rfl) (J_H (RH_H hN)))) rfl
      refine ⟨0, _, xst N1 28 0 (172 + 12 * f + t) (.int (zi 1)), Y, ?_, ?_, ?_, fun _ => ⟨?_, trivial⟩, SF_J j1, SF_J j2, Inv_chg hI hA f2 (fz_step (fz_trans (fz_st rfl) (onI_B fB)) rfl) hN (BK_s (by omega)) c2 hB2 w2, RM_le (RM_J (fz_trans j1 j2)) (by decide) (by decide)⟩
      · rw [e_m_L_addLink, e_m_C_addLink, s_reqT hI.1.2 h1 h2, if_pos c.1, xbV_r, s_reqT hI.1.2 h3 h4, if_pos c.2, xbV_r, s_canLink hI.1.2 hf ht hw.1.2.2.2.2.2.2.2, xbI_r, d, ite_bt, ea, xbV_r, s_link cA hw.1.2.2.2.2.2.2.2 h1 h2 h3 h4, Int.toNat_natCast, Int.toNat_natCast, if_pos ⟨c, d⟩, xbI_r, s_countLinks c2, hy, xbI_r, xhI_r, xck_01]
        rfl
      · have sl := r_setLink (M := N1) (x := f) (y := t) (by omega) (by omega) (zi 1)
        have sl : m_M_setLink 0 (zi f) (zi t) 1 N1 = _ := sl
        rw [e_m_M_addLink, r_areTasks hB hw.1 h1 h2 h3 h4, xbI_r, decide_eq_true c.1, decide_eq_true c.2, Bool.and_self, ite_bt, ite_bt, e0, xbI_r, d, ite_bt, r_F0, e1, xbV_r, sl, xbV_r, r_links hB2, xbI_r, lnk_sum (by rw [← hb', up_T (by omega)]; exact hn) w2.2.1, hy]
      · rw [gi_k (by decide), fz_gi (RH_H hN) rfl, gi_h]
      · rw [gl_k (by decide), fz_gl (RH_H hN) rfl, gl_k (by decide), fz_gl fN rfl, gl_h]
    · have d0 : (!bL (bk M 0) f t && decide (dF (nT (bk M 0)) (bL (bk M 0)) t (nT (bk M 0)) f = -1)) = false := by
        cases e : (!bL (bk M 0) f t && decide (dF (nT (bk M 0)) (bL (bk M 0)) t (nT (bk M 0)) f = -1)) with
        | true => exact absurd e d
        | false => rfl
      obtain ⟨N0, e0, fN⟩ := r_canLink hBb hw.1 hw.2.1 hf ht
      refine QR_f2 (c := 2) (v := 0) (M2 := xst N0 27 0 9 (.int 2)) hI (by decide) ?_ ?_ (fz_step (onI_B (B_32 fN)) rfl) (fz_step (onJ_B (B_32 fN)) rfl) (gi_h _ _ _ _ _)
      · rw [e_m_L_addLink, e_m_C_addLink, s_reqT hI.1.2 h1 h2, if_pos c.1, xbV_r, s_reqT hI.1.2 h3 h4, if_pos c.2, xbV_r, s_canLink hI.1.2 hf ht hw.1.2.2.2.2.2.2.2, xbI_r, d0, ite_bf, xhI_e, if_neg (by decide), if_pos rfl]
      · rw [e_m_M_addLink, r_areTasks hBb hw.1 h1 h2 h3 h4, xbI_r, decide_eq_true c.1, decide_eq_true c.2, Bool.and_self, ite_bt, ite_bt, e0, xbI_r, d0, ite_bf, r_F2]
  · refine QR_f (c := 1) (v := 0) hI (by decide) ?_ ?_ (fz_refl _)
    · rw [e_m_L_addLink, e_m_C_addLink, s_reqT hI.1.2 h1 h2]
      by_cases c1 : 0 ≤ x ∧ x < nT (bk M 0)
      · rw [if_pos c1, xbV_r, s_reqT hI.1.2 h3 h4, if_neg (fun q => c ⟨c1, q⟩), xbV_e, xhI_e, if_pos rfl]
      · rw [if_neg c1, xbV_e, xhI_e, if_pos rfl]
    · have a0 : (decide (0 ≤ x ∧ x < nT (bk M 0)) && decide (0 ≤ y ∧ y < nT (bk M 0))) = false := by
        rw [← Bool.not_eq_true, Bool.and_eq_true, decide_eq_true_iff, decide_eq_true_iff]; exact c
      rw [e_m_M_addLink, r_areTasks hBb hw.1 h1 h2 h3 h4, xbI_r, a0, ite_bf, ite_bf, r_F1]
theorem q_removeLink {M : xM} (hI : Inv M) (x y : Int32) : QR PT M (m_L_removeLink 0 x y 0 M) (m_M_removeLink 0 x y) := by
  obtain ⟨x, rfl, h1, h2⟩ := zi_ex x
  obtain ⟨y, rfl, h3, h4⟩ := zi_ex y
  obtain ⟨hc, _, hc6, _, g3, _⟩ := hI.2.1
  have hw := hI.1.1
  have hn := CP_n hI.1.2
  have hBb := RB_bmp (RB_bk M)
  by_cases c : (0 ≤ x ∧ x < nT (bk M 0)) ∧ (0 ≤ y ∧ y < nT (bk M 0))
  · obtain ⟨f, rfl⟩ : ∃ t : Nat, x = (t : Int) := ⟨x.toNat, by omega⟩
    obtain ⟨t, rfl⟩ : ∃ t : Nat, y = (t : Int) := ⟨y.toNat, by omega⟩
    have hf : f < nT (bk M 0) := by omega
    have ht : t < nT (bk M 0) := by omega
    by_cases d : bL (bk M 0) f t = true
    · obtain ⟨A, ea, hA⟩ := Inv_CH hI
      have cA := CH_CP hA hI.1.2
      have f2 : fr (onP 9) A (xst A 8 9 t (.int (mk (fun g => if g = f then false else bL (bk M 0) g t)))) := fr_st rfl
      have c2 := CP_upL cA hw (show f < 12 by omega) ht false
      have w2 := wF_upL hw hf ht false (fun q => nomatch q)
      generalize hb' : upI (bk M 0) (172 + 12 * f + t) (if false = true then 1 else 0) = b' at c2 w2
      generalize hy : zi (sm (fun t => (cnt (fun f => bL b' f t) 12 : Nat)) (nT b')) = Y
      have hB := mid_RB (v := .long (Int32.toInt64 Y)) hA f2
      obtain ⟨N1, e1, hN⟩ := r_rem hc6 (mid_27 (v := .long (Int32.toInt64 Y)) (w := .int 0) hA f2 g3)
      have hB1 := RB_H (RB_9 (v := .int 0) hB) (RH_H hN)
      have hB2 : RB (xst N1 28 0 (172 + 12 * f + t) (.int (zi 0))) b' := by rw [← hb']; exact RB_st hB1
      refine QR_chg (y := Y) (N2 := xst N1 28 0 (172 + 12 * f + t) (.int (zi 0))) (b' := b') hI hA f2 c2 w2 ?_ ?_ hN (BK_s (by omega)) hB2 trivial
      · rw [e_m_L_removeLink, e_m_C_removeLink, s_reqT hI.1.2 h1 h2, if_pos c.1, xbV_r, s_reqT hI.1.2 h3 h4, if_pos c.2, xbV_r, s_isLinked hI.1.2 (by omega) ht, xbI_r, d, ite_bt, ea, xbV_r, s_unlink cA h1 h2 h3 h4, Int.toNat_natCast, Int.toNat_natCast, if_pos ⟨c, d⟩, xbI_r, s_countLinks c2, hy, xbI_r, xhI_r, xck_01]
        rfl
      · have sl := r_setLink (M := N1) (x := f) (y := t) (by omega) (by omega) (zi 0)
        have sl : m_M_setLink 0 (zi f) (zi t) 0 N1 = _ := sl
        rw [e_m_M_removeLink, r_areTasks hB hw.1 h1 h2 h3 h4, xbI_r, decide_eq_true c.1, decide_eq_true c.2, Bool.and_self, ite_bt, ite_bt, r_link hB hw.2.1 (by omega) (by omega), xbI_r, d, ite_bt, r_F0, e1, xbV_r, sl, xbV_r, r_links hB2, xbI_r, lnk_sum (by rw [← hb', up_T (by omega)]; exact hn) w2.2.1, hy]
    · have d0 : bL (bk M 0) f t = false := by
        cases e : bL (bk M 0) f t with
        | true => exact absurd e d
        | false => rfl
      refine QR_f (c := 2) (v := 0) hI (by decide) ?_ ?_ (fz_refl _)
      · rw [e_m_L_removeLink, e_m_C_removeLink, s_reqT hI.1.2 h1 h2, if_pos c.1, xbV_r, s_reqT hI.1.2 h3 h4, if_pos c.2, xbV_r, s_isLinked hI.1.2 (by omega) ht, xbI_r, d0, ite_bf, xhI_e, if_neg (by decide), if_pos rfl]
      · rw [e_m_M_removeLink, r_areTasks hBb hw.1 h1 h2 h3 h4, xbI_r, decide_eq_true c.1, decide_eq_true c.2, Bool.and_self, ite_bt, ite_bt, r_link hBb hw.2.1 (by omega) (by omega), xbI_r, d0, ite_bf, r_F2]
  · refine QR_f (c := 1) (v := 0) hI (by decide) ?_ ?_ (fz_refl _)
    · rw [e_m_L_removeLink, e_m_C_removeLink, s_reqT hI.1.2 h1 h2]
      by_cases c1 : 0 ≤ x ∧ x < nT (bk M 0)
      · rw [if_pos c1, xbV_r, s_reqT hI.1.2 h3 h4, if_neg (fun q => c ⟨c1, q⟩), xbV_e, xhI_e, if_pos rfl]
      · rw [if_neg c1, xbV_e, xhI_e, if_pos rfl]
    · have a0 : (decide (0 ≤ x ∧ x < nT (bk M 0)) && decide (0 ≤ y ∧ y < nT (bk M 0))) = false := by
        rw [← Bool.not_eq_true, Bool.and_eq_true, decide_eq_true_iff, decide_eq_true_iff]; exact c
      rw [e_m_M_removeLink, r_areTasks hBb hw.1 h1 h2 h3 h4, xbI_r, a0, ite_bf, ite_bf, r_F1]
/-- a task that goes -/
theorem q_dropTask {M : xM} (hI : Inv M) (x : Int32) : QR PT M (m_L_dropTask 0 x 0 M) (m_M_dropTask 0 x) := by
  obtain ⟨x, rfl, h1, h2⟩ := zi_ex x
  obtain ⟨hc, _, hc6, _, g3, _⟩ := hI.2.1
  have hw := hI.1.1
  have hn := CP_n hI.1.2
  have nw := wS_n hw.1
  have hBb := RB_bmp (RB_bk M)
  by_cases c : 0 ≤ x ∧ x < nT (bk M 0)
  · by_cases d : (nT (bk M 0) : Int) = 1
    · refine QR_f (c := 2) (v := 0) hI (by decide) ?_ ?_ (fz_refl _)
      · rw [e_m_L_dropTask, e_m_C_dropTask, s_reqT hI.1.2 h1 h2, if_pos c, xbV_r, CP_T hI.1.2, zi_01, zife (by omega) (by omega) (by decide) (by decide), if_pos d, xhI_e, if_neg (by decide), if_pos rfl]
      · have e2 : gi (xbump M 1 6) 28 0 (ix 2) = zi (nT (bk M 0)) := RB_T hBb hw.1
        rw [e_m_M_dropTask, r_isTask hBb hw.1 h1 h2, xbI_r, decide_eq_true c, ite_bt, ite_bt, xck_2, e2, d, if_pos (show zi 1 = (1 : Int32) from rfl), r_F2]
    · obtain ⟨t, rfl⟩ : ∃ t : Nat, x = (t : Int) := ⟨x.toNat, by omega⟩
      have ht : t < nT (bk M 0) := by omega
      obtain ⟨A, ea, hA⟩ := Inv_CH hI
      have cA := CH_CP hA hI.1.2
      obtain ⟨A2, ea2, f2, c2⟩ := s_removeT cA hw ht (by omega)
      have eT : nT (dpB (bk M 0) t) = nT (bk M 0) - 1 := dp_T (by omega)
      have hB := mid_RB (v := .long (Int32.toInt64 (zi ((nT (bk M 0) - 1 : Nat) : Int)))) hA f2
      obtain ⟨N1, e1, hN⟩ := r_rem hc6 (mid_27 (v := .long (Int32.toInt64 (zi ((nT (bk M 0) - 1 : Nat) : Int)))) (w := .int 0) hA f2 g3)
      have hB1 := RB_H (RB_9 (v := .int 0) hB) (RH_H hN)
      obtain ⟨N2, e2, fN, hB2⟩ := r_drop hB1 hw ht (by omega)
      refine QR_chg (y := zi ((nT (bk M 0) - 1 : Nat) : Int)) (N2 := N2) (b' := dpB (bk M 0) t) hI hA f2 c2 (wF_dp hw ht (by omega)) ?_ ?_ hN (BK_8 fN) hB2 trivial
      · rw [e_m_L_dropTask, e_m_C_dropTask, s_reqT hI.1.2 h1 h2, if_pos c, xbV_r, CP_T hI.1.2, zi_01, zife (by omega) (by omega) (by decide) (by decide), if_neg d, ea, xbV_r, ea2, xbI_r, CP_T c2, eT, xhI_r, xck_01]
        rfl
      · have e3 : gi (xst A2 39 0 0 (.long (Int32.toInt64 (zi ((nT (bk M 0) - 1 : Nat) : Int))))) 28 0 (ix 2) = zi (nT (bk M 0)) := RB_T hB hw.1
        rw [e_m_M_dropTask, r_isTask hB hw.1 h1 h2, xbI_r, decide_eq_true c, ite_bt, ite_bt, xck_2, e3, if_neg (fun q => by rw [zi_01, zi_eq (by omega) (by omega) (by decide) (by decide)] at q; exact d q), r_F0, e1, xbV_r, e2, xbI_r]
  · refine QR_f (c := 1) (v := 0) hI (by decide) ?_ ?_ (fz_refl _)
    · rw [e_m_L_dropTask, e_m_C_dropTask, s_reqT hI.1.2 h1 h2, if_neg c, xbV_e, xhI_e, if_pos rfl]
    · rw [e_m_M_dropTask, r_isTask hBb hw.1 h1 h2, xbI_r, decide_eq_false c, ite_bf, ite_bf, r_F1]
