/-! both read a task: its links -/
theorem TR_ty {M : xM} {B : Nat → Int} {n p : Nat} (h : TR M B n p) : (gi M 27 0 18 = (1 : Int32)) = (tT B n p = 0) := by
  have ty := tyR_is (B := B) (n := n) (p := p)
  rw [h.2.2.2.1, zi_01, zi_eq (by omega) (by omega) (by decide) (by decide)]
  exact propext ty.1
theorem TR_ty0 {M : xM} {B : Nat → Int} {n p : Nat} (h : TR M B n p) : (gi M 27 0 18 = (0 : Int32)) = (tT B n p = 4) := by
  have ty := tyR_is (B := B) (n := n) (p := p)
  rw [h.2.2.2.1, zi_00, zi_eq (by omega) (by omega) (by decide) (by decide)]
  exact propext ty.2.2.2.1
/-- what goes on behind the links -/
noncomputable def semK (M : xM) : xR := xbI (m_M_semicolon 0 M) (fun r M1 => if r = 0 then rI (xnar 1 0) M1 else xck 2 3160 (xck 2 3160 (rI (xnar 1 1) (xst M1 28 0 (ix 2) (.int ((gi M1 28 0 (ix 2)) + 1))))))
/-- where the links are read -/
def LKS (M M' : xM) (o p : Nat) (B : Nat → Int) (n pos : Nat) (b0 b : Nat → Int) (t c : Nat) : Prop := CT M o B n pos ∧ RT M' B n pos ∧ CP M p b0 ∧ RB M' b ∧ IPT M p b0 b t (nR b0) ∧ cnt (fun f => bL b f t) 12 = c
theorem cnt_up {P Q : Nat → Bool} {n x : Nat} (hx : x < n) (h1 : P x = false) (h2 : ∀ i, i < n → Q i = (P i || (i == x))) : cnt Q n = cnt P n + 1 := by
  have : cnt Q n = cnt (addP P x) n := cnt_congr (fun i hi => h2 i hi)
  rw [this, cnt_addP hx h1]
set_option maxHeartbeats 2000000 in
theorem both_pred {M M' : xM} {o p : Nat} {B : Nat → Int} {n pos : Nat} {b0 b : Nat → Int} {t c : Nat} (hQ : wQ b0 t) (ht : nT b0 = t) (ht2 : t < 12) (h : LKS M M' o p B n pos b0 b t c) {K : xM → xR} {G : xM → xM → Prop} {k k' : xM → xR} (hk : ∀ M1 M1' pos1 b1, fz (onC8 o p) M M1 → fz onV8 M' M1' → LKS M1 M1' o p B n pos1 b0 b1 t (c + 1) → PK o p M M' (k M1) (k' M1') K G) : PK o p M M' (xbI (m_P_taskNamed p (gl M 21 o 4) M) (fun r2 M1 => xbI (m_T_isAtKnownName o r2 M1) (fun r4 M3 => if r4 = 0 then rI (xnar 1 0) M3 else xbI (m_P_isLinked p r2 (zi t) M3) (fun r6 M5 => if r6 = 0 then xck (zi t) 12 (xck (zi t) 12 (xbV (m_T_advance o (xst M5 8 p (ix (zi t)) (.int ((gi M5 8 p (ix (zi t))) ||| ((1 : Int32) <<< (r2 &&& 31) : Int32))))) (fun M7 => k M7))) else xbI (m_T_fail o 4 M5) (fun r9 M8 => rI (xnar 1 r9) M8))))) (xbI (m_M_parsePredecessor 0 (zi t) M') (fun r M1 => if r = 0 then rI (xnar 1 0) M1 else k' M1)) K G := by
  obtain ⟨hC, hR, hP, hB, hI, hc⟩ := h
  have eR := wN_R hQ.1
  have eT := wN_T hQ.1
  have ag := hI.1
  have hN : wN b := by
    refine ⟨by rw [ag 2 (by omega) (fun f hf => by omega)]; exact hQ.1.1, by rw [ag 1 (by omega) (fun f hf => by omega)]; exact hQ.1.2.1, fun s hs => ?_, fun r hr => ?_⟩
    · rw [agT_T ag] at hs
      exact nmB_congr (hQ.1.2.2.1 s hs) (ag _ (by omega) (fun f hf => by omega)) (fun i hi => ag _ (by omega) (fun f hf => by omega))
    · rw [agT_R ag] at hr
      exact nmB_congr (hQ.1.2.2.2 r hr) (ag _ (by omega) (fun f hf => by omega)) (fun i hi => ag _ (by omega) (fun f hf => by omega))
  have pks : ∀ s, s < nT b0 → pk b (28 + 12 * s) = pk b0 (28 + 12 * s) := fun s hs => by
    have := (hQ.1.2.2.1 s hs).1
    exact pk_congr (ag _ (by omega) (fun f hf => by omega)) (fun i hi => ag _ (by omega) (fun f hf => by omega))
  have hb := tE_bd (B := B) hC.2.1.1
  have hn := hC.1.1
  obtain ⟨x, ex, ex2, ex3, ex4⟩ := s_taskN hP (gl M 21 o 4)
  obtain ⟨M1, e1, f1, a1, b1⟩ := s_isKnown hC (x := x) (by omega)
  obtain ⟨M2, e2, f2, a2, b2⟩ := r_short hR
  have e0 := r_taskNamed hB hN hR.2.2.2 (f := tF B n pos) (k := tE B n pos - tF B n pos) (by omega)
  rw [ex, xbI_r, e1, xbI_r, e_m_M_parsePredecessor, e2, xbI_r]
  by_cases c0 : tT B n pos = 0
  · obtain ⟨w1, w2, w3⟩ := TC_w hC.2.1 c0
    -- both look up the same
    have same : x = fnd (fun t => nmE b (28 + 12 * t) B (tF B n pos) (tE B n pos - tF B n pos)) (nT b) := by
      rw [ex2, w1, agT_T ag, fnd_congr (fun s hs => by rw [← pks s hs])]
      have := same_task hN hC.2.1.1 c0
      rw [agT_T ag] at this
      exact this
    by_cases c6 : tE B n pos - tF B n pos ≤ 6
    · have sE : swE B n pos = 0 := by unfold swE; rw [if_pos c0, if_pos c6]
      have em := a2 sE
      subst em
      rw [sE, show decide (0 = 0) = true from rfl, ite_bt, hR.2.1.2.1, hR.2.1.2.2.1, zi_sub, show ((tE B n pos : Nat) : Int) - ((tF B n pos : Nat) : Int) = ((tE B n pos - tF B n pos : Nat) : Int) by omega, e0, ← same, xbI_r, zi_m1, zife (by omega) (by omega) (by decide) (by decide), xnar_0]
      by_cases c1 : x = -1
      · have kE : knE B n pos x = 3 := by unfold knE; rw [if_pos c0, if_pos c1]
        have b1 := b1 (by rw [kE]; decide)
        rw [kE] at b1
        rw [kE, show decide (3 = 0) = false from rfl, ite_bf, if_pos c1, zi_lit3, r_wrong hR.2.1.2.1 3, xbI_r, xnar_b, xbI_r, ite_bf]
        exact PK_no (onC_21 f1) (onV_W fz_wrong) b1 ER_wrong
      · have kE : knE B n pos x = 0 := by unfold knE; rw [if_pos c0, if_neg c1]
        have em := a1 kE
        subst em
        have hx1 : fnd (fun t => nmE b (28 + 12 * t) B (tF B n pos) (tE B n pos - tF B n pos)) (nT b) ≠ -1 := by rw [← same]; exact c1
        obtain ⟨i, i1, i2, i3⟩ := fnd_ok hx1
        rw [← same] at i2
        rw [agT_T ag, ht] at i1
        have row := hI.2.2.2.2.2.2.1.2.2.2
        have lk := hI.2.2.2.2.2.1
        have sl : m_P_isLinked p (zi x) (zi t) M1 = rI (bz (bL b i t)) M1 := by
          rw [i2, e_m_P_isLinked, xck_n (by omega) (by decide), zix (by omega), row, s_contains _ (by omega), xret_I, xbI_r, xnar_b]
        have rl : m_M_isLink 0 (zi x) (zi t) M2 = rI (bz (bL b i t)) M2 := by
          have c2 := (lk i (by omega)).1
          rw [i2, r_linkv (by omega) ht2 (hB _ (by omega)) c2]
          rfl
        rw [kE, show decide (0 = 0) = true from rfl, ite_bt, if_neg c1, sl, rl, xbI_r, xbI_r]
        cases hl : bL b i t with
        | true =>
          rw [ite_bt, ite_bt, zi_lit4, s_fail hC.2.1.2.1 4, r_wrong hR.2.1.2.1 4, xbI_r, xbI_r, xnar_b, xbI_r, ite_bf]
          exact PK_no (onC_21 fz_fail) (onV_W fz_wrong) EC_fail ER_wrong
        | false =>
          have esh : ((1 : Int32) <<< (zi x &&& 31) : Int32) = mk (fun g => g == i) := by
            rw [i2]; exact mk_shl (by omega)
          have f3 : fz (onPz p) M1 (xst M1 8 p t (.int (mk (fun g => if g = i then true else bL b g t)))) := fz_st (onPz_t (by decide) (by decide))
          have hC3 := CT_P hC f3
          obtain ⟨M4, e4, f4, t4⟩ := s_adv hC3
          have rs := r_setLink (M := M2) (x := i) (y := t) (by omega) ht2 1
          have f3' : fz on280 M2 (xst M2 28 0 (172 + 12 * i + t) (.int (zi 1))) := fz_st (on280_t (by omega))
          have hR3 := RT_0 hR f3'
          obtain ⟨M4', e4', f4', t4'⟩ := r_tk hR3
          have e4' : m_M_token 0 (xst M2 28 0 (172 + 12 * i + t) (.int 1)) = rV M4' := e4'
          have em : mk (fun f => bL b f t) ||| mk (fun g => g == i) = mk (fun g => if g = i then true else bL b g t) := by
            rw [mk_or, mk_put]
          rw [ite_bf, ite_bf, xck_n (by omega) (by decide), xck_n (by omega) (by decide), zix (by omega), row, esh, em, e4, xbV_r, i2, rs, xbV_r, e4', xbV_r, xnar_1, xbI_r, ite_bt]
          refine hk M4 M4' _ (upI b (172 + 12 * i + t) 1) (fz_trans (onC8_P f3) (onC_8 (onT_8 f4))) (fz_trans (onV8_0 f3') (onV_Q f4')) ⟨t4, t4', ?_, ?_, ?_, ?_⟩
          · have hP3 : CP (xst M1 8 p t (.int (mk (fun g => if g = i then true else bL b g t)))) p b0 := by
              refine CP_ext hP ⟨fun _ h => h, rfl, by omega⟩ ⟨?_, ?_, ?_⟩ (fun s hs => ?_) (fun r hr => ?_) (fun s r hs hr => ?_)
              · rw [gi_k (by decide)]; exact CP_0 hP
              · rw [gi_k (by decide)]; exact CP_R hP
              · rw [gi_k (by decide)]; exact CP_T hP
              · rw [gi_k (by decide : 6 ≠ 8), gi_k (by decide : 7 ≠ 8), gi_s (by omega), gl_k (by decide)]
                exact ⟨CP_D hP hs, CP_E hP hs, CP_L hP hs, CP_N hP hs⟩
              · rw [gi_k (by decide), gl_k (by decide)]
                exact ⟨CP_C hP hr, CP_M hP hr⟩
              · rw [gi_k (by decide)]; exact CP_U hP hs hr
            exact CP_8 hP3 (onT_8 f4)
          · exact RB_fz (RB_st hB) f4' (fun _ => onQ_k (by decide))
          · refine IPT_8 ?_ (onT_8 f4)
            obtain ⟨h1, h2, h3, h4, h5, h6, ⟨h7, h8, h9, h10⟩, h11⟩ := hI
            refine ⟨agT_up h1 (by omega) (Or.inr ⟨i, by omega, rfl⟩), nmB_congr h2 (upI_n (by omega)) (fun k hk => upI_n (by omega)), by rw [up_D (by omega)]; exact h3, by rw [up_E (by omega)]; exact h4, fun r hr => by rw [up_U (by omega), up_C (by omega)]; exact h5 r hr, fun f hf => ?_, ⟨?_, ?_, ?_, ?_⟩, fun r hr => ?_⟩
            · by_cases e : f = i
              · subst e
                rw [upI_h]
                exact ⟨Or.inr rfl, fun _ => i1⟩
              · rw [upI_n (by omega)]; exact h6 f hf
            · rw [gl_k (by decide), h7]
              have := h2.1
              exact (pk_congr (upI_n (by omega)) (fun k hk => upI_n (by omega))).symm
            · rw [gi_k (by decide), up_D (by omega)]; exact h8
            · rw [gi_k (by decide), up_E (by omega)]; exact h9
            · rw [gi_h]
              refine mk_ext (fun g hg => ?_)
              by_cases e : g = i
              · rw [if_pos e, e]
                show true = decide (upI _ _ _ _ = 1)
                rw [upI_h]; rfl
              · rw [if_neg e, up_L (by omega)]
            · rw [gi_k (by decide), up_U (by omega)]; exact h11 r hr
          · rw [← hc]
            refine cnt_up (x := i) (by omega) hl (fun g hg => ?_)
            by_cases e : g = i
            · subst e
              have : bL (upI b (172 + 12 * g + t) 1) g t = true := by
                show decide (upI _ _ _ _ = 1) = true
                rw [upI_h]; rfl
              rw [this]; simp
            · have : (g == i) = false := by simp [e]
              rw [this, Bool.or_false, up_L (by omega)]
    · -- a long word is no name
      have sE : swE B n pos = 3 := by unfold swE; rw [if_pos c0, if_neg c6]
      have hx1 : x = -1 := by
        by_cases q : x = -1
        · exact q
        · exfalso
          rw [same] at q
          obtain ⟨i, i1, i2, i3⟩ := fnd_ok q
          unfold nmE at i3
          rw [Bool.and_eq_true] at i3
          have z := of_decide_eq_true i3.1
          have := (hN.2.2.1 i i1).1
          omega
      have kE : knE B n pos x = 3 := by unfold knE; rw [if_pos c0, if_pos hx1]
      have b1 := b1 (by rw [kE]; decide)
      have b2 := b2 (by rw [sE]; decide)
      rw [kE] at b1
      rw [sE] at b2
      rw [kE, sE, show decide (3 = 0) = false from rfl, ite_bf, ite_bf, xnar_0, xbI_r, ite_bf]
      exact PK_no (onC_21 f1) (onV_W f2) b1 b2
  · have sE : swE B n pos = 1 := by unfold swE; rw [if_neg c0]
    have kE : knE B n pos x = 1 := by unfold knE; rw [if_neg c0]
    have b1 := b1 (by rw [kE]; decide)
    have b2 := b2 (by rw [sE]; decide)
    rw [kE] at b1
    rw [sE] at b2
    rw [kE, sE, show decide (1 = 0) = false from rfl, ite_bf, ite_bf, xnar_0, xbI_r, ite_bf]
    exact PK_no (onC_21 f1) (onV_W f2) b1 b2
theorem both_links {o p : Nat} {B : Nat → Int} {n : Nat} {b0 : Nat → Int} {t : Nat} (hQ : wQ b0 t) (ht : nT b0 = t) (ht2 : t < 12) : ∀ j c M M' pos b, c + j = 12 → 1 ≤ c → LKS M M' o p B n pos b0 b t c → PK o p M M' (b_U_readLinks_11 o p (zi t) (zi c) M) (b_M_parseNewTask_101 0 (zi t) M') semK (fun M1 M1' => ∃ pos' b', CT M1 o B n pos' ∧ RT M1' B n pos' ∧ CP M1 p b0 ∧ RB M1' b' ∧ IPT M1 p b0 b' t (nR b0)) := by
  intro j
  induction j with
  | zero =>
    intro c M M' pos b hc h1 hL
    exfalso
    have lk := hL.2.2.2.2.1.2.2.2.2.2.1
    have e := hL.2.2.2.2.2
    have : cnt (fun f => bL b f t) 12 < cnt (fun _ => true) 12 := cnt_lt (j := t) (fun _ _ _ => rfl) ht2 (by
      cases q : bL b t t with
      | false => rfl
      | true => exact absurd ((lk t ht2).2 (of_decide_eq_true q)) (Nat.lt_irrefl t)) rfl
    have := cnt_le (fun _ => true) 12
    omega
  | succ j ih =>
    intro c M M' pos b hc h1 hL
    have hC := hL.1
    have hR := hL.2.1
    rw [e_b_U_readLinks_11, zi_00, zife (by omega) (by omega) (by decide) (by decide), if_neg (by omega), zi_12, zif (by decide) (by decide) (by omega) (by omega), if_neg (by omega), hC.2.1.2.2.2.1, ← zi_00, e_b_M_parseNewTask_101]
    simp only [TR_ty hR.2.1]
    by_cases c0 : tT B n pos = 0
    · rw [if_pos c0, if_pos c0]
      refine both_pred (k := fun M7 => b_U_readLinks_11 o p (zi t) (zi (c : Int) + 1) M7) hQ ht ht2 hL (fun M1 M1' pos1 b1 f f' hL1 => ?_)
      have e9 : zi (c : Int) + (1 : Int32) = zi ((c + 1 : Nat) : Int) := zi_suc c
      show PK o p M M' (b_U_readLinks_11 o p (zi t) (zi (c : Int) + 1) M1) (b_M_parseNewTask_101 0 (zi t) M1') _ _
      rw [e9]
      exact PK_tr f f' (ih (c + 1) M1 M1' pos1 b1 (by omega) (by omega) hL1)
    · rw [if_neg c0, if_neg c0, xnar_1]
      exact PK_yes (K := semK) (fz_refl M) (fz_refl M') ⟨pos, b, hC, hR, hL.2.2.1, hL.2.2.2.1, hL.2.2.2.2.1⟩
