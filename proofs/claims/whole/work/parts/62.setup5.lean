/-! both read a task -/
theorem both_lnk {o p : Nat} {B : Nat → Int} {n : Nat} {b0 b : Nat → Int} {t : Nat} {M M' : xM} {pos : Nat} (hQ : wQ b0 t) (ht : nT b0 = t) (ht2 : t < 12) (hL : LKS M M' o p B n pos b0 b t 0) : PK o p M M' (m_U_readLinks o p (zi t) M) (b_M_parseNewTask_66 0 (zi t) (zi (28 + 12 * t : Nat)) (zi (nR b0 : Nat)) M') semK (fun M1 M1' => ∃ pos' b', CT M1 o B n pos' ∧ RT M1' B n pos' ∧ CP M1 p b0 ∧ RB M1' b' ∧ IPT M1 p b0 b' t (nR b0)) := by
  obtain ⟨hC, hR, hP, hB, hI, hc⟩ := hL
  have eR := wN_R hQ.1
  have v1 : gi M' 28 0 (ix 1) = zi (nR b0) := by rw [ix_1, hB 1 (by decide), hI.1 1 (by omega) (fun f hf => by omega), eR.1]
  rw [e_m_U_readLinks, s_isAt hC (by decide), xbI_r, ite_b, e_b_M_parseNewTask_66, xck_1, v1, if_neg (zi_irr _), r_isWord hR (by decide), xbI_r, ite_b, xnar_1]
  cases hat : atW B n pos 10 with
  | false =>
    rw [if_neg (by decide), if_neg (by decide)]
    exact PK_yes (K := semK) (fz_refl M) (fz_refl M') ⟨pos, b, hC, hR, hP, hB, hI⟩
  | true =>
    obtain ⟨M1, e1, f1, t1⟩ := s_adv hC
    obtain ⟨M1', e1', f1', t1'⟩ := r_tk hR
    rw [if_pos rfl, if_pos rfl, e1, xbV_r, e1', xbV_r, e_b_U_readLinks_11, if_pos rfl]
    refine PK_tr (onC_8 (onT_8 f1)) (onV_Q f1') ?_
    have hL1 : LKS M1 M1' o p B n (tE B n pos) b0 b t 0 := ⟨t1, t1', CP_8 hP (onT_8 f1), RB_fz hB f1' (fun _ => onQ_k (by decide)), IPT_8 hI (onT_8 f1), hc⟩
    refine both_pred (k := fun M7 => b_U_readLinks_11 o p (zi t) ((0 : Int32) + 1) M7) (k' := fun M3 => b_M_parseNewTask_101 0 (zi t) M3) hQ ht ht2 hL1 (fun M2 M2' pos2 b2 f2 f2' hL2 => ?_)
    exact PK_tr f2 f2' (both_links hQ ht ht2 11 1 M2 M2' pos2 b2 (by decide) (by decide) hL2)
def rwB (b : Nat → Int) (B : Nat → Int) (f k : Nat) (v : Int) : Nat → Int := upI (upI (pnB b (28 + 12 * nT b) B f k) (35 + 12 * nT b) v) (36 + 12 * nT b) 0
theorem done_task {M : xM} {p : Nat} {b0 b : Nat → Int} (hQ : wQ b0 (nT b0)) (ht2 : nT b0 < 12) (hP : CP M p b0) (hI : IPT M p b0 b (nT b0) (nR b0)) : CP (xst M 2 p 2 (.int (zi (nT b0 + 1 : Nat)))) p (upI b 2 (nT b0 + 1 : Nat)) ∧ wQ (upI b 2 (nT b0 + 1 : Nat)) (nT b0 + 1) ∧ nT (upI b 2 (nT b0 + 1 : Nat)) = nT b0 + 1 ∧ nR (upI b 2 (nT b0 + 1 : Nat)) = nR b0 := by
  have eR := wN_R hQ.1
  have eT := wN_T hQ.1
  obtain ⟨ag, h2, h3, h4, h5, h6, ⟨h7, h8, h9, h10⟩, h11⟩ := hI
  have eTn : nT (upI b 2 (nT b0 + 1 : Nat)) = nT b0 + 1 := by
    show (upI b 2 ((nT b0 + 1 : Nat) : Int) 2).toNat = _
    rw [upI_h]; omega
  have eRn : nR (upI b 2 (nT b0 + 1 : Nat)) = nR b0 := by rw [up_R (by omega), agT_R ag]
  have old : ∀ k, k ≠ 2 → (k < 28 + 12 * nT b0 ∨ 172 ≤ k) → (∀ f, f < 12 → k ≠ 172 + 12 * f + nT b0) → upI b 2 (nT b0 + 1 : Nat) k = b0 k := fun k hk h hf => by
    rw [upI_n hk]; exact ag k h hf
  have oD : ∀ s, s < nT b0 → bD (upI b 2 (nT b0 + 1 : Nat)) s = bD b0 s := fun s hs => old _ (by omega) (by omega) (fun f hf => by omega)
  have oE : ∀ s, s < nT b0 → bE (upI b 2 (nT b0 + 1 : Nat)) s = bE b0 s := fun s hs => old _ (by omega) (by omega) (fun f hf => by omega)
  have oU : ∀ s r, s < nT b0 → r < 3 → bU (upI b 2 (nT b0 + 1 : Nat)) s r = bU b0 s r := fun s r hs hr => old _ (by omega) (by omega) (fun f hf => by omega)
  have oC : ∀ r, r < nR b0 → bC (upI b 2 (nT b0 + 1 : Nat)) r = bC b0 r := fun r hr => old _ (by omega) (by omega) (fun f hf => by omega)
  have oL : ∀ f s, f < 12 → s < 12 → s ≠ nT b0 → upI b 2 (nT b0 + 1 : Nat) (172 + 12 * f + s) = b0 (172 + 12 * f + s) := fun f s hf hs hn => old _ (by omega) (by omega) (fun g hg => by omega)
  refine ⟨⟨⟨by rw [eTn]; omega, by rw [eRn]; omega⟩, ⟨?_, ?_, ?_⟩, fun s hs => ?_, fun r hr => ?_, fun s r hs hr => ?_⟩, ⟨⟨?_, ?_, fun s hs => ?_, fun r hr => ?_⟩, ?_, fun r hr => ?_, fun s hs => ?_, fun f s hf hs => ?_⟩, eTn, eRn⟩
  · rw [gi_s (by decide), old 0 (by omega) (by omega) (fun f hf => by omega)]; exact CP_0 hP
  · rw [gi_s (by decide), eRn]; exact CP_R hP
  · rw [gi_h, eTn]
  · rw [eTn] at hs
    rw [gi_k (by decide : 6 ≠ 2), gi_k (by decide : 7 ≠ 2), gi_k (by decide : 8 ≠ 2), gl_k (by decide)]
    by_cases e : s = nT b0
    · subst e
      rw [up_D (by omega), up_E (by omega)]
      refine ⟨h8, h9, ?_, ?_⟩
      · rw [h10]; exact mk_ext (fun f hf => (up_L (by omega)).symm)
      · rw [h7]
        have := h2.1
        exact (pk_congr (upI_n (by omega)) (fun k hk => upI_n (by omega))).symm
    · have hs' : s < nT b0 := by omega
      rw [oD s hs', oE s hs']
      refine ⟨CP_D hP hs', CP_E hP hs', ?_, ?_⟩
      · rw [CP_L hP hs']
        refine mk_ext (fun f hf => ?_)
        unfold bL
        rw [oL f s hf (by omega) e]
      · rw [CP_N hP hs']
        have := (hQ.1.2.2.1 s hs').1
        exact (pk_congr (old _ (by omega) (by omega) (fun f hf => by omega)) (fun k hk => old _ (by omega) (by omega) (fun f hf => by omega))).symm
  · rw [eRn] at hr
    rw [gi_k (by decide), gl_k (by decide), oC r hr]
    refine ⟨CP_C hP hr, ?_⟩
    rw [CP_M hP hr]
    have := (hQ.1.2.2.2 r hr).1
    exact (pk_congr (old _ (by omega) (by omega) (fun f hf => by omega)) (fun k hk => old _ (by omega) (by omega) (fun f hf => by omega))).symm
  · rw [eTn] at hs
    rw [eRn] at hr
    rw [gi_k (by decide)]
    by_cases e : s = nT b0
    · subst e
      rw [up_U (by omega)]; exact h11 r hr
    · rw [oU s r (by omega) (by omega)]; exact CP_U hP (by omega) hr
  · rw [upI_h]; omega
  · rw [old 1 (by omega) (by omega) (fun f hf => by omega)]; exact hQ.1.2.1
  · rw [eTn] at hs
    by_cases e : s = nT b0
    · subst e
      exact nmB_congr h2 (upI_n (by omega)) (fun k hk => upI_n (by omega))
    · exact nmB_congr (hQ.1.2.2.1 s (by omega)) (old _ (by omega) (by omega) (fun f hf => by omega)) (fun k hk => old _ (by omega) (by omega) (fun f hf => by omega))
  · rw [eRn] at hr
    exact nmB_congr (hQ.1.2.2.2 r hr) (old _ (by omega) (by omega) (fun f hf => by omega)) (fun k hk => old _ (by omega) (by omega) (fun f hf => by omega))
  · rw [old 0 (by omega) (by omega) (fun f hf => by omega)]; exact hQ.2.1
  · rw [eRn] at hr
    rw [oC r hr]; exact hQ.2.2.1 r hr
  · rw [eTn] at hs
    by_cases e : s = nT b0
    · subst e
      rw [up_D (by omega), up_E (by omega), h4]
      refine ⟨h3, by omega, fun r hr => ?_⟩
      rw [eRn] at hr
      rw [up_U (by omega), up_C (by omega)]; exact h5 r hr
    · rw [oD s (by omega), oE s (by omega)]
      have hh := hQ.2.2.2.1 s (by omega)
      refine ⟨hh.1, hh.2.1, fun r hr => ?_⟩
      rw [eRn] at hr
      rw [oU s r (by omega) (by omega), oC r hr]; exact hh.2.2 r hr
  · by_cases e : s = nT b0
    · subst e
      rw [upI_n (by omega)]
      exact ⟨(h6 f hf).1, fun q => ⟨(h6 f hf).2 q, by omega⟩⟩
    · rw [oL f s hf hs e]
      have hh := hQ.2.2.2.2 f s hf hs
      exact ⟨hh.1, fun q => ⟨(hh.2 q).1, by have := (hh.2 q).2; omega⟩⟩
theorem both_task {M M' : xM} {o p : Nat} {B : Nat → Int} {n pos : Nat} {b : Nat → Int} (h : PP M M' o p B n pos b) (hQ : wQ b (nT b)) (hat : atW B n pos 11 = true) : PO o p M M' (m_U_readTask o p M) (m_M_parseNewTask 0 M') (fun M1 M1' => ∃ pos' b', PP M1 M1' o p B n pos' b' ∧ wQ b' (nT b') ∧ nT b' = nT b + 1 ∧ nR b' = nR b) := by
  obtain ⟨hC, hR, hP, hB⟩ := h
  have eT := wN_T hQ.1
  have eR := wN_R hQ.1
  have v2 : gi M' 28 0 (ix 2) = zi (nT b) := by rw [ix_2, hB 2 (by decide), eT.1]
  rw [e_m_U_readTask, CP_T hP, e_m_M_parseNewTask, xck_2, v2, zi_12, zif (by omega) (by omega) (by decide) (by decide), zife (by omega) (by omega) (by decide) (by decide)]
  by_cases c3 : (nT b : Int) = 12
  · obtain ⟨M1, e1, f1, b1⟩ := s_op_full hC (lit := 11) (by decide) hat
    rw [if_neg (by omega), if_pos c3, e1, xbI_r, ite_bf, xnar_0, zi_lit5, r_wrong hR.2.1.2.1 5, xbI_r, xnar_b]
    exact PO_no (onC_21 f1) (onV_W fz_wrong) b1 ER_wrong
  · obtain ⟨M1, e1, f1, t1⟩ := s_op_ok hC (lit := 11) (by decide) hat
    obtain ⟨M1', e1', f1', t1'⟩ := r_tk hR
    have hP1 := CP_8 hP f1
    have hB1 : RB M1' b := RB_fz hB f1' (fun _ => onQ_k (by decide))
    obtain ⟨x, ex, ex2, ex3, ex4⟩ := s_taskN hP1 (gl M1 21 o 4)
    rw [if_pos (by omega), if_neg c3, e1, xbI_r, ite_bt, e1', xbV_r, ex, xbI_r]
    refine PO_tr (onC_8 f1) (onV_Q f1') ?_
    have hb := tE_bd (B := B) t1'.2.1.1
    have hn := t1'.1.1
    have v2' : gi M1' 28 0 (ix 2) = zi (nT b) := by rw [ix_2, hB1 2 (by decide), eT.1]
    refine both_new (a := 28 + 12 * nT b) (y := fnd (fun t => nmE b (28 + 12 * t) B (tF B n (tE B n pos)) (tE B n (tE B n pos) - tF B n (tE B n pos))) (nT b)) t1 t1' (by omega) (by omega) (fun c0 => ?_) (by have := fnd_bd (fun t => nmE b (28 + 12 * t) B (tF B n (tE B n pos)) (tE B n (tE B n pos) - tF B n (tE B n pos))) (nT b); omega) (k' := fun M6 => xbI (m_M_parseRanged 0 (zi (35 + 12 * nT b : Nat)) 1 30 M6) (fun r8 M7 => if r8 = 0 then rI (xnar 1 0) M7 else xck (zi (36 + 12 * nT b : Nat)) 3160 (b_M_parseNewTask_66 0 (zi (nT b)) (zi (28 + 12 * nT b : Nat)) 0 (xst M7 28 0 (ix (zi (36 + 12 * nT b : Nat))) (.int 0))))) (fun M2 => by rw [ite_bf, xnar_0]) (fun c0 c6 => ?_) (fun M3 M3' g3 g3' t3 t3' q3 hw3 hpn hx1 => ?_)
    · rw [ex2, (TC_w t1.2.1 c0).1]
      exact same_task hQ.1 t1.2.1.1 c0
    · have e0 := r_taskNamed hB1 hQ.1 t1'.2.2.2 (f := tF B n (tE B n pos)) (k := tE B n (tE B n pos) - tF B n (tE B n pos)) (by omega)
      rw [ite_bt, t1'.2.1.2.1, t1'.2.1.2.2.1, zi_sub, show ((tE B n (tE B n pos) : Nat) : Int) - ((tF B n (tE B n pos) : Nat) : Int) = ((tE B n (tE B n pos) - tF B n (tE B n pos) : Nat) : Int) by omega, e0, xbI_r, xck_2, v2', zi_28, zi_08, zi_07, zi_mul, zi_add, zi_add, zi_add, show (28 : Int) + (nT b : Int) * 12 = ((28 + 12 * nT b : Nat) : Int) by omega, show ((28 + 12 * nT b : Nat) : Int) + 7 = ((35 + 12 * nT b : Nat) : Int) by omega, show ((28 + 12 * nT b : Nat) : Int) + 8 = ((36 + 12 * nT b : Nat) : Int) by omega]
    · refine PO_tr (onC_8 g3) (onV_Qn (by omega) g3') ?_
      have hB3 := hpn b hB1
      refine both_tk (s_number t3 (lo := 1) (hi := 30) (by omega) (by omega)) (r_ranged t3' (a := 35 + 12 * nT b) (by omega) (lo := 1) (hi := 30) (by omega) (by omega)) (fun M4 M4' g4 g4' t4 t4' q4 q4' hE => ?_)
      have hP4 := CP_8 (CP_8 hP1 g3) g4
      have hB4 := RB_up hB3 q4'
      have tk6 : gl M4 21 o 6 = pw B (tF B n (tE B n pos)) (tE B n (tE B n pos) - tF B n (tE B n pos)) := q4.2.trans q3
      have vb := numE_ok hE
      rw [xck_n (by omega) (by decide), xck_n (by omega) (by decide), xck_n (by omega) (by decide), xck_n (by omega) (by decide), zix (by omega), tk6, q4.1, xck_n (by omega) (by decide), zix (by omega), e_m_U_readDemands]
      have ht2 : nT b < 12 := by omega
      have col : ∀ f, f < 12 → b (172 + 12 * f + nT b) = 0 := fun f hf => by
        have hh := hQ.2.2.2.2 f (nT b) hf ht2
        rcases hh.1 with q | q
        · exact q
        · have := (hh.2 q).2; omega
      have f5 : fz (onPz p) M4 (xst (xst (xst (xst M4 5 p (nT b) (.long (pw B (tF B n (tE B n pos)) (tE B n (tE B n pos) - tF B n (tE B n pos))))) 6 p (nT b) (.int (zi (numV B n (tE B n (tE B n pos)))))) 7 p (nT b) (.int 0)) 8 p (nT b) (.int 0)) := fz_step (fz_step (fz_step (fz_st (onPz_t (by decide) (by decide))) (onPz_t (by decide) (by decide))) (onPz_t (by decide) (by decide))) (onPz_t (by decide) (by decide))
      have t5 := CT_P t4 f5
      have hP5 : CP (xst (xst (xst (xst M4 5 p (nT b) (.long (pw B (tF B n (tE B n pos)) (tE B n (tE B n pos) - tF B n (tE B n pos))))) 6 p (nT b) (.int (zi (numV B n (tE B n (tE B n pos)))))) 7 p (nT b) (.int 0)) 8 p (nT b) (.int 0)) p b := by
        refine CP_ext hP4 ⟨fun _ h => h, rfl, by omega⟩ ⟨?_, ?_, ?_⟩ (fun s hs => ⟨?_, ?_, ?_, ?_⟩) (fun r hr => ⟨?_, ?_⟩) (fun s r hs hr => ?_)
        · rw [gi_k (by decide), gi_k (by decide), gi_k (by decide), gi_k (by decide)]; exact CP_0 hP4
        · rw [gi_k (by decide), gi_k (by decide), gi_k (by decide), gi_k (by decide)]; exact CP_R hP4
        · rw [gi_k (by decide), gi_k (by decide), gi_k (by decide), gi_k (by decide)]; exact CP_T hP4
        · rw [gi_k (by decide), gi_k (by decide), gi_s (by omega), gi_k (by decide)]; exact CP_D hP4 hs
        · rw [gi_k (by decide), gi_s (by omega), gi_k (by decide), gi_k (by decide)]; exact CP_E hP4 hs
        · rw [gi_s (by omega), gi_k (by decide), gi_k (by decide), gi_k (by decide)]; exact CP_L hP4 hs
        · rw [gl_k (by decide), gl_k (by decide), gl_k (by decide), gl_s (by omega)]; exact CP_N hP4 hs
        · rw [gi_k (by decide), gi_k (by decide), gi_k (by decide), gi_k (by decide)]; exact CP_C hP4 hr
        · rw [gl_k (by decide), gl_k (by decide), gl_k (by decide), gl_k (by decide)]; exact CP_M hP4 hr
        · rw [gi_k (by decide), gi_k (by decide), gi_k (by decide), gi_k (by decide)]; exact CP_U hP4 hs hr
      have nx2 : ∀ i, (i < 28 + 12 * nT b ∨ 36 + 12 * nT b < i) → rwB b B (tF B n (tE B n pos)) (tE B n (tE B n pos) - tF B n (tE B n pos)) (numV B n (tE B n (tE B n pos))) i = b i := fun i h2 => by
        unfold rwB
        rw [upI_n (by omega), upI_n (by omega), pnB_n (by omega)]
      have nmn : ∀ w, w ≤ 6 → rwB b B (tF B n (tE B n pos)) (tE B n (tE B n pos) - tF B n (tE B n pos)) (numV B n (tE B n (tE B n pos))) (28 + 12 * nT b + w) = pnB b (28 + 12 * nT b) B (tF B n (tE B n pos)) (tE B n (tE B n pos) - tF B n (tE B n pos)) (28 + 12 * nT b + w) := fun w hw => by
        unfold rwB
        rw [upI_n (by omega), upI_n (by omega)]
      have dn : bD (rwB b B (tF B n (tE B n pos)) (tE B n (tE B n pos) - tF B n (tE B n pos)) (numV B n (tE B n (tE B n pos)))) (nT b) = numV B n (tE B n (tE B n pos)) := by
        unfold bD rwB
        rw [upI_n (by omega), upI_h]
      have en : bE (rwB b B (tF B n (tE B n pos)) (tE B n (tE B n pos) - tF B n (tE B n pos)) (numV B n (tE B n (tE B n pos)))) (nT b) = 0 := by
        unfold bE rwB
        rw [upI_h]
      have nb := nmB_pn (b := b) (a := 28 + 12 * nT b) hw3.1 hw3.2.1 hw3.2.2
      have hI5 : IPT (xst (xst (xst (xst M4 5 p (nT b) (.long (pw B (tF B n (tE B n pos)) (tE B n (tE B n pos) - tF B n (tE B n pos))))) 6 p (nT b) (.int (zi (numV B n (tE B n (tE B n pos)))))) 7 p (nT b) (.int 0)) 8 p (nT b) (.int 0)) p b (rwB b B (tF B n (tE B n pos)) (tE B n (tE B n pos) - tF B n (tE B n pos)) (numV B n (tE B n (tE B n pos)))) (nT b) 0 := by
        refine ⟨fun k hk hf => nx2 k (by omega), nmB_congr nb (nmn 0 (by omega)) (fun k hk => ?_), by rw [dn]; exact vb, en, fun r hr => absurd hr (Nat.not_lt_zero r), fun f hf => ?_, ⟨?_, ?_, ?_, ?_⟩, fun r hr => absurd hr (Nat.not_lt_zero r)⟩
        · have := nmn (1 + k) (by omega)
          rw [← Nat.add_assoc] at this
          exact this
        · rw [nx2 _ (by omega), col f hf]
          exact ⟨Or.inl rfl, fun q => absurd q (by decide)⟩
        · rw [gl_k (by decide), gl_k (by decide), gl_k (by decide), gl_h, ← pk_pn (b := b) (a := 28 + 12 * nT b)]
          exact (pk_congr (a := 28 + 12 * nT b) (a' := 28 + 12 * nT b) (nmn 0 (by omega)) (fun k hk => by
            rw [pnB_h] at hk
            have := nmn (1 + k) (by omega)
            rw [← Nat.add_assoc] at this
            exact this)).symm
        · rw [gi_k (by decide), gi_k (by decide), gi_h, dn]
        · rw [gi_k (by decide), gi_h, en]; rfl
        · rw [gi_h, mk_0]
          refine mk_ext (fun f hf => ?_)
          unfold bL
          rw [nx2 _ (by omega), col f hf]; rfl
      have f5' : fz on280 M4' (xst M4' 28 0 (36 + 12 * nT b) (.int 0)) := fz_st (on280_t (by omega))
      have t5' := RT_0 t4' f5'
      have hB5 : RB (xst M4' 28 0 (36 + 12 * nT b) (.int 0)) (rwB b B (tF B n (tE B n pos)) (tE B n (tE B n pos) - tF B n (tE B n pos)) (numV B n (tE B n (tE B n pos)))) := RB_st (v := 0) hB4
      refine PO_tr (fz_trans (onC_8 g4) (onC8_P f5)) (fz_trans (onV_Q1 (by omega) g4') (onV8_0 f5')) ?_
      refine PK_go (both_dem hQ rfl ht2 (nR b) 0 _ _ _ _ (by omega) t5 t5' hP5 hB5 hI5) (fun M6 M6' _ _ ⟨pos6, b6, t6, t6', hP6, hB6, hI6, hc6⟩ => ?_)
      have cz : cnt (fun f => bL b6 f (nT b)) 12 = 0 := by
        have : cnt (fun f => bL b6 f (nT b)) 12 = cnt (fun _ => false) 12 := cnt_congr (fun f hf => by
          unfold bL
          rw [hc6 f hf, nx2 _ (by omega), col f hf]; rfl)
        rw [this]; decide
      refine PK_go (both_lnk hQ rfl ht2 ⟨t6, t6', hP6, hB6, hI6, cz⟩) (fun M7 M7' _ _ ⟨pos7, b7, t7, t7', hP7, hB7, hI7⟩ => ?_)
      have dt := done_task hQ ht2 hP7 hI7
      have f8 : fz (onPz p) M7 (xst M7 2 p 2 (.int (zi (nT b + 1 : Nat)))) := fz_st (onPz_t (by decide) (by decide))
      have t8 := CT_P t7 f8
      rw [CP_T hP7, zi_suc]
      refine PO_tr (onC8_P f8) (fz_refl M7') ?_
      unfold semK
      refine both_tk1 (s_semi t8) (r_semi t7') (fun M9 M9' g9 g9' t9 t9' _ q9 _ => ?_)
      have hB9 : RB M9' b7 := RB_fz hB7 g9' (fun _ => onQ_k (by decide))
      have v9 : gi M9' 28 0 (ix 2) = zi (nT b) := by
        rw [ix_2, hB9 2 (by decide), hI7.1 2 (by omega) (fun f hf => by omega), eT.1]
      rw [xck_2, xck_2, v9, zi_suc, xnar_1, ix_2]
      have f10 : fz on280 M9' (xst M9' 28 0 2 (.int (zi ((nT b + 1 : Nat) : Int)))) := fz_st (on280_t (by decide))
      exact PO_yes (onC_8 g9) (fz_trans (onV_Q g9') (onV8_0 f10)) ⟨_, _, ⟨t9, RT_0 t9' f10, CP_8 dt.1 g9, RB_st hB9⟩, by rw [dt.2.2.1]; exact dt.2.1, dt.2.2.1, dt.2.2.2⟩
