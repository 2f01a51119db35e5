/-! both read a setup text -/
theorem PO_bind {o p : Nat} {M M' : xM} {r r' : xR} {G G2 : xM → xM → Prop} {f f' : Int32 → xM → xR} (h : PO o p M M' r r' G) (h0 : ∀ M1, f (bz false) M1 = rI (bz false) M1) (h0' : ∀ M1, f' (bz false) M1 = rI (bz false) M1) (h1 : ∀ M1 M1', G M1 M1' → PO o p M1 M1' (f (bz true) M1) (f' (bz true) M1') G2) : PO o p M M' (xbI r f) (xbI r' f') G2 := by
  obtain ⟨ok, A, A', e1, e2, g1, g1', a, b⟩ := h
  rw [e1, e2, xbI_r, xbI_r]
  cases ok with
  | true =>
    obtain ⟨g8, g8', g⟩ := a rfl
    exact PO_tr g8 g8' (h1 A A' g)
  | false =>
    obtain ⟨c, f, h3, h4⟩ := b rfl
    rw [h0, h0']
    exact PO_no g1 g1' h3 h4
theorem b51_no (o p : Nat) (v : Int32) (M : xM) : b_U_read_51 o p 0 v M = rI (bz false) M := by
  rw [e_b_U_read_51, xnar_0, if_pos rfl]
  split <;> rfl
theorem b23_no (o p : Nat) (v : Int32) (M : xM) : b_U_read_23 o p 0 v M = rI (bz false) M := by
  rw [e_b_U_read_23, if_pos rfl, if_pos rfl, b51_no]
  split <;> rfl
/-- what a valid text leaves -/
def Gst (p : Nat) (M1 M1' : xM) : Prop := ∃ b, wF b ∧ CP M1 p b ∧ RB M1' b
theorem atW_0 {B : Nat → Int} {n pos lit : Nat} (h : tT B n pos ≠ 0) : atW B n pos lit = false := by
  unfold atW
  rw [decide_eq_false h, Bool.false_and]
theorem both_t3 {o p : Nat} {B : Nat → Int} {n : Nat} : ∀ j t M M' pos b, t + j = 13 → 1 ≤ t → PP M M' o p B n pos b → wQ b (nT b) → nT b = t → 1 ≤ nR b → PO o p M M' (b_U_read_51 o p 1 (zi t) M) (b_M_parseSetup_61 0 M') (Gst p) := by
  intro j
  induction j with
  | zero =>
    intro t M M' pos b hj h1 hP hQ hT hR
    have := (wN_T hQ.1).2
    omega
  | succ j ih =>
    intro t M M' pos b hj h1 hP hQ hT hR
    have h12 := (wN_T hQ.1).2
    obtain ⟨hC, hR', hCP, hB⟩ := hP
    rw [e_b_U_read_51, zi_12, zif (by decide) (by decide) (by omega) (by omega), if_neg (by omega), ite_z1, hC.2.1.2.2.2.1, e_b_M_parseSetup_61, r_isWord hR' (by decide), xbI_r, ite_b, xnar_1, xnar_0]
    simp only [TR_ty0 hR'.2.1]
    by_cases c4 : tT B n pos = 4
    · rw [if_pos c4, atW_0 (by omega), if_neg (by decide), if_pos c4]
      exact PO_yes (fz_refl M) (fz_refl M') ⟨b, wQ_F hQ (by omega) hR, hCP, hB⟩
    · rw [if_neg c4]
      cases hat : atW B n pos 11 with
      | false =>
        obtain ⟨M1, e1, f1, b1⟩ := s_task_no (p := p) hC hat
        rw [if_neg (by decide), if_neg c4, zi_lit1, r_wrong hR'.2.1.2.1 1, xbI_r, ite_bf, e1, xbI_r]
        show PO o p M M' (b_U_read_51 o p 0 _ M1) _ _
        rw [b51_no]
        exact PO_no (onC_21 f1) (onV_W fz_wrong) b1 ER_wrong
      | true =>
        rw [if_pos rfl]
        refine PO_bind (both_task ⟨hC, hR', hCP, hB⟩ hQ hat) (fun M1 => b51_no o p _ M1) (fun M1 => ite_bf _ _) (fun M1 M1' ⟨pos1, b1, hP1, hQ1, hT1, hR1⟩ => ?_)
        rw [ite_bt]
        have := ih (t + 1) M1 M1' pos1 b1 (by omega) (by omega) hP1 hQ1 (by omega) (by omega)
        rw [zi_suc]
        exact this
theorem both_t1 {o p : Nat} {B : Nat → Int} {n : Nat} : ∀ j k M M' pos b, k + j = 4 → 1 ≤ k → PP M M' o p B n pos b → wQ b 0 → nT b = 0 → nR b = k → PO o p M M' (b_U_read_23 o p 1 (zi k) M) (b_M_parseSetup_43 0 M') (Gst p) := by
  intro j
  induction j with
  | zero =>
    intro k M M' pos b hj h1 hP hQ hT hR
    have := (wN_R hQ.1).2
    omega
  | succ j ih =>
    intro k M M' pos b hj h1 hP hQ hT hR
    have h3 := (wN_R hQ.1).2
    obtain ⟨hC, hR', hCP, hB⟩ := hP
    rw [e_b_U_read_23, zi_03, zif (by decide) (by decide) (by omega) (by omega), if_neg (by omega), ite_z1, s_isAt hC (by decide), xbI_r, ite_b, ite_z1, e_b_M_parseSetup_43, r_isWord hR' (by decide), xbI_r, ite_b]
    cases hat : atW B n pos 9 with
    | true =>
      rw [if_pos rfl, if_pos rfl]
      refine PO_bind (both_res ⟨hC, hR', hCP, hB⟩ hQ hT hat) (fun M1 => b23_no o p _ M1) (fun M1 => by rw [ite_bf, xnar_0]) (fun M1 M1' ⟨pos1, b1, hP1, hQ1, hT1, hR1⟩ => ?_)
      rw [ite_bt, zi_suc]
      exact ih (k + 1) M1 M1' pos1 b1 (by omega) (by omega) hP1 hQ1 hT1 (by omega)
    | false =>
      rw [if_neg (by decide), if_neg (by decide), r_isWord hR' (by decide), xbI_r, ite_b]
      cases hat2 : atW B n pos 11 with
      | false =>
        obtain ⟨M1, e1, f1, b1⟩ := s_task_no (p := p) hC hat2
        rw [if_neg (by decide), zi_lit1, r_wrong hR'.2.1.2.1 1, xbI_r, xnar_b, e1, xbI_r, ite_bf, b51_no]
        exact PO_no (onC_21 f1) (onV_W fz_wrong) b1 ER_wrong
      | true =>
        have hQ' : wQ b (nT b) := by rw [hT]; exact hQ
        rw [if_pos rfl, e_b_M_parseSetup_61, r_isWord hR' (by decide), xbI_r, hat2, ite_bt]
        refine PO_bind (both_task ⟨hC, hR', hCP, hB⟩ hQ' hat2) (fun M1 => by rw [ite_bf, b51_no]) (fun M1 => by rw [ite_bf, xnar_0]) (fun M1 M1' ⟨pos1, b1, hP1, hQ1, hT1, hR1⟩ => ?_)
        rw [ite_bt, ite_bt]
        exact both_t3 12 1 M1 M1' pos1 b1 (by decide) (by decide) hP1 hQ1 (by omega) (by omega)
/-! the start of reading -/
theorem s_open {M : xM} {o : Nat} {B : Nat → Int} {n : Nat} (hI : IN M o B n) (hK : KC M) : ∃ M1, m_T_open o M = rV M1 ∧ fz (on21 o) M M1 ∧ CT M1 o B n 0 ∧ gi M1 21 o 8 = zi 0 ∧ gi M1 21 o 9 = zi (-1) := by
  have f0 : fz (on21 o) M (xst (xst (xst M 21 o 8 (.int 0)) 21 o 9 (.int (-1))) 21 o 2 (.int 0)) := fz_step (fz_step (fz_st on21_t) on21_t) on21_t
  obtain ⟨M1, e1, f1, t1⟩ := s_advance (IN_21 hI f0) (p := 0) (Nat.zero_le _) (gi_h _ _ _ _ _)
  rw [e_m_T_open, e1, xbV_r]
  refine ⟨M1, rfl, fz_trans f0 (onT_21 f1), ⟨IN_21 hI (fz_trans f0 (onT_21 f1)), t1, KC_21 hK (fz_trans f0 (onT_21 f1))⟩, ?_, ?_⟩
  · rw [fz_gi f1 (onT_s (by decide)), gi_s (by decide), gi_s (by decide), gi_h]; rfl
  · rw [fz_gi f1 (onT_s (by decide)), gi_s (by decide), gi_h]; rfl
theorem r_begin {M : xM} {B : Nat → Int} {n : Nat} (hI : IR M B n) (hK : KC M) (hB : IB M B) : ∃ M1, m_M_begin 0 M = rV M1 ∧ fz onW M M1 ∧ RT M1 B n 0 ∧ gi M1 27 0 5 = zi 0 ∧ gi M1 27 0 6 = zi (-1) := by
  have f0 : fz onW M (xst (xst (xst M 27 0 5 (.int 0)) 27 0 6 (.int (-1))) 27 0 17 (.int 0)) := fz_step (fz_step (fz_st rfl) rfl) rfl
  have hI0 := IR_fz hI f0 rfl (fun _ => onW_k (by decide))
  obtain ⟨M1, e1, f1, t1⟩ := r_token hI0 (p := 0) (Nat.zero_le _) (gi_h _ _ _ _ _)
  rw [e_m_M_begin, e1, xbV_r]
  refine ⟨M1, rfl, fz_trans f0 (onQ_W f1), ⟨IR_Q hI0 f1, t1, KC_Q (KC_W hK f0) f1, IB_fz hB (fz_trans f0 (onQ_W f1)) (fun _ => onW_k (by decide))⟩, ?_, ?_⟩
  · rw [fz_gi f1 rfl, gi_s (by decide), gi_s (by decide), gi_h]; rfl
  · rw [fz_gi f1 rfl, gi_s (by decide), gi_h]; rfl
theorem both_read {M M' : xM} {o p : Nat} {B : Nat → Int} {n : Nat} (hC : CT M o B n 0) (hR : RT M' B n 0) (h1 : gi M 2 p 1 = 0) (h2 : gi M 2 p 2 = 0) : PO o p M M' (xbI (m_U_readHead o p M) (fun r3 M2 => (if r3 = 0 then (b_U_read_23 o p 0 1 M2) else (xbI (m_U_readResource o p M2) (fun r5 M4 => (if r5 = 0 then (b_U_read_23 o p 0 1 M4) else (b_U_read_23 o p 1 1 M4))))))) (m_M_parseSetup 0 M') (Gst p) := by
  -- the block is cleared
  have clr : ∃ M1', m_M_parseSetup 0 M' = b_M_parseSetup_3 0 (zi ((316 : Nat) : Int)) M1' ∧ fz on280 M' M1' ∧ RB M1' (fun _ => 0) := by
    rw [e_m_M_parseSetup]
    refine lpM (B := fun i M1 => b_M_parseSetup_3 0 (zi (i : Nat)) M1) (n := 316) (fun i M1 => fz on280 M' M1 ∧ ∀ k, k < i → gi M1 28 0 k = zi 0) (fun r => ∃ M1', r = b_M_parseSetup_3 0 (zi ((316 : Nat) : Int)) M1' ∧ fz on280 M' M1' ∧ RB M1' (fun _ => 0)) (fun i M1 hi ⟨f, g⟩ => ?_) (fun M1 ⟨f, g⟩ => ⟨M1, rfl, f, g⟩) 0 M' (Nat.zero_le _) ⟨fz_refl M', fun k hk => absurd hk (Nat.not_lt_zero k)⟩
    refine ⟨xst M1 28 0 i (.int 0), ⟨fz_step f (on280_t hi), fun k hk => ?_⟩, ?_⟩
    · by_cases e : k = i
      · subst e; rw [gi_h]; rfl
      · rw [gi_s e]; exact g k (by omega)
    · show b_M_parseSetup_3 0 (zi (i : Nat)) M1 = _
      rw [e_b_M_parseSetup_3, show (316 : Int32) = zi ((316 : Nat) : Int) from rfl, if_pos (zi_ltn hi (by decide)), xck_n (by omega) (by decide), zix (by omega), zi_suc]
  obtain ⟨M1', e1', f1', hB1⟩ := clr
  have hR1 := RT_0 hR f1'
  rw [e1', e_b_M_parseSetup_3, show (316 : Int32) = zi ((316 : Nat) : Int) from rfl, if_neg (zi_irr _), r_isWord hR1 (by decide), xbI_r, ite_b, e_m_U_readHead]
  refine PO_tr (fz_refl M) (onV8_0 f1') ?_
  cases hat : atW B n 0 8 with
  | false =>
    obtain ⟨M1, e1, f1, b1⟩ := s_op_no hC (lit := 8) (by decide) hat true
    have e1 : m_T_takeOpening o 8 1 M = rI (bz false) M1 := e1
    rw [if_neg (by decide), zi_lit1, r_wrong hR1.2.1.2.1 1, xbI_r, xnar_b, ← zi_lit1, e1, xbI_r, ite_bf, xnar_0, xbI_r, ite_bf, b23_no]
    exact PO_no (onC_21 f1) (onV_W fz_wrong) b1 ER_wrong
  | true =>
    obtain ⟨M1, e1, f1, t1⟩ := s_op_ok hC (lit := 8) (by decide) hat
    obtain ⟨M2', e2', f2', t2'⟩ := r_tk hR1
    rw [if_pos rfl, e1, xbI_r, ite_bt, e2', xbV_r]
    refine PO_tr (onC_8 f1) (onV_Q f2') ?_
    have hB2 : RB M2' (fun _ => 0) := RB_fz hB1 f2' (fun _ => onQ_k (by decide))
    obtain ⟨A, ea, fa, ga, na⟩ := s_number t1 (lo := 0) (hi := 3) (by omega) (by omega)
    obtain ⟨A', ea', fa', ga', na'⟩ := r_ranged t2' (a := 0) (by omega) (lo := 0) (hi := 3) (by omega) (by omega)
    have ea : m_T_takeNumber o 0 3 M1 = _ := ea
    have ea' : m_M_parseRanged 0 0 0 3 M2' = _ := ea'
    rw [ea, ea', xbI_r, xbI_r]
    by_cases cE : numE B n (tE B n 0) 0 3 = 0
    · obtain ⟨fa8, ta, qa⟩ := ga cE
      obtain ⟨fa8', ta', qa'⟩ := ga' cE
      have vb := numE_ok cE
      rw [decide_eq_true cE, ite_bt, ite_bt, qa.1]
      have f3 : fz (onPz p) A (xst A 2 p 0 (.int (zi (numV B n (tE B n 0))))) := fz_st (onPz_t (by decide) (by decide))
      have t3 := CT_P ta f3
      refine PO_tr (fz_trans (onC_8 fa8) (onC8_P f3)) (onV_Q1 (by omega) fa8') ?_
      have hB3 := RB_up hB2 qa'
      obtain ⟨D, ed, fd, gd, nd⟩ := s_semi t3
      obtain ⟨D', ed', fd', gd', nd'⟩ := r_semi ta'
      rw [ed, ed', xbI_r, xbI_r, xnar_b, xbI_r]
      by_cases cS : semE B n (tE B n (tE B n 0)) = 0
      · obtain ⟨fd8, td, _⟩ := gd cS
        obtain ⟨fd8', td', _⟩ := gd' cS
        rw [decide_eq_true cS, ite_bt, ite_bt]
        refine PO_tr (onC_8 fd8) (onV_Q fd8') ?_
        have hB4 : RB D' (upI (fun _ => 0) 0 (numV B n (tE B n 0))) := RB_fz hB3 fd8' (fun _ => onQ_k (by decide))
        have b0 : ∀ k, k ≠ 0 → upI (fun _ => (0 : Int)) 0 (numV B n (tE B n 0)) k = 0 := fun k hk => upI_n hk
        have eT : nT (upI (fun _ => (0 : Int)) 0 (numV B n (tE B n 0))) = 0 := by
          unfold nT; rw [b0 2 (by decide)]; rfl
        have eR : nR (upI (fun _ => (0 : Int)) 0 (numV B n (tE B n 0))) = 0 := by
          unfold nR; rw [b0 1 (by decide)]; rfl
        have hQ : wQ (upI (fun _ => (0 : Int)) 0 (numV B n (tE B n 0))) 0 := by
          refine ⟨⟨by rw [b0 2 (by decide)]; decide, by rw [b0 1 (by decide)]; decide, fun t ht => by rw [eT] at ht; omega, fun r hr => by rw [eR] at hr; omega⟩, by rw [upI_h]; exact vb, fun r hr => by rw [eR] at hr; omega, fun t ht => by rw [eT] at ht; omega, fun f t hf ht => by rw [b0 _ (by omega)]; exact ⟨Or.inl rfl, fun q => absurd q (by decide)⟩⟩
        have k1 : gi D 2 p 1 = zi 0 := by
          rw [fz_gi fd8 (on8_k (by decide)), gi_s (by decide), fz_gi fa8 (on8_k (by decide)), fz_gi f1 (on8_k (by decide)), h1]; rfl
        have k2 : gi D 2 p 2 = zi 0 := by
          rw [fz_gi fd8 (on8_k (by decide)), gi_s (by decide), fz_gi fa8 (on8_k (by decide)), fz_gi f1 (on8_k (by decide)), h2]; rfl
        have k0 : gi D 2 p 0 = zi (numV B n (tE B n 0)) := by
          rw [fz_gi fd8 (on8_k (by decide)), gi_h]
        have hP : CP D p (upI (fun _ => (0 : Int)) 0 (numV B n (tE B n 0))) := by
          refine ⟨⟨by rw [eT]; omega, by rw [eR]; omega⟩, ⟨by rw [k0, upI_h], by rw [k1, eR]; rfl, by rw [k2, eT]; rfl⟩, fun t ht => by rw [eT] at ht; omega, fun r hr => by rw [eR] at hr; omega, fun t r ht _ => by rw [eT] at ht; omega⟩
        rw [r_isWord td' (by decide), xbI_r, ite_b]
        cases hat9 : atW B n (tE B n (tE B n (tE B n 0))) 9 with
        | false =>
          obtain ⟨F, ef, ff, bf⟩ := s_res_no (p := p) td hat9
          rw [if_neg (by decide), ef, xbI_r, ite_bf, b23_no, zi_lit1, r_wrong td'.2.1.2.1 1, xbI_r, xnar_b]
          exact PO_no (onC_21 ff) (onV_W fz_wrong) bf ER_wrong
        | true =>
          rw [if_pos rfl, e_b_M_parseSetup_43, r_isWord td' (by decide), xbI_r, hat9, ite_bt]
          refine PO_bind (both_res ⟨td, td', hP, hB4⟩ hQ eT hat9) (fun M1 => by rw [ite_bf, b23_no]) (fun M1 => by rw [ite_bf, xnar_0]) (fun F F' ⟨pos1, b1, hP1, hQ1, hT1, hR1⟩ => ?_)
          rw [ite_bt, ite_bt]
          exact both_t1 3 1 F F' pos1 b1 (by decide) (by decide) hP1 hQ1 hT1 (by omega)
      · rw [decide_eq_false cS, ite_bf, ite_bf, b23_no, xnar_0]
        exact PO_no (onC_21 fd) fd' (nd cS) (nd' cS)
    · rw [decide_eq_false cE, ite_bf, ite_bf, xnar_0, xbI_r, ite_bf, b23_no]
      exact PO_no (onC_21 fa) fa' (na cE) (na' cE)
