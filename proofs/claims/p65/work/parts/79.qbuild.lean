/-! the law's schedule, round by round -/
/-- what the law alone makes -/
def onLw (k o _s : Nat) : Bool := ((Nat.ble 27 k && Nat.blt k 60) || Nat.ble 227 k) || ((Nat.beq k 101 && Nat.ble 27 o) || Nat.beq k 100)
theorem ble_ff {a c : Nat} (h : ¬ a ≤ c) : Nat.ble a c = false := by
  cases e : Nat.ble a c with
  | false => rfl
  | true => exact absurd (Nat.le_of_ble_eq_true e) h
theorem onLw_no {k o s : Nat} (h1 : k < 27 ∨ (60 ≤ k ∧ k < 227)) (h3 : k ≠ 101 ∨ o < 27) (h4 : k ≠ 100) : onLw k o s = false := by
  unfold onLw
  have e1 : (Nat.ble 27 k && Nat.blt k 60) = false := by
    rcases h1 with h | h
    · rw [ble_ff (by omega)]; rfl
    · rw [show Nat.blt k 60 = Nat.ble (k + 1) 60 from rfl, ble_ff (show ¬ k + 1 ≤ 60 by omega), Bool.and_false]
  have e2 : (Nat.beq k 101 && Nat.ble 27 o) = false := by
    rcases h3 with h | h
    · rw [beq_ff h]; rfl
    · rw [ble_ff (show ¬ 27 ≤ o by omega), Bool.and_false]
  rw [e1, e2, beq_ff h4, ble_ff (show ¬ 227 ≤ k by omega)]
  rfl
theorem onLw_is {k o s : Nat} (h : onLw k o s = false) : (k < 27 ∨ 60 ≤ k) ∧ k < 227 ∧ (k ≠ 101 ∨ o < 27) ∧ k ≠ 100 := by
  unfold onLw at h
  rw [Bool.or_eq_false_iff, Bool.or_eq_false_iff, Bool.or_eq_false_iff, Bool.and_eq_false_iff, Bool.and_eq_false_iff] at h
  obtain ⟨⟨h1, h2⟩, h3, h4⟩ := h
  refine ⟨?_, ?_, ?_, ?_⟩
  · rcases h1 with q | q
    · exact Or.inl (Nat.lt_of_not_le (fun l => by rw [Nat.ble_eq_true_of_le l] at q; cases q))
    · exact Or.inr (Nat.le_of_not_lt (fun l => by rw [blt_t l] at q; cases q))
  · exact Nat.lt_of_not_le (fun l => by rw [Nat.ble_eq_true_of_le l] at h2; cases h2)
  · rcases h3 with q | q
    · exact Or.inl (fun e => by rw [e] at q; cases q)
    · exact Or.inr (Nat.lt_of_not_le (fun l => by rw [Nat.ble_eq_true_of_le l] at q; cases q))
  · exact fun e => by rw [e] at h4; cases h4
theorem good_Z {M M' : xM} (f : fz onLw M M') (h : xgood (xsl 0) M = true) : xgood (xsl 0) M' = true := by
  have hL : (xsl 0).all (fun q => Nat.blt q.1 27) = true := by decide +kernel
  unfold xgood at h ⊢
  refine List.all_eq_true.mpr (fun q hq => ?_)
  have g1 := List.all_eq_true.mp h q hq
  have l : q.1 < 27 := Nat.le_of_ble_eq_true (List.all_eq_true.mp hL q hq)
  have e1 : gn M' 101 q.1 0 = gn M 101 q.1 0 := fz_gn f (onLw_no (Or.inr (by decide)) (Or.inr l) (by decide))
  have e2 : ∀ o f', gn M' (200 + q.1) o f' = gn M (200 + q.1) o f' := fun o f' => fz_gn f (onLw_no (by omega) (by omega) (by omega))
  rw [e1, xgdF_lt e2, xgdA_lt e2]
  exact g1
theorem CI_Z {M M' : xM} {b : Nat → Int} (h : CI M b) (f : fz onLw M M') : CI M' b := by
  obtain ⟨h1, h2, h3, c, w, h4, h5, h6, h7⟩ := h
  exact ⟨h1, CP_fz h2 f (fun k s a d => onLw_no (by omega) (by omega) (by omega)), good_Z f h3, c, w, h4, h5, (fz_gi f rfl).trans h6, (fz_gi f rfl).trans h7⟩
theorem A_Z {M M' : xM} (f : fz onA M M') : fz onLw M M' := fun k o s q => f k o s (by
  have := onLw_is q
  exact onA_no (by omega) (by omega) (by omega) (by omega))
/-- a schedule being made: the start days of plan o -/
def onBq (a k o s : Nat) : Bool := (Nat.beq k 28 && Nat.beq o a) || onA k o s
theorem onBq_is {a k o s : Nat} (h : onBq a k o s = false) : ¬ (k = 28 ∧ o = a) ∧ onA k o s = false := by
  unfold onBq at h
  rw [Bool.or_eq_false_iff] at h
  refine ⟨fun e => ?_, h.2⟩
  obtain ⟨rfl, rfl⟩ := e
  have := h.1
  rw [Nat.beq_refl, Nat.beq_refl] at this
  cases this
theorem onBq_no {a k o s : Nat} (h1 : k ≠ 28) (h2 : onA k o s = false) : onBq a k o s = false := by
  unfold onBq
  rw [beq_ff h1, h2]
  rfl
theorem B_A {a : Nat} {M M' : xM} (f : fz onA M M') : fz (onBq a) M M' := fun k o s q => f k o s (onBq_is q).2
theorem B_st {a s : Nat} {M : xM} {v : Value} : fz (onBq a) M (xst M 28 a s v) := fun k o s' q => by
  unfold xst
  rw [if_neg]
  rintro ⟨rfl, rfl, -⟩
  exact (onBq_is q).1 ⟨rfl, rfl⟩
theorem B_Z {a : Nat} {M M' : xM} (f : fz (onBq a) M M') : fz onLw M M' := fun k o s q => f k o s (by
  have := onLw_is q
  exact onBq_no (by omega) (onA_no (by omega) (by omega) (by omega) (by omega)))
theorem QS_B {M M' : xM} {o a : Nat} {b : Nat → Int} (h : QS M o b) (f : fz (onBq a) M M') : QS M' o b := by
  have n1 : ∀ s, onBq a 227 o s = false := fun s => onBq_no (by decide) (onA_no (by decide) (by decide) (Or.inl (by decide)) (by decide))
  have n2 : ∀ s, onBq a 27 o s = false := fun s => onBq_no (by decide) (onA_no (by decide) (by decide) (Or.inl (by decide)) (by decide))
  exact ⟨CI_Z h.1 (B_Z f), ⟨(fz_gn f (n1 0)).trans h.2.1.1, (fz_gn f (n1 2)).trans h.2.1.2⟩, (fz_gi f (n2 1)).trans h.2.2.1, h.2.2.2⟩
theorem QL_B {M M' : xM} {o a : Nat} {b : Nat → Int} (h : QL M o b) (f : fz (onBq a) M M') : QL M' o b :=
  ⟨QS_B h.1 f, (fz_gi f (onBq_no (by decide) (onA_no (by decide) (by decide) (Or.inl (by decide)) (by decide)))).trans h.2⟩
theorem RO_st {M : xM} {k o s : Nat} {v : Value} (hk : k ≠ 100) : RO M (xst M k o s v) 0 0 := ⟨Nat.le_of_eq (gn_k (Ne.symm hk)), Nat.le_of_eq (gn_k (Ne.symm hk))⟩
theorem xbld_fill {M : xM} {o : Nat} {b : Nat → Int} {v : Int} (h : QL M o b) : ∃ M1, m_Q_build o (zi v) M = b_Q_build_19 o (zi v) 0 0 M1 ∧ fz (onBq o) M M1 ∧ RO M M1 0 0 ∧ QP M1 o b (fun _ => false) (fun _ => -1) := by
  have hn := CI_n h.1.1
  rw [e_m_Q_build]
  refine lpM (B := fun i N => b_Q_build_5 o (zi v) 0 (zi (i : Nat)) N) (n := nT b) (fun i N => fz (onBq o) M N ∧ RO M N 0 0 ∧ ∀ t, t < i → gi N 28 o t = zi (-1)) (fun r => ∃ M1, r = b_Q_build_19 o (zi v) 0 0 M1 ∧ fz (onBq o) M M1 ∧ RO M M1 0 0 ∧ QP M1 o b (fun _ => false) (fun _ => -1)) (fun i N hi V => ?_) (fun N V => ?_) 0 M (Nat.zero_le _) ⟨fz_refl M, RO_refl M, fun t ht => absurd ht (Nat.not_lt_zero t)⟩
  · obtain ⟨f, ro, g⟩ := V
    have f : fz (onBq o) M N := f
    have hN := QL_B h f
    refine ⟨xst N 28 o i (.int (zi (-1))), ⟨fz_trans f B_st, RO_trans ro (RO_st (by decide)), fun t ht => ?_⟩, ?_⟩
    · by_cases e : t = i
      · subst e; exact gi_h _ _ _ _ _
      · rw [gi_s e]; exact g t (by omega)
    · show b_Q_build_5 o (zi v) 0 (zi (i : Nat)) N = b_Q_build_5 o (zi v) 0 (zi ((i + 1 : Nat) : Int)) _
      rw [e_b_Q_build_5, hN.1.2.2.1, if_pos (zi_ltn hi (by omega)), if_pos hN.1.2.1.2, xck_n (by omega) (by decide), zix (by omega), zi_suc, zi_m1]
  · obtain ⟨f, ro, g⟩ := V
    have f : fz (onBq o) M N := f
    have hN := QL_B h f
    refine ⟨N, ?_, f, ro, fun t ht => ⟨g t ht, fun q => (nomatch q), fun _ => rfl⟩⟩
    show b_Q_build_5 o (zi v) 0 (zi (nT b : Nat)) N = _
    rw [e_b_Q_build_5, hN.1.2.2.1, if_neg (zi_irr _)]
theorem bst_n {el : Nat → Bool} {key : Nat → Int} (i : Nat) : bst el key (i + 1) = if el i && (decide (bst el key i = -1) || decide (key i < key (bst el key i).toNat)) then (i : Int) else bst el key i := rfl
/-- the choice of a round -/
theorem xbld_sel {M : xM} {o k : Nat} {b : Nat → Int} {v x : Int} {P : Nat → Bool} {s : Nat → Int} (h : QL M o b) (hv : 0 ≤ v ∧ v ≤ 3) (hp : QP M o b P s) : ∃ M1, b_Q_build_28 o (zi v) (zi x) (zi (k : Nat)) (-1) 0 M = b_Q_build_28 o (zi v) (zi x) (zi (k : Nat)) (zi (bst (elS b P) (keyS (upI b 0 v)) (nT b))) (zi (nT b)) M1 ∧ fz onA M M1 ∧ RO M M1 16 192 := by
  have hw := h.1.1.1.1
  have hn := CI_n h.1.1
  have hn8 := h.1.2.2.2
  rw [zi_m1]
  refine lpM (B := fun i N => b_Q_build_28 o (zi v) (zi x) (zi (k : Nat)) (zi (bst (elS b P) (keyS (upI b 0 v)) i)) (zi (i : Nat)) N) (n := nT b) (fun i N => fz onA M N ∧ RO M N (2 * i) (24 * i)) (fun r => ∃ M1, r = b_Q_build_28 o (zi v) (zi x) (zi (k : Nat)) (zi (bst (elS b P) (keyS (upI b 0 v)) (nT b))) (zi (nT b)) M1 ∧ fz onA M M1 ∧ RO M M1 16 192) (fun i N hi V => ?_) (fun N V => ?_) 0 M (Nat.zero_le _) ⟨fz_refl M, RO_refl M⟩
  · obtain ⟨f, ro⟩ := V
    have f : fz onA M N := f
    have hN := QL_A h f
    have hpN := QP_A hp f
    obtain ⟨g1, g2, g3⟩ := hpN i hi
    have ron : ∀ {N' : xM} {a c : Nat}, RO N N' a c → a ≤ 2 → c ≤ 24 → RO M N' (2 * (i + 1)) (24 * (i + 1)) := fun r h1 h2 => RO_le (RO_trans ro r) (by omega) (by omega)
    show ∃ N', (fz onA M N' ∧ RO M N' (2 * (i + 1)) (24 * (i + 1))) ∧ b_Q_build_28 o (zi v) (zi x) (zi (k : Nat)) (zi (bst (elS b P) (keyS (upI b 0 v)) i)) (zi (i : Nat)) N = b_Q_build_28 o (zi v) (zi x) (zi (k : Nat)) (zi (bst (elS b P) (keyS (upI b 0 v)) (i + 1))) (zi ((i + 1 : Nat) : Int)) N'
    rw [e_b_Q_build_28, hN.1.2.2.1, if_pos (zi_ltn hi (by omega)), if_pos hN.1.2.1.2, xck_n (by omega) (by decide), zix (by omega), g1, zi_suc, bst_n]
    cases hP : P i with
    | true =>
      have q := g2 hP
      have el : elS b P i = false := by unfold elS; rw [hP]; rfl
      refine ⟨N, ⟨f, ron (RO_refl N) (by decide) (by decide)⟩, ?_⟩
      rw [el, zi_00, zif (by omega) (by omega) (by decide) (by decide), if_neg (by omega), Bool.false_and, if_neg (by decide)]
    | false =>
      have q := g3 hP
      have el : elS b P i = allN (nT b) (fun f => !bL b f i || P f) := by unfold elS; rw [hP]; rfl
      rw [el, zi_00, zif (by omega) (by omega) (by decide) (by decide), if_pos (by omega), q_ready hN.1 hpN hi, xret_I, xbI_r]
      cases ha : allN (nT b) (fun f => !bL b f i || P f) with
      | false =>
        refine ⟨N, ⟨f, ron (RO_refl N) (by decide) (by decide)⟩, ?_⟩
        rw [show (if false = true then rdS b s i else (-1 : Int)) = -1 from rfl, zif (by decide) (by decide) (by decide) (by decide), if_pos (show (-1 : Int) < 0 by decide), Bool.false_and, if_neg (by decide)]
      | true =>
        have be := hw.2.2.2.2.1 i hi
        have r1 : 0 ≤ rdS b s i := Int.le_trans be.1 (mxF_a _ _ _ _)
        have r2 : rdS b s i ≤ 1030 := mxF_le (by omega) (fun q hq _ => by
          have := hw.2.2.2.1 q (by omega)
          obtain ⟨_, w2, w3⟩ := hpN q (by omega)
          cases hQ : P q with
          | false => have := w3 hQ; omega
          | true => have := w2 hQ; omega)
        rw [if_pos rfl, zif (by omega) (by omega) (by decide) (by decide), if_neg (by omega), Bool.true_and]
        rcases bst_ok (el := elS b P) (key := keyS (upI b 0 v)) (n := i) with ⟨b1, _⟩ | ⟨b1, b2, _⟩
        · refine ⟨N, ⟨f, ron (RO_refl N) (by decide) (by decide)⟩, ?_⟩
          rw [b1, zif (by decide) (by decide) (by decide) (by decide), if_pos (by decide), decide_eq_true rfl, Bool.true_or, if_pos rfl]
        · obtain ⟨N', e1, f1, ro1⟩ := q_isAhead hN hv (k := i) (l := (bst (elS b P) (keyS (upI b 0 v)) i).toNat) hi (by omega)
          rw [show (((bst (elS b P) (keyS (upI b 0 v)) i).toNat : Nat) : Int) = bst (elS b P) (keyS (upI b 0 v)) i by omega] at e1
          refine ⟨N', ⟨fz_trans f f1, ron ro1 (Nat.le_refl _) (Nat.le_refl _)⟩, ?_⟩
          rw [zif (by omega) (by omega) (by decide) (by decide), if_neg (by omega), e1, xret_I, xbI_r, ← zi_00, ite_b, decide_eq_false (show ¬ bst (elS b P) (keyS (upI b 0 v)) i = -1 by omega), Bool.false_or]
          by_cases c : keyS (upI b 0 v) i < keyS (upI b 0 v) (bst (elS b P) (keyS (upI b 0 v)) i).toNat
          · rw [decide_eq_true c, if_pos rfl, if_pos rfl]
          · rw [decide_eq_false c, if_neg (by decide), if_neg (by decide)]
  · obtain ⟨f, ro⟩ := V
    exact ⟨N, rfl, f, RO_le ro (by omega) (by omega)⟩
theorem q_build {M : xM} {o : Nat} {b : Nat → Int} {v : Int} (h : QL M o b) (hv : 0 ≤ v ∧ v ≤ 3) : ∃ M1, m_Q_build o (zi v) M = rI (zi (mkB (upI b 0 v))) M1 ∧ fz (onBq o) M M1 ∧ RO M M1 128 1536 ∧ QP M1 o b (fun t => decide (t < nT b)) (stB (upI b 0 v)) := by
  have hw := h.1.1.1.1
  have hn := CI_n h.1.1
  have hn8 := h.1.2.2.2
  have hc : wS (upI b 0 v) := (wF_rule h.1.1.1 (CP_r h.1.1.2.1) hv).1
  have en : nT (upI b 0 v) = nT b := r0_T b v
  obtain ⟨M0, e0, f0, ro0, p0⟩ := xbld_fill (v := v) h
  rw [e0]
  refine lpM (B := fun k N => b_Q_build_19 o (zi v) (zi (spS (upI b 0 v) k)) (zi (k : Nat)) N) (n := nT b) (fun k N => fz (onBq o) M N ∧ RO M N (16 * k) (192 * k) ∧ QP N o b (scS (upI b 0 v) k).1 (scS (upI b 0 v) k).2) (fun r => ∃ M1, r = rI (zi (mkB (upI b 0 v))) M1 ∧ fz (onBq o) M M1 ∧ RO M M1 128 1536 ∧ QP M1 o b (fun t => decide (t < nT b)) (stB (upI b 0 v))) (fun k N hk V => ?_) (fun N V => ?_) 0 M0 (Nat.zero_le _) ⟨f0, ro0, p0⟩
  · obtain ⟨f, ro, p⟩ := V
    have f : fz (onBq o) M N := f
    have p : QP N o b (scS (upI b 0 v) k).1 (scS (upI b 0 v) k).2 := p
    have hN := QL_B h f
    obtain ⟨t, t1, t2, t3, t4, t5⟩ := scS_next hc (show k < nT (upI b 0 v) by omega)
    rw [en] at t1 t2
    rw [r0_el] at t1 t3
    rw [r0_fit, r0_rd] at t4
    have i1 := scS_in hc k (by omega)
    have i2 := scS_in hc (k + 1) (by omega)
    have tp : (scS (upI b 0 v) (k + 1)).1 t = true := by rw [t5]; show (_ || (t == t)) = true; simp
    have i3 := i2.2.1 t (by omega) tp
    rw [r0_E, r0_D] at i3
    have sp := spS_ok hc k (by omega)
    have hD := hw.2.2.2.1 t t2
    have hE := hw.2.2.2.2.1 t t2
    have tn : (scS (upI b 0 v) k).1 t = false := elS_new t3
    have ta : allN (nT b) (fun f => !bL b f t || (scS (upI b 0 v) k).1 f) = true := allN_iff.mpr (fun x hx => by
      cases hb : bL b x t with
      | false => rfl
      | true => exact elS_pre t3 hx hb)
    have rd0 : 0 ≤ rdS b (scS (upI b 0 v) k).2 t := Int.le_trans hE.1 (mxF_a _ _ _ _)
    obtain ⟨N1, e1, f1, ro1⟩ := xbld_sel (k := k) (x := spS (upI b 0 v) k) hN hv p
    have hN1 := QL_A hN f1
    have p1 := QP_A p f1
    have wait : ∀ j : Nat, ∀ y : Int, y + j = (scS (upI b 0 v) (k + 1)).2 t → rdS b (scS (upI b 0 v) k).2 t ≤ y → b_Q_build_58 o (zi v) (zi (spS (upI b 0 v) k)) (zi (k : Nat)) (zi (t : Nat)) (zi y) N1 = b_Q_build_58 o (zi v) (zi (spS (upI b 0 v) k)) (zi (k : Nat)) (zi (t : Nat)) (zi ((scS (upI b 0 v) (k + 1)).2 t)) N1 := by
      intro j
      induction j with
      | zero => intro y hy _; rw [show y = (scS (upI b 0 v) (k + 1)).2 t by omega]
      | succ j ih =>
        intro y hy hr
        rw [← ih (y + 1) (by omega) (by omega)]
        have := t4.2.2 y hr (by omega)
        rw [e_b_Q_build_58, q_fits hN1.1 p1 t2 tn (by omega) (by omega), xret_I, xbI_r, ite_b, this, if_neg (by decide), zi_01, zi_add]
    have hgo := wait ((scS (upI b 0 v) (k + 1)).2 t - rdS b (scS (upI b 0 v) k).2 t).toNat (rdS b (scS (upI b 0 v) k).2 t) (by have := t4.1; omega) (Int.le_refl _)
    have f2 : fz (onBq o) M (xst N1 28 o t (.int (zi ((scS (upI b 0 v) (k + 1)).2 t)))) := fz_trans f (fz_trans (B_A f1) B_st)
    have hN2 := QL_B h f2
    refine ⟨_, ⟨f2, RO_le (RO_trans ro (RO_trans ro1 (RO_st (by decide)))) (by omega) (by omega), fun x hx => ?_⟩, ?_⟩
    · have e3 : (scS (upI b 0 v) (k + 1)).2 x = if x = t then (scS (upI b 0 v) (k + 1)).2 t else (scS (upI b 0 v) k).2 x := congrFun (congrArg Prod.snd t5) x
      have e4 : (scS (upI b 0 v) (k + 1)).1 x = ((scS (upI b 0 v) k).1 x || (x == t)) := congrFun (congrArg Prod.fst t5) x
      refine ⟨?_, fun q => ?_, fun q => i2.2.2.1 x q⟩
      · rw [e3]
        by_cases e : x = t
        · rw [if_pos e, e, gi_h]
        · rw [gi_s e, if_neg e]; exact (p1 x hx).1
      · have z := i2.2.1 x (by omega) q
        have zd := hw.2.2.2.1 x hx
        rw [r0_E, r0_D] at z
        omega
    · show b_Q_build_19 o (zi v) (zi (spS (upI b 0 v) k)) (zi (k : Nat)) N = b_Q_build_19 o (zi v) (zi (spS (upI b 0 v) (k + 1))) (zi ((k + 1 : Nat) : Int)) _
      rw [e_b_Q_build_19, hN.1.2.2.1, if_pos (zi_ltn hk (by omega)), e1, t1, e_b_Q_build_28, hN1.1.2.2.1, if_neg (zi_irr _), q_ready hN1.1 p1 t2, if_pos ta, xret_I, xbI_r, hgo, e_b_Q_build_58, q_fits hN1.1 p1 t2 tn (by omega) (by omega), xret_I, xbI_r, ite_b, if_pos t4.2.1, if_pos hN1.1.2.1.2, xck_n (by omega) (by decide), zix (by omega), if_pos hN1.1.2.1.1, gdc hN2.1.1 (xain1 _), c_dur hN2.1.1 t2, xret_I, xbI_r, zi_add, gd4 (xain4 _ _), s_max _ _ (by omega) (by omega) (by omega) (by omega), xret_I, xbI_r, zi_suc, spS_step (show bst (elS (upI b 0 v) _) (keyS (upI b 0 v)) (nT (upI b 0 v)) = (t : Int) by rw [en, r0_el]; exact t1), r0_D]
  · obtain ⟨f, ro, p⟩ := V
    have f : fz (onBq o) M N := f
    have p : QP N o b (scS (upI b 0 v) (nT b)).1 (scS (upI b 0 v) (nT b)).2 := p
    have hN := QL_B h f
    have es : (scS (upI b 0 v) (nT b)).1 = fun t => decide (t < nT b) := by
      funext t
      have := scS_all hc (t := t)
      rw [en] at this
      exact this
    have es2 : (scS (upI b 0 v) (nT b)).2 = stB (upI b 0 v) := by funext t; unfold stB; rw [en]
    rw [es, es2] at p
    refine ⟨N, ?_, f, RO_le ro (by omega) (by omega), p⟩
    show b_Q_build_19 o (zi v) (zi (spS (upI b 0 v) (nT b))) (zi (nT b : Nat)) N = _
    rw [e_b_Q_build_19, hN.1.2.2.1, if_neg (zi_irr _)]
    show _ = rI (zi (spS (upI b 0 v) (nT (upI b 0 v)))) N
    rw [en]
