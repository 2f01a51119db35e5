/-! calls: a capacity, back, kept, brought again -/
theorem r_capAny {M : xM} {b : Nat → Int} (h : RB M b) (hw : wS b) {r : Nat} (hr : r < nR b) {v : Int} (h1 : -2147483648 ≤ v) (h2 : v < 2147483648) : ∃ c : Bool, m_M_canHaveCapacity 0 (zi r) (zi v) M = rI (bz c) M := by
  have hn := wS_n hw
  have r3 : nR b ≤ 3 := by unfold nR; have := hw.2.1; omega
  have step : ∀ i, i < nT b → b_M_canHaveCapacity_3 0 (zi r) (zi v) (zi (i : Nat)) M = if v < bU b i r then rI (bz false) M else b_M_canHaveCapacity_3 0 (zi r) (zi v) (zi ((i + 1 : Nat) : Int)) M := fun i hi => by
    have a := hw.2.2.2.2.2.1 i r hi hr
    have c := hw.2.2.2.2.2.2.1 r hr
    rw [e_b_M_canHaveCapacity_3, xck_2, RB_T h hw, if_pos (zi_ltn hi (by omega)), r_U h (by omega) (by omega), xbI_r, zif (by omega) (by omega) (by omega) (by omega), xnar_0, zi_suc]
  have := lpAny (B := fun i : Nat => b_M_canHaveCapacity_3 0 (zi r) (zi v) (zi (i : Nat)) M) (n := nT b) (fun t => decide (v < bU b t r)) (R1 := rI (bz false) M) (R2 := rI (bz true) M) (fun i hi q => (step i hi).trans (if_neg (of_decide_eq_false q))) (fun i hi q => (step i hi).trans (if_pos (of_decide_eq_true q))) (by
    show b_M_canHaveCapacity_3 0 (zi r) (zi v) (zi (nT b : Nat)) M = _
    rw [e_b_M_canHaveCapacity_3, xck_2, RB_T h hw, if_neg (zi_irr _), xnar_1])
  rw [e_m_M_canHaveCapacity]
  by_cases q : anyN (nT b) (fun t => decide (v < bU b t r)) = true
  · rw [if_pos q] at this
    exact ⟨false, this⟩
  · rw [if_neg q] at this
    exact ⟨true, this⟩
theorem wF_cap {b : Nat → Int} (hw : wF b) {r : Nat} (hr0 : r < nR b) {v : Int} (hv : 1 ≤ v ∧ v ≤ 9) (hm : mxF (fun _ => true) (fun t => bU b t r) 0 (nT b) ≤ v) : wF (upI b (11 + 8 * r) v) := by
  have hn := wS_n hw.1
  have hr : nR b ≤ 3 := by unfold nR; have := hw.1.2.1; omega
  refine wF_up hw ⟨by omega, by omega⟩ (by omega) (fun q => by omega) (fun s hs => by omega) (fun r hr => by omega) (fun s hs q => by omega) (fun s hs q => by omega) (fun s r2 hs hr2 q2 => by omega) (fun r2 hr2 q3 => ?_)
  have : r2 = r := by omega
  subst this
  refine ⟨hv.1, hv.2, fun t ht => ?_⟩
  have := mxF_g (P := fun _ => true) (g := fun t => bU b t r2) (a := 0) ht rfl
  omega
theorem q_setCapacity {M : xM} (hI : Inv M) (x y : Int32) : QR PT M (m_L_setCapacity 0 x y 0 M) (m_M_setCapacity 0 x y) := by
  obtain ⟨x, rfl, h1, h2⟩ := zi_ex x
  obtain ⟨y, rfl, h3, h4⟩ := zi_ex y
  obtain ⟨hc, _, hc6, _, g3, _⟩ := hI.2.1
  have hw := hI.1.1
  have hn := CP_n hI.1.2
  have hr3 := CP_r hI.1.2
  have hU := hw.1.2.2.2.2.2.1
  have hC := hw.1.2.2.2.2.2.2.1
  have hBb := RB_bmp (RB_bk M)
  have rin : ∀ {N : xM}, m_M_in (zi y) 1 9 N = rI (bz (decide (1 ≤ y ∧ y ≤ 9))) N := fun {N} => r_inr (a := 1) (c := 9) h3 h4 (by decide) (by decide) (by decide) (by decide)
  by_cases c : 0 ≤ x ∧ x < nR (bk M 0)
  · obtain ⟨r, rfl⟩ : ∃ t : Nat, x = (t : Int) := ⟨x.toNat, by omega⟩
    have hr : r < nR (bk M 0) := by omega
    have hb : ∀ t, t < nT (bk M 0) → 0 ≤ bU (bk M 0) t r ∧ bU (bk M 0) t r < 1000 := fun t ht => by have := hU t r ht hr; have := hC r hr; omega
    have gr := s_greatest hI.1.2 hr hb
    have b1 : mxF (fun _ => true) (fun t => bU (bk M 0) t r) 0 (nT (bk M 0)) ≤ 1000 := mxF_le (by decide) (fun j hj _ => by have := hb j hj; omega)
    have b2 := mxF_a (fun _ => true) (fun t => bU (bk M 0) t r) 0 (nT (bk M 0))
    have cls : ∀ kL kH, xhI (m_C_setCapacity 0 (zi r) (zi y) M) kL kH = if 1 ≤ y ∧ y ≤ 9 then (if mxF (fun _ => true) (fun t => bU (bk M 0) t r) 0 (nT (bk M 0)) ≤ y then xhI (xbV (m_H_remember 0 9 M) (fun M4 => (xck (zi r) 3 (xbI (m_P_changeCapacity 9 (zi r) (zi y) M4) (fun r6 M5 => rI (gi M4 4 9 (ix (zi r))) M5))))) kL kH else kH 0 (xbump M 1 6)) else kH 1 (xbump M 1 6) := fun kL kH => by
      rw [e_m_C_setCapacity, s_reqR hI.1.2 h1 h2, if_pos c, xbV_r, zi_01, zi_09, zif h3 h4 (by decide) (by decide), zif (by decide) (by decide) h3 h4]
      by_cases q : y < 1
      · rw [if_pos q, if_neg (by omega), xhI_e]
      · rw [if_neg q]
        by_cases q2 : 9 < y
        · rw [if_pos q2, if_neg (by omega), xhI_e]
        · rw [if_neg q2, if_pos (by omega), gr, xbI_r, zif (by omega) (by omega) (by omega) (by omega)]
          by_cases q3 : y < mxF (fun _ => true) (fun t => bU (bk M 0) t r) 0 (nT (bk M 0))
          · rw [if_pos q3, if_neg (by omega), xhI_e]
          · rw [if_neg q3, if_pos (by omega)]
    by_cases d : 1 ≤ y ∧ y ≤ 9
    · by_cases d2 : mxF (fun _ => true) (fun t => bU (bk M 0) t r) 0 (nT (bk M 0)) ≤ y
      · obtain ⟨A, ea, hA⟩ := Inv_CH hI
        have cA := CH_CP hA hI.1.2
        have f2 : fr (onP 9) A (xst A 4 9 r (.int (zi y))) := fr_st rfl
        have hB := mid_RB (v := .long (Int32.toInt64 (zi (bC (bk M 0) r)))) hA f2
        obtain ⟨N1, e1, hN⟩ := r_rem hc6 (mid_27 (v := .long (Int32.toInt64 (zi (bC (bk M 0) r)))) (w := .int 0) hA f2 g3)
        have hB1 := RB_H (RB_9 (v := .int 0) hB) (RH_H hN)
        refine QR_chg (y := zi (bC (bk M 0) r)) (N2 := xst N1 28 0 (11 + 8 * r) (.int (zi y))) (b' := upI (bk M 0) (11 + 8 * r) y) hI hA f2 (CP_upC cA hw hr y) (wF_cap hw hr d d2) ?_ ?_ hN (BK_s (by omega)) (RB_st hB1) trivial
        · rw [e_m_L_setCapacity, cls, if_pos d, if_pos d2, ea, xbV_r, xck_n (by omega) (by decide), zix (by omega), CP_C cA hr, s_chC cA (fun t q ht hq => by have := hU t q ht hq; have := hC q hq; omega) h3 h4 h1 h2, Int.toNat_natCast, if_pos ⟨c, d, d2⟩, xbI_r, xhI_r, xck_01]
          rfl
        · have set : ∀ (A : xM) (v : Int32), m_M_setCapacityOf 0 (zi r) v A = rV (xst A 28 0 (11 + 8 * r) (.int v)) := fun A v => by
            rw [e_m_M_setCapacityOf, zi_04, zi_08, zi_07, zi_mul, zi_add, zi_add, xck_z (by omega) (by omega) (by decide), zixz (by omega) (by omega), show ((4 : Int) + (r : Int) * 8 + 7).toNat = 11 + 8 * r by omega]
          rw [e_m_M_setCapacity, r_isRes hB hw.1 h1 h2, xbI_r, decide_eq_true c, ite_bt, rin, xbI_r, decide_eq_true d, ite_bt, ite_bt, r_capOk hB hw.1 hr (by omega) (by omega), xbI_r, decide_eq_true d2, ite_bt, r_F0, e1, xbV_r, r_cap hB1 (by omega), xbI_r, set, xbV_r]
      · refine QR_f (c := 3) (v := 0) hI (by decide) ?_ ?_ (fz_refl _)
        · rw [e_m_L_setCapacity, cls, if_pos d, if_neg d2, if_neg (by decide), if_neg (by decide), if_pos rfl]
        · rw [e_m_M_setCapacity, r_isRes hBb hw.1 h1 h2, xbI_r, decide_eq_true c, ite_bt, rin, xbI_r, decide_eq_true d, ite_bt, ite_bt, r_capOk hBb hw.1 hr (by omega) (by omega), xbI_r, decide_eq_false d2, ite_bf, r_F3]
    · obtain ⟨cc, ec⟩ := r_capAny hBb hw.1 hr h3 h4
      refine QR_f (c := 2) (v := 0) hI (by decide) ?_ ?_ (fz_refl _)
      · rw [e_m_L_setCapacity, cls, if_neg d, if_neg (by decide), if_pos rfl]
      · rw [e_m_M_setCapacity, r_isRes hBb hw.1 h1 h2, xbI_r, decide_eq_true c, ite_bt, rin, xbI_r, decide_eq_false d, ite_bf, ite_bt, ec, xbI_r]
        cases cc with
        | true => rw [ite_bt, r_F2]
        | false => rw [ite_bf, r_F2]
  · refine QR_f (c := 1) (v := 0) hI (by decide) ?_ ?_ (fz_refl _)
    · rw [e_m_L_setCapacity, e_m_C_setCapacity, s_reqR hI.1.2 h1 h2, if_neg c, xbV_e, xhI_e, if_pos rfl]
    · rw [e_m_M_setCapacity, r_isRes hBb hw.1 h1 h2, xbI_r, decide_eq_false c, ite_bf, rin, xbI_r]
      by_cases d : 1 ≤ y ∧ y ≤ 9
      · rw [decide_eq_true d, ite_bt, ite_bf, r_F1]
      · rw [decide_eq_false d, ite_bf, ite_bf, r_F1]
/-- one step back -/
theorem q_undo {M : xM} (hI : Inv M) : QR PT M (m_L_undo 0 0 M) (m_M_undo 0) := by
  obtain ⟨c, w, g1, g2, g3, g4, g5, g6⟩ := hI.2.1
  by_cases z : c = 0
  · subst z
    refine QR_f (c := 1) (v := 0) hI (by decide) ?_ ?_ (fz_refl _)
    · rw [e_m_L_undo, e_m_C_undo, g4, if_pos (show zi ((0 : Nat) : Int) = 0 from rfl), xhI_e, if_pos rfl]
    · have e : gi (xbump M 1 6) 27 0 2 = 0 := (bump_gi (by decide)).trans g3
      rw [e_m_M_undo, e, if_pos rfl, r_F1]
  · obtain ⟨q1, q2⟩ := g6 0 (by omega)
    rw [Nat.sub_zero, Nat.sub_zero, show (w + 6) % 6 = w by omega] at q2
    rw [Nat.sub_zero] at q1
    -- the class
    obtain ⟨A, ea, fA, cA⟩ := s_copy M (p := w + 1) (q := 9) (by omega)
    have a1 : gi A 17 0 1 = zi w := (fr_gi fA (onP_k (by omega)) 1).trans g5
    have a2 : gi A 17 0 2 = zi c := (fr_gi fA (onP_k (by omega)) 2).trans g4
    have nz : ∀ {N : xM}, gi N 17 0 2 = zi c → ¬ gi N 17 0 2 = 0 := fun h q => by
      rw [h, zi_00, zi_eq (by omega) (by omega) (by decide) (by decide)] at q; omega
    have cls : ∃ A2, m_H_takeBack 0 9 M = rV A2 ∧ fz (fun k o s => Nat.beq k 17 && (Nat.beq o 0 && (Nat.beq s 1 || Nat.beq s 2))) A A2 ∧ gi A2 17 0 1 = zi ((w + 5) % 6 : Nat) ∧ gi A2 17 0 2 = zi ((c - 1 : Nat) : Int) := by
      have f : ∀ v v' : Value, fz (fun k o s => Nat.beq k 17 && (Nat.beq o 0 && (Nat.beq s 1 || Nat.beq s 2))) A (xst (xst A 17 0 1 v) 17 0 2 v') := fun v v' => fz_step (fz_st rfl) rfl
      rw [e_m_H_takeBack, g5, xck_n (by omega) (by decide), zix (by omega), ea, xbV_r, a1, zi_00, zif (by decide) (by decide) (by omega) (by omega)]
      by_cases q : (0 : Int) < w
      · rw [if_pos q]
        refine ⟨_, rfl, f _ _, ?_, ?_⟩
        · rw [gi_s (by decide), gi_h, zi_01, zi_sub]; exact congrArg zi (by omega)
        · rw [gi_h, gi_s (by decide), a2, zi_01, zi_sub]; exact congrArg zi (by omega)
      · rw [if_neg q]
        refine ⟨_, rfl, f _ _, ?_, ?_⟩
        · rw [gi_s (by decide), gi_h]
          show (5 : Int32) = _
          rw [zi_05]; exact congrArg zi (by omega)
        · rw [gi_h, gi_s (by decide), a2, zi_01, zi_sub]; exact congrArg zi (by omega)
    obtain ⟨A2, e2, f2, h17, h172⟩ := cls
    -- the reference
    have n28 : ∀ s, gi (xst (xst A2 39 0 0 (.long (Int32.toInt64 (zi ((c - 1 : Nat) : Int))))) 27 0 9 (.int 0)) 28 0 s = gi M 28 0 s := fun s => by
      rw [gi_k (by decide), gi_k (by decide), fz_gi f2 rfl, fr_gi fA (onP_k (by omega))]
    have n27 : gi (xst A2 39 0 0 (.long (Int32.toInt64 (zi ((c - 1 : Nat) : Int))))) 27 0 2 = zi c := by
      rw [gi_k (by decide), fz_gi f2 rfl, fr_gi fA (onP_k (by omega)), g3]
    have n27' : gi (xst (xst A2 39 0 0 (.long (Int32.toInt64 (zi ((c - 1 : Nat) : Int))))) 27 0 9 (.int 0)) 27 0 2 = zi c := (gi_s (by decide)).trans n27
    obtain ⟨N, en, fN, bN⟩ := r_copy (xst (xst A2 39 0 0 (.long (Int32.toInt64 (zi ((c - 1 : Nat) : Int))))) 27 0 9 (.int 0)) (i := c) (j := 0) (by omega) (by decide) z
    have on28_0 : ∀ {i k : Nat}, 1 ≤ i → on28 0 28 0 (316 * i + k) = false := fun {i k} hi => by
      unfold on28
      have : Nat.blt (316 * i + k) (316 * 0 + 316) = false := by
        cases e : Nat.blt (316 * i + k) (316 * 0 + 316) with
        | false => rfl
        | true =>
          have : 316 * i + k < 316 * 0 + 316 := Nat.le_of_ble_eq_true e
          omega
      rw [this, Bool.and_false, Bool.and_false]
    have bkM : ∀ i, bk (xst (xst A2 39 0 0 (.long (Int32.toInt64 (zi ((c - 1 : Nat) : Int))))) 27 0 9 (.int 0)) i = bk M i := fun i => bk_eq (fun k _ => n28 _)
    have j28 : ∀ {B C : xM}, fz (on28 0) B C → fz on280 B C := fun f => fz_mono (fun k o s h => by
      unfold on28 at h
      unfold on280
      obtain ⟨h1, h2⟩ := Bool.and_eq_true_iff.mp h
      obtain ⟨_, h3⟩ := Bool.and_eq_true_iff.mp h2
      rw [h1, Bool.true_and]
      exact h3) f
    have f3 := j28 fN
    have e27 : gi N 27 0 2 = zi c := (fz_gi f3 rfl).trans n27'
    have fAll : fz onAll M (xst N 27 0 2 (.int (zi ((c - 1 : Nat) : Int)))) := fz_trans (All_P ⟨by decide, by decide⟩ fA) (fz_trans (fz_mono (fun k o s h => by
      obtain ⟨h1, _⟩ := Bool.and_eq_true_iff.mp h
      obtain rfl := Nat.eq_of_beq_eq_true h1
      unfold onAll
      rw [show Nat.beq 17 17 = true from rfl, Bool.or_true, Bool.true_or, Bool.true_or]) f2) (fz_trans (fz_step (fz_st rfl) rfl) (fz_step (All_BK (BK_8 f3)) rfl)))
    have j17 : ∀ {B C : xM}, fz (fun k o s => Nat.beq k 17 && (Nat.beq o 0 && (Nat.beq s 1 || Nat.beq s 2))) B C → fz onJ B C := fun f => fz_mono (fun k o s h => by
      obtain ⟨h1, _⟩ := Bool.and_eq_true_iff.mp h
      obtain rfl := Nat.eq_of_beq_eq_true h1
      rfl) f
    have j1 : fz onJ M (xst A2 39 0 0 (.long (Int32.toInt64 (zi ((c - 1 : Nat) : Int))))) := fz_step (fz_trans (onJ_P9 fA) (j17 f2)) rfl
    have j2 : fz onJ (xst A2 39 0 0 (.long (Int32.toInt64 (zi ((c - 1 : Nat) : Int))))) (xst N 27 0 2 (.int (zi ((c - 1 : Nat) : Int)))) := fz_step (fz_trans (fz_st rfl) (onJ_280 f3)) rfl
    have k280 : ∀ {k p s : Nat}, 2 ≤ k → k ≤ 9 → on280 k p s = false := fun {k p s} a d => by
      unfold on280
      rw [beq_ff (show k ≠ 28 by omega), Bool.and_false]; rfl
    have cpN : ∀ {p : Nat} {b : Nat → Int}, CP A p b → CP (xst N 27 0 2 (.int (zi ((c - 1 : Nat) : Int)))) p b := fun {p b} h => by
      have q0 : CP A2 p b := CP_fz h f2 (fun k s a d => by rw [beq_ff (show k ≠ 17 by omega)]; rfl)
      have q1 : CP (xst (xst A2 39 0 0 (.long (Int32.toInt64 (zi ((c - 1 : Nat) : Int))))) 27 0 9 (.int 0)) p b := CP_fz q0 (fz_step (K := fun k _ _ => Nat.beq k 39 || Nat.beq k 27) (fz_st rfl) rfl) (fun k s a d => by rw [beq_ff (show k ≠ 39 by omega), beq_ff (show k ≠ 27 by omega)]; rfl)
      have q2 : CP N p b := CP_fz q1 f3 (fun k s a d => k280 a d)
      exact CP_fz q2 (fz_st (K := fun k _ _ => Nat.beq k 27) rfl) (fun k s a d => beq_ff (by omega))
    have bkF : ∀ i, bk (xst N 27 0 2 (.int (zi ((c - 1 : Nat) : Int)))) i = bk N i := fun i => bk_eq (fun k _ => gi_k (by decide))
    refine ⟨0, _, xst N 27 0 2 (.int (zi ((c - 1 : Nat) : Int))), zi ((c - 1 : Nat) : Int), ?_, ?_, ?_, fun _ => ⟨?_, trivial⟩, SF_J j1, SF_J j2, Inv_all hI fAll ⟨?_, ?_⟩ ⟨c - 1, (w + 5) % 6, by omega, Nat.mod_lt _ (by decide), gi_h _ _ _ _ _, ?_, ?_, fun j hj => ?_⟩, RM_le (RM_J (fz_trans j1 j2)) (by decide) (by decide)⟩
    · rw [e_m_L_undo, e_m_C_undo, if_neg (nz g4), e2, xbV_r, h172, xhI_r, xck_01]
      rfl
    · have sb : zi c - 1 = zi ((c - 1 : Nat) : Int) := by rw [zi_01, zi_sub]; exact congrArg zi (by omega)
      have en : m_M_copyBlock 0 (zi c) 0 _ = _ := en
      rw [e_m_M_undo, n27, if_neg (fun q => by rw [zi_00, zi_eq (by omega) (by omega) (by decide) (by decide)] at q; omega), r_F0, n27', en, xbV_r, e27, sb, gi_h]
    · rw [gi_s (by decide), fz_gi f3 rfl, gi_h]
    · rw [gl_k (by decide), fz_gl f3 rfl, gl_k (by decide), gl_h]
    · rw [bkF, bN, bkM]; exact q1
    · rw [bkF, bN, bkM]; exact cpN (cA _ q2)
    · rw [gi_k (by decide), fz_gi f3 rfl, gi_k (by decide), gi_k (by decide), h172]
    · rw [gi_k (by decide), fz_gi f3 rfl, gi_k (by decide), gi_k (by decide), h17]
    · obtain ⟨p1, p2⟩ := g6 (j + 1) (by omega)
      have eb : bk N (c - 1 - j) = bk M (c - (j + 1)) := by
        rw [show c - 1 - j = c - (j + 1) by omega]
        exact (bk_fz fN (fun k _ => on28_0 (by omega))).trans (bkM _)
      unfold PLN
      rw [bkF, eb]
      refine ⟨p1, ?_⟩
      have sl : ((w + 5) % 6 + 6 - j) % 6 = (w + 6 - (j + 1)) % 6 := by omega
      rw [sl]
      exact cpN (CP_fz p2 (fr_fz fA) (fun k s a d => onP_k (by omega)))
