/-! both read a resource -/
theorem PO_tr {o p : Nat} {M M' M1 M1' : xM} {r r' : xR} {G : xM → xM → Prop} (f : fz (onC8 o p) M M1) (f' : fz onV8 M' M1') (h : PO o p M1 M1' r r' G) : PO o p M M' r r' G := by
  obtain ⟨ok, A, A', h1, h2, h3, h4, h5, h6⟩ := h
  exact ⟨ok, A, A', h1, h2, fz_trans (onC8_C f) h3, fz_trans (onV8_V f') h4, fun q => ⟨fz_trans f (h5 q).1, fz_trans f' (h5 q).2.1, (h5 q).2.2⟩, h6⟩
theorem both_tk {o p : Nat} {B : Nat → Int} {n pos : Nat} {M M' : xM} {r r' : xR} {E : Nat} {K : Nat → Nat → Nat → Bool} {Q Q' : xM → Prop} (h1 : tkR o B n pos M r E Q) (h2 : rkR K B n pos M' r' E Q') {G : xM → xM → Prop} {k k' : xM → xR} (hk : ∀ M1 M1', fz (on8 o) M M1 → fz K M' M1' → CT M1 o B n (tE B n pos) → RT M1' B n (tE B n pos) → Q M1 → Q' M1' → E = 0 → PO o p M M' (k M1) (k' M1') G) : PO o p M M' (xbI r (fun r M1 => if r = 0 then rI (xnar 1 0) M1 else k M1)) (xbI r' (fun r M1 => if r = 0 then rI (xnar 1 0) M1 else k' M1)) G := by
  obtain ⟨M1, e1, f1, a1, b1⟩ := h1
  obtain ⟨M2, e2, f2, a2, b2⟩ := h2
  rw [e1, e2, xbI_r, xbI_r, xnar_0]
  by_cases c : E = 0
  · obtain ⟨f1', t1, q1⟩ := a1 c
    obtain ⟨f2', t2, q2⟩ := a2 c
    rw [decide_eq_true c, ite_bt, ite_bt]
    exact hk M1 M2 f1' f2' t1 t2 q1 q2 c
  · rw [decide_eq_false c, ite_bf, ite_bf]
    exact PO_no (onC_21 f1) f2 (b1 c) (b2 c)
/-- the last taking of a part -/
theorem both_tk1 {o p : Nat} {B : Nat → Int} {n pos : Nat} {M M' : xM} {r r' : xR} {E : Nat} {K : Nat → Nat → Nat → Bool} {Q Q' : xM → Prop} (h1 : tkR o B n pos M r E Q) (h2 : rkR K B n pos M' r' E Q') {G : xM → xM → Prop} {k' : xM → xR} (hk : ∀ M1 M1', fz (on8 o) M M1 → fz K M' M1' → CT M1 o B n (tE B n pos) → RT M1' B n (tE B n pos) → Q M1 → Q' M1' → E = 0 → PO o p M M' (rI (bz true) M1) (k' M1') G) : PO o p M M' (xbI r (fun r M1 => rI (xnar 1 r) M1)) (xbI r' (fun r M1 => if r = 0 then rI (xnar 1 0) M1 else k' M1)) G := by
  obtain ⟨M1, e1, f1, a1, b1⟩ := h1
  obtain ⟨M2, e2, f2, a2, b2⟩ := h2
  rw [e1, e2, xbI_r, xbI_r, xnar_0, xnar_b]
  by_cases c : E = 0
  · obtain ⟨f1', t1, q1⟩ := a1 c
    obtain ⟨f2', t2, q2⟩ := a2 c
    rw [decide_eq_true c, ite_bt]
    exact hk M1 M2 f1' f2' t1 t2 q1 q2 c
  · rw [decide_eq_false c, ite_bf]
    exact PO_no (onC_21 f1) f2 (b1 c) (b2 c)
theorem PO_yes {o p : Nat} {M M' M1 M1' : xM} {G : xM → xM → Prop} (h1 : fz (onC8 o p) M M1) (h2 : fz onV8 M' M1') (h3 : G M1 M1') : PO o p M M' (rI (bz true) M1) (rI (bz true) M1') G := ⟨true, M1, M1', rfl, rfl, onC8_C h1, onV8_V h2, fun _ => ⟨h1, h2, h3⟩, fun q => (nomatch q)⟩
theorem opE_at {B : Nat → Int} {n pos lit : Nat} {room : Bool} (h : atW B n pos lit = true) : opE B n pos lit room = if room = true then 0 else 5 := by
  unfold opE; rw [if_pos h]
theorem opE_no {B : Nat → Int} {n pos lit : Nat} {room : Bool} (h : atW B n pos lit = false) : opE B n pos lit room = 1 := by
  unfold opE; rw [h, if_neg (by decide)]
theorem s_open1 {M : xM} {o : Nat} {B : Nat → Int} {n p lit : Nat} (h : CT M o B n p) (hl : lit < 12) : tkR o B n p M (m_T_takeOpening o lit 1 M) (opE B n p lit true) (fun _ => True) := s_opening h hl true
theorem s_open0 {M : xM} {o : Nat} {B : Nat → Int} {n p lit : Nat} (h : CT M o B n p) (hl : lit < 12) : tkR o B n p M (m_T_takeOpening o lit 0 M) (opE B n p lit false) (fun _ => True) := s_opening h hl false
/-- the first part of reading: an opening that is there -/
theorem s_op_ok {M : xM} {o : Nat} {B : Nat → Int} {n p lit : Nat} (h : CT M o B n p) (hl : lit < 12) (hat : atW B n p lit = true) : ∃ M1, m_T_takeOpening o lit 1 M = rI (bz true) M1 ∧ fz (on8 o) M M1 ∧ CT M1 o B n (tE B n p) := by
  obtain ⟨M1, e1, f1, a1, _⟩ := s_open1 h hl
  rw [opE_at hat] at e1 a1
  exact ⟨M1, e1, (a1 rfl).1, (a1 rfl).2.1⟩
theorem s_op_full {M : xM} {o : Nat} {B : Nat → Int} {n p lit : Nat} (h : CT M o B n p) (hl : lit < 12) (hat : atW B n p lit = true) : ∃ M1, m_T_takeOpening o lit 0 M = rI (bz false) M1 ∧ fz (on21 o) M M1 ∧ EC M1 o 5 (tF B n p) := by
  obtain ⟨M1, e1, f1, _, b1⟩ := s_open0 h hl
  rw [opE_at hat] at e1 b1
  exact ⟨M1, e1, f1, b1 (by decide)⟩
theorem s_op_no {M : xM} {o : Nat} {B : Nat → Int} {n p lit : Nat} (h : CT M o B n p) (hl : lit < 12) (hat : atW B n p lit = false) (room : Bool) : ∃ M1, m_T_takeOpening o lit (bz room) M = rI (bz false) M1 ∧ fz (on21 o) M M1 ∧ EC M1 o 1 (tF B n p) := by
  obtain ⟨M1, e1, f1, _, b1⟩ := s_opening h hl room
  rw [opE_no hat] at e1 b1
  exact ⟨M1, e1, f1, b1 (by decide)⟩
/-- a class's reading that isn't at its word -/
theorem s_res_no {M : xM} {o p : Nat} {B : Nat → Int} {n pos : Nat} (h : CT M o B n pos) (hat : atW B n pos 9 = false) : ∃ M1, m_U_readResource o p M = rI (bz false) M1 ∧ fz (on21 o) M M1 ∧ EC M1 o 1 (tF B n pos) := by
  obtain ⟨M1, e1, f1, b1⟩ := s_op_no h (lit := 9) (by decide) hat true
  obtain ⟨M2, e2, f2, b2⟩ := s_op_no h (lit := 9) (by decide) hat false
  have e1 : m_T_takeOpening o 9 1 M = rI (bz false) M1 := e1
  have e2 : m_T_takeOpening o 9 0 M = rI (bz false) M2 := e2
  rw [e_m_U_readResource, e1, e2, xbI_r, xbI_r, ite_bf, ite_bf, xnar_0]
  split
  · exact ⟨M1, rfl, f1, b1⟩
  · exact ⟨M2, rfl, f2, b2⟩
theorem s_task_no {M : xM} {o p : Nat} {B : Nat → Int} {n pos : Nat} (h : CT M o B n pos) (hat : atW B n pos 11 = false) : ∃ M1, m_U_readTask o p M = rI (bz false) M1 ∧ fz (on21 o) M M1 ∧ EC M1 o 1 (tF B n pos) := by
  obtain ⟨M1, e1, f1, b1⟩ := s_op_no h (lit := 11) (by decide) hat true
  obtain ⟨M2, e2, f2, b2⟩ := s_op_no h (lit := 11) (by decide) hat false
  have e1 : m_T_takeOpening o 11 1 M = rI (bz false) M1 := e1
  have e2 : m_T_takeOpening o 11 0 M = rI (bz false) M2 := e2
  rw [e_m_U_readTask, e1, e2, xbI_r, xbI_r, ite_bf, ite_bf, xnar_0]
  split
  · exact ⟨M1, rfl, f1, b1⟩
  · exact ⟨M2, rfl, f2, b2⟩
/-- what is read off packed words that are no words is something -/
theorem s_resN {M : xM} {p : Nat} {b : Nat → Int} (h : CP M p b) (w : Int64) : ∃ x : Int, m_P_resourceNamed p w M = rI (zi x) M ∧ x = fnd (fun r => decide (pk b (4 + 8 * r) = w)) (nR b) ∧ -1 ≤ x ∧ x ≤ 3 := by
  have hn := CP_r h
  have := fnd_bd (fun r => decide (pk b (4 + 8 * r) = w)) (nR b)
  exact ⟨_, s_resNamed h w, rfl, by omega, by omega⟩
theorem s_taskN {M : xM} {p : Nat} {b : Nat → Int} (h : CP M p b) (w : Int64) : ∃ x : Int, m_P_taskNamed p w M = rI (zi x) M ∧ x = fnd (fun t => decide (pk b (28 + 12 * t) = w)) (nT b) ∧ -1 ≤ x ∧ x ≤ 12 := by
  have hn := CP_n h
  have := fnd_bd (fun t => decide (pk b (28 + 12 * t) = w)) (nT b)
  exact ⟨_, s_taskNamed h w, rfl, by omega, by omega⟩
def rsB (b : Nat → Int) (B : Nat → Int) (f k : Nat) (v : Int) : Nat → Int := upI (upI (pnB b (4 + 8 * nR b) B f k) (11 + 8 * nR b) v) 1 (nR b + 1)
theorem both_res {M M' : xM} {o p : Nat} {B : Nat → Int} {n pos : Nat} {b : Nat → Int} (h : PP M M' o p B n pos b) (hQ : wQ b 0) (hT0 : nT b = 0) (hat : atW B n pos 9 = true) : PO o p M M' (m_U_readResource o p M) (m_M_parseNewResource 0 M') (fun M1 M1' => ∃ pos' b', PP M1 M1' o p B n pos' b' ∧ wQ b' 0 ∧ nT b' = 0 ∧ nR b' = nR b + 1) := by
  obtain ⟨hC, hR, hP, hB⟩ := h
  have eT := wN_T hQ.1
  have eR := wN_R hQ.1
  have v1 : gi M' 28 0 (ix 1) = zi (nR b) := by rw [ix_1, hB 1 (by decide), eR.1]
  rw [e_m_U_readResource, CP_R hP, e_m_M_parseNewResource, xck_1, v1, zi_03, zif (by omega) (by omega) (by decide) (by decide), zife (by omega) (by omega) (by decide) (by decide)]
  by_cases c3 : (nR b : Int) = 3
  · -- too many
    obtain ⟨M1, e1, f1, b1⟩ := s_op_full hC (lit := 9) (by decide) hat
    rw [if_neg (by omega), if_pos c3, e1, xbI_r, ite_bf, xnar_0, zi_lit5, r_wrong hR.2.1.2.1 5, xbI_r, xnar_b]
    exact PO_no (onC_21 f1) (onV_W fz_wrong) b1 ER_wrong
  · obtain ⟨M1, e1, f1, t1⟩ := s_op_ok hC (lit := 9) (by decide) hat
    obtain ⟨M1', e1', f1', t1'⟩ := r_tk hR
    have hP1 := CP_8 hP f1
    have hB1 : RB M1' b := RB_fz hB f1' (fun _ => onQ_k (by decide))
    obtain ⟨x, ex, ex2, ex3, ex4⟩ := s_resN hP1 (gl M1 21 o 4)
    rw [if_pos (by omega), if_neg c3, e1, xbI_r, ite_bt, e1', xbV_r, ex, xbI_r]
    refine PO_tr (onC_8 f1) (onV_Q f1') ?_
    have hb := tE_bd (B := B) t1'.2.1.1
    have hn := t1'.1.1
    have v1' : gi M1' 28 0 (ix 1) = zi (nR b) := by rw [ix_1, hB1 1 (by decide), eR.1]
    refine both_new (a := 4 + 8 * nR b) (y := fnd (fun r => nmE b (4 + 8 * r) B (tF B n (tE B n pos)) (tE B n (tE B n pos) - tF B n (tE B n pos))) (nR b)) t1 t1' (by omega) (by omega) (fun c0 => ?_) (by have := fnd_bd (fun r => nmE b (4 + 8 * r) B (tF B n (tE B n pos)) (tE B n (tE B n pos) - tF B n (tE B n pos))) (nR b); omega) (k' := fun M6 => xbI (m_M_parseRanged 0 (zi (11 + 8 * nR b : Nat)) 1 9 M6) (fun r8 M7 => if r8 = 0 then rI (xnar 1 0) M7 else xbI (m_M_semicolon 0 M7) (fun r10 M9 => if r10 = 0 then rI (xnar 1 0) M9 else xck 1 3160 (xck 1 3160 (rI (xnar 1 1) (xst M9 28 0 (ix 1) (.int ((gi M9 28 0 (ix 1)) + 1))))))) ) (fun M2 => by rw [ite_bf, xnar_0]) (fun c0 c6 => ?_) (fun M3 M3' g3 g3' t3 t3' q3 hw3 hpn hx1 => ?_)
    · rw [ex2, (TC_w t1.2.1 c0).1]
      exact same_res hQ.1 t1.2.1.1 c0
    · -- the reference's look-up
      have e0 := r_resNamed hB1 hQ.1 t1'.2.2.2 (f := tF B n (tE B n pos)) (k := tE B n (tE B n pos) - tF B n (tE B n pos)) (by omega)
      rw [ite_bt, t1'.2.1.2.1, t1'.2.1.2.2.1, zi_sub, show ((tE B n (tE B n pos) : Nat) : Int) - ((tF B n (tE B n pos) : Nat) : Int) = ((tE B n (tE B n pos) - tF B n (tE B n pos) : Nat) : Int) by omega, e0, xbI_r, xck_1, v1', zi_04, zi_08, zi_07, zi_mul, zi_add, zi_add, show (4 : Int) + (nR b : Int) * 8 = ((4 + 8 * nR b : Nat) : Int) by omega, show ((4 + 8 * nR b : Nat) : Int) + 7 = ((11 + 8 * nR b : Nat) : Int) by omega]
      rfl
    · -- the number, the semicolon
      refine PO_tr (onC_8 g3) (onV_Qn (by omega) g3') ?_
      have hB3 := hpn b hB1
      refine both_tk (s_number t3 (lo := 1) (hi := 9) (by omega) (by omega)) (r_ranged t3' (a := 11 + 8 * nR b) (by omega) (lo := 1) (hi := 9) (by omega) (by omega)) (fun M4 M4' g4 g4' t4 t4' q4 q4' hE => ?_)
      have hP4 := CP_8 (CP_8 hP1 g3) g4
      have hB4 := RB_up hB3 q4'
      have tk6 : gl M4 21 o 6 = pw B (tF B n (tE B n pos)) (tE B n (tE B n pos) - tF B n (tE B n pos)) := q4.2.trans q3
      have vb := numE_ok hE
      have eM : zi (nR b : Int) + (1 : Int32) = zi ((nR b + 1 : Nat) : Int) := zi_suc (nR b)
      rw [xck_n (by omega) (by decide), xck_n (by omega) (by decide), zix (by omega), tk6, q4.1, CP_R hP4, eM]
      have f5 : fz (onPz p) M4 (xst (xst (xst M4 3 p (nR b) (.long (pw B (tF B n (tE B n pos)) (tE B n (tE B n pos) - tF B n (tE B n pos))))) 4 p (nR b) (.int (zi (numV B n (tE B n (tE B n pos)))))) 2 p 1 (.int (zi ((nR b + 1 : Nat) : Int)))) := fz_step (fz_step (fz_st (onPz_t (by decide) (by decide))) (onPz_t (by decide) (by decide))) (onPz_t (by decide) (by decide))
      have t5 := CT_P t4 f5
      refine PO_tr (fz_trans (onC_8 g4) (onC8_P f5)) (onV_Q1 (by omega) g4') ?_
      have nx2 : ∀ i, i ≠ 1 → (i < 4 + 8 * nR b ∨ 11 + 8 * nR b < i) → rsB b B (tF B n (tE B n pos)) (tE B n (tE B n pos) - tF B n (tE B n pos)) (numV B n (tE B n (tE B n pos))) i = b i := fun i h1 h2 => by
        unfold rsB
        rw [upI_n h1, upI_n (by omega), pnB_n (by omega)]
      have nRn : nR (rsB b B (tF B n (tE B n pos)) (tE B n (tE B n pos) - tF B n (tE B n pos)) (numV B n (tE B n (tE B n pos)))) = nR b + 1 := by
        unfold nR rsB
        rw [upI_h]
        unfold nR
        omega
      have nTn : nT (rsB b B (tF B n (tE B n pos)) (tE B n (tE B n pos) - tF B n (tE B n pos)) (numV B n (tE B n (tE B n pos)))) = 0 := by
        unfold nT
        rw [nx2 2 (by omega) (by omega)]
        exact hT0
      have capn : bC (rsB b B (tF B n (tE B n pos)) (tE B n (tE B n pos) - tF B n (tE B n pos)) (numV B n (tE B n (tE B n pos)))) (nR b) = numV B n (tE B n (tE B n pos)) := by
        unfold bC rsB
        rw [upI_n (by omega), upI_h]
      have capo : ∀ r, r < nR b → bC (rsB b B (tF B n (tE B n pos)) (tE B n (tE B n pos) - tF B n (tE B n pos)) (numV B n (tE B n (tE B n pos)))) r = bC b r := fun r hr => nx2 _ (by omega) (by omega)
      have nmo : ∀ r, r < nR b → ∀ w, w ≤ 6 → rsB b B (tF B n (tE B n pos)) (tE B n (tE B n pos) - tF B n (tE B n pos)) (numV B n (tE B n (tE B n pos))) (4 + 8 * r + w) = b (4 + 8 * r + w) := fun r hr w hw => nx2 _ (by omega) (by omega)
      have nmn : ∀ w, w ≤ 6 → rsB b B (tF B n (tE B n pos)) (tE B n (tE B n pos) - tF B n (tE B n pos)) (numV B n (tE B n (tE B n pos))) (4 + 8 * nR b + w) = pnB b (4 + 8 * nR b) B (tF B n (tE B n pos)) (tE B n (tE B n pos) - tF B n (tE B n pos)) (4 + 8 * nR b + w) := fun w hw => by
        unfold rsB
        rw [upI_n (by omega), upI_n (by omega)]
      have nb := nmB_pn (b := b) (a := 4 + 8 * nR b) hw3.1 hw3.2.1 hw3.2.2
      have hQ' : wQ (rsB b B (tF B n (tE B n pos)) (tE B n (tE B n pos) - tF B n (tE B n pos)) (numV B n (tE B n (tE B n pos)))) 0 := by
        refine ⟨⟨by rw [nx2 2 (by omega) (by omega)]; omega, ?_, fun t ht => by rw [nTn] at ht; omega, fun r hr => ?_⟩, by rw [nx2 0 (by omega) (by omega)]; exact hQ.2.1, fun r hr => ?_, fun t ht => by rw [nTn] at ht; omega, fun f t hf ht => ?_⟩
        · have : rsB b B (tF B n (tE B n pos)) (tE B n (tE B n pos) - tF B n (tE B n pos)) (numV B n (tE B n (tE B n pos))) 1 = nR b + 1 := by unfold rsB; exact upI_h _ _ _
          rw [this]; omega
        · rw [nRn] at hr
          by_cases e : r = nR b
          · subst e
            exact nmB_congr nb (nmn 0 (by omega)) (fun k hk => by
              have := nmn (1 + k) (by omega)
              rw [← Nat.add_assoc] at this
              exact this)
          · exact nmB_congr (hQ.1.2.2.2 r (by omega)) (nmo r (by omega) 0 (by omega)) (fun k hk => by
              have := nmo r (by omega) (1 + k) (by omega)
              rw [← Nat.add_assoc] at this
              exact this)
        · rw [nRn] at hr
          by_cases e : r = nR b
          · rw [e, capn]; exact vb
          · rw [capo r (by omega)]; exact hQ.2.2.1 r (by omega)
        · rw [nx2 _ (by omega) (by omega)]; exact hQ.2.2.2.2 f t hf ht
      have hP5 : CP (xst (xst (xst M4 3 p (nR b) (.long (pw B (tF B n (tE B n pos)) (tE B n (tE B n pos) - tF B n (tE B n pos))))) 4 p (nR b) (.int (zi (numV B n (tE B n (tE B n pos)))))) 2 p 1 (.int (zi ((nR b + 1 : Nat) : Int)))) p (rsB b B (tF B n (tE B n pos)) (tE B n (tE B n pos) - tF B n (tE B n pos)) (numV B n (tE B n (tE B n pos)))) := by
        refine ⟨⟨by rw [nTn]; omega, by rw [nRn]; omega⟩, ⟨?_, ?_, ?_⟩, fun t ht => by rw [nTn] at ht; omega, fun r hr => ?_, fun t r ht _ => by rw [nTn] at ht; omega⟩
        · rw [gi_s (by decide), gi_k (by decide), gi_k (by decide), nx2 0 (by omega) (by omega)]; exact CP_0 hP4
        · rw [gi_h, nRn]
        · rw [gi_s (by decide), gi_k (by decide), gi_k (by decide), nTn]
          have := CP_T hP4
          rw [hT0] at this
          exact this
        · rw [nRn] at hr
          by_cases e : r = nR b
          · subst e
            refine ⟨by rw [gi_k (by decide), gi_h, capn], ?_⟩
            rw [gl_k (by decide), gl_k (by decide), gl_h]
            rw [← pk_pn (b := b) (a := 4 + 8 * nR b)]
            exact (pk_congr (a := 4 + 8 * nR b) (a' := 4 + 8 * nR b) (nmn 0 (by omega)) (fun k hk => by
              rw [pnB_h] at hk
              have := nmn (1 + k) (by omega)
              rw [← Nat.add_assoc] at this
              exact this)).symm
          · refine ⟨by rw [gi_k (by decide), gi_s e, capo r (by omega)]; exact CP_C hP4 (by omega), ?_⟩
            rw [gl_k (by decide), gl_k (by decide), gl_s e, CP_M hP4 (by omega)]
            have l6 := (hQ.1.2.2.2 r (by omega)).1
            exact (pk_congr (a := 4 + 8 * r) (a' := 4 + 8 * r) (nmo r (by omega) 0 (by omega)) (fun k hk => by
              have := nmo r (by omega) (1 + k) (by omega)
              rw [← Nat.add_assoc] at this
              exact this)).symm
      refine both_tk1 (s_semi t5) (r_semi t4') (fun M6 M6' g6 g6' t6 t6' _ q6 _ => ?_)
      have hB6 : RB M6' (upI (pnB b (4 + 8 * nR b) B (tF B n (tE B n pos)) (tE B n (tE B n pos) - tF B n (tE B n pos))) (11 + 8 * nR b) (numV B n (tE B n (tE B n pos)))) := RB_fz hB4 g6' (fun _ => onQ_k (by decide))
      have v6 : gi M6' 28 0 (ix 1) = zi (nR b) := by
        rw [ix_1, hB6 1 (by decide), upI_n (by omega), pnB_n (by omega), eR.1]
      rw [xck_1, xck_1, v6, eM, xnar_1, ix_1]
      have f7 : fz on280 M6' (xst M6' 28 0 1 (.int (zi ((nR b + 1 : Nat) : Int)))) := fz_st (on280_t (by decide))
      exact PO_yes (onC_8 g6) (fz_trans (onV_Q g6') (onV8_0 f7)) ⟨_, _, ⟨t6, RT_0 t6' f7, CP_8 hP5 g6, RB_st hB6⟩, hQ', nTn, nRn⟩
