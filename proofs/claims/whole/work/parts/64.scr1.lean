/-! scripts: names and numbers of a command, both sides -/
def onX (k o s : Nat) : Bool := ((Nat.beq k 22 && Nat.beq o 0) && Nat.beq s 1) || (Nat.beq k 24 && Nat.blt o 30)
def onCS (k o s : Nat) : Bool := on21 0 k o s || onX k o s
def onCS8 (k o s : Nat) : Bool := on8 0 k o s || onX k o s
def on38 (k o _ : Nat) : Bool := Nat.beq k 38 && Nat.beq o 0
def onVS (k o s : Nat) : Bool := onW k o s || on38 k o s
def onVS8 (k o s : Nat) : Bool := onQ k o s || on38 k o s
theorem onCS_21 {M M' : xM} (f : fz (on21 0) M M') : fz onCS M M' := fz_mono (fun k o' s h => by unfold onCS; rw [h]; rfl) f
theorem onCS_8 {M M' : xM} (f : fz (on8 0) M M') : fz onCS8 M M' := fz_mono (fun k o' s h => by unfold onCS8; rw [h]; rfl) f
theorem onCS_X {M M' : xM} (f : fz onX M M') : fz onCS8 M M' := fz_mono (fun k o' s h => by unfold onCS8; rw [h, Bool.or_true]) f
theorem onCS8_C {M M' : xM} (f : fz onCS8 M M') : fz onCS M M' := fz_mono (fun k o s h => by
  unfold onCS8 at h
  unfold onCS
  rcases Bool.or_eq_true_iff.mp h with h | h
  · obtain ⟨h1, h2⟩ := Bool.and_eq_true_iff.mp h
    unfold on21
    rw [h1]; rfl
  · rw [h, Bool.or_true]) f
theorem onVS_W {M M' : xM} (f : fz onW M M') : fz onVS M M' := fz_mono (fun k o s h => by unfold onVS; rw [h]; rfl) f
theorem onVS_Q {M M' : xM} (f : fz onQ M M') : fz onVS8 M M' := fz_mono (fun k o s h => by unfold onVS8; rw [h]; rfl) f
theorem onVS_38 {M M' : xM} (f : fz on38 M M') : fz onVS8 M M' := fz_mono (fun k o s h => by unfold onVS8; rw [h, Bool.or_true]) f
theorem onVS8_V {M M' : xM} (f : fz onVS8 M M') : fz onVS M M' := fz_mono (fun k o s h => by
  unfold onVS8 at h
  unfold onVS
  rcases Bool.or_eq_true_iff.mp h with h | h
  · obtain ⟨h1, h2⟩ := Bool.and_eq_true_iff.mp h
    unfold onW
    rw [h1, h2]; rfl
  · rw [h, Bool.or_true]) f
theorem onX_c {i s : Nat} (h : i < 30) : onX 24 i s = true := by
  unfold onX
  rw [show Nat.blt i 30 = true from Nat.ble_eq_true_of_le (show i + 1 ≤ 30 by omega)]; rfl
theorem onX_k {k o s : Nat} (h : k ≠ 22) (h2 : k ≠ 24) : onX k o s = false := by
  unfold onX
  cases e : Nat.beq k 22 with
  | true => exact absurd (Nat.eq_of_beq_eq_true e) h
  | false =>
    cases e2 : Nat.beq k 24 with
    | true => exact absurd (Nat.eq_of_beq_eq_true e2) h2
    | false => rfl
theorem on38_k {k o s : Nat} (h : k ≠ 38) : on38 k o s = false := by
  unfold on38
  cases e : Nat.beq k 38 with
  | true => exact absurd (Nat.eq_of_beq_eq_true e) h
  | false => rfl
/-- places of garbage are harmless -/
def GB (M' : xM) : Prop := ∀ i, i < 30 → (∃ f l : Nat, gi M' 38 0 (6 * i + 1) = zi (f : Nat) ∧ gi M' 38 0 (6 * i + 2) = zi (l : Nat) ∧ f + l ≤ 600) ∧ ∃ f l : Nat, gi M' 38 0 (6 * i + 3) = zi (f : Nat) ∧ gi M' 38 0 (6 * i + 4) = zi (l : Nat) ∧ f + l ≤ 600
theorem GB_eq {M M' : xM} (h : GB M) (e : ∀ s, gi M' 38 0 s = gi M 38 0 s) : GB M' := fun i hi => by
  rw [e, e, e, e]; exact h i hi
theorem GB_W {M M' : xM} (f : fz onW M M') (h : GB M) : GB M' := GB_eq h (fun s => fz_gi f (onW_k (by decide)))
theorem GB_Q {M M' : xM} (f : fz onQ M M') (h : GB M) : GB M' := GB_eq h (fun s => fz_gi f (onQ_k (by decide)))
def PS (M M' : xM) (r r' : xR) (G : xM → xM → Prop) : Prop := ∃ (ok : Bool) (M1 M1' : xM), r = rI (bz ok) M1 ∧ r' = rI (bz ok) M1' ∧ fz onCS M M1 ∧ fz onVS M' M1' ∧ (GB M' → GB M1') ∧ (ok = true → fz onCS8 M M1 ∧ fz onVS8 M' M1' ∧ G M1 M1') ∧ (ok = false → ∃ c f, EC M1 0 c f ∧ ER M1' c f)
theorem PS_no {c f : Nat} {M M' M1 M1' : xM} {G : xM → xM → Prop} (h1 : fz onCS M M1) (h2 : fz onW M' M1') (h3 : EC M1 0 c f) (h4 : ER M1' c f) : PS M M' (rI (bz false) M1) (rI (bz false) M1') G := ⟨false, M1, M1', rfl, rfl, h1, onVS_W h2, GB_W h2, fun q => (nomatch q), fun _ => ⟨c, f, h3, h4⟩⟩
theorem PS_yes {M M' M1 M1' : xM} {G : xM → xM → Prop} (h1 : fz onCS8 M M1) (h2 : fz onVS8 M' M1') (h4 : GB M' → GB M1') (h3 : G M1 M1') : PS M M' (rI (bz true) M1) (rI (bz true) M1') G := ⟨true, M1, M1', rfl, rfl, onCS8_C h1, onVS8_V h2, h4, fun _ => ⟨h1, h2, h3⟩, fun q => (nomatch q)⟩
theorem PS_tr {M M' M1 M1' : xM} {r r' : xR} {G : xM → xM → Prop} (f : fz onCS8 M M1) (f' : fz onVS8 M' M1') (h4 : GB M' → GB M1') (h : PS M1 M1' r r' G) : PS M M' r r' G := by
  obtain ⟨ok, A, A', h1, h2, h3, h5, h6, h7, h8⟩ := h
  exact ⟨ok, A, A', h1, h2, fz_trans (onCS8_C f) h3, fz_trans (onVS8_V f') h5, fun q => h6 (h4 q), fun q => ⟨fz_trans f (h7 q).1, fz_trans f' (h7 q).2.1, (h7 q).2.2⟩, h8⟩
theorem PS_bind {M M' : xM} {r r' : xR} {G G2 : xM → xM → Prop} {f f' : Int32 → xM → xR} (h : PS M M' r r' G) (h0 : ∀ M1, f (bz false) M1 = rI (bz false) M1) (h0' : ∀ M1, f' (bz false) M1 = rI (bz false) M1) (h1 : ∀ M1 M1', fz onCS8 M M1 → fz onVS8 M' M1' → G M1 M1' → PS M1 M1' (f (bz true) M1) (f' (bz true) M1') G2) : PS M M' (xbI r f) (xbI r' f') G2 := by
  obtain ⟨ok, A, A', e1, e2, g1, g1', g2, a, b⟩ := h
  rw [e1, e2, xbI_r, xbI_r]
  cases ok with
  | true =>
    obtain ⟨g8, g8', g⟩ := a rfl
    exact PS_tr g8 g8' g2 (h1 A A' g8 g8' g)
  | false =>
    rw [h0, h0']
    exact ⟨false, A, A', rfl, rfl, g1, g1', g2, fun q => (nomatch q), b⟩
theorem CT_X {M M' : xM} {B : Nat → Int} {n pos : Nat} (h : CT M 0 B n pos) (f : fz onX M M') : CT M' 0 B n pos := ⟨IN_fz h.1 f rfl (fun _ => rfl), TC_fz h.2.1 f (fun _ _ => rfl), KC_fz h.2.2 f (fun k o s q => onX_k (by omega) (by omega))⟩
theorem RT_38 {M M' : xM} {B : Nat → Int} {n p : Nat} (h : RT M B n p) (f : fz on38 M M') : RT M' B n p := ⟨IR_fz h.1 f rfl (fun _ => rfl), TR_fz h.2.1 f (fun _ _ _ => rfl), KC_fz h.2.2.1 f (fun k o s q => on38_k (by omega)), IB_fz h.2.2.2 f (fun _ => rfl)⟩
/-- a name that was read: packed in the class, a place in the buffer in the reference -/
def NR (B : Nat → Int) (n : Nat) (w : Int64) (x y : Int32) : Prop := ∃ f l : Nat, w = pw B f l ∧ x = zi (f : Nat) ∧ y = zi (l : Nat) ∧ 1 ≤ l ∧ l ≤ 6 ∧ f + l ≤ n ∧ ∀ i, i < l → 97 ≤ B (f + i) ∧ B (f + i) ≤ 122
/-- where both stand -/
def SS (M M' : xM) (B : Nat → Int) (n pos : Nat) (b : Nat → Int) : Prop := CT M 0 B n pos ∧ RT M' B n pos ∧ CP M 9 b ∧ RB M' b ∧ wN b
theorem CP_CS {M M' : xM} {b : Nat → Int} (h : CP M 9 b) (f : fz onCS8 M M') : CP M' 9 b := CP_fz h f (fun k s h1 h2 => by
  unfold onCS8
  rw [on8_k (by omega), onX_k (by omega) (by omega)]; rfl)
theorem RB_VS {M M' : xM} {b : Nat → Int} (h : RB M b) (f : fz onVS8 M M') : RB M' b := RB_fz h f (fun _ => rfl)
/-- a name is read: of a task, of a resource -/
theorem both_nm {M M' : xM} {B : Nat → Int} {n pos : Nat} {b : Nat → Int} (h : SS M M' B n pos b) {to : Nat} (ht : to + 1 < 180) (hgb : ∀ M1', (∀ s, s ≠ to → s ≠ to + 1 → gi M1' 38 0 s = gi M' 38 0 s) → (∃ f l : Nat, gi M1' 38 0 to = zi (f : Nat) ∧ gi M1' 38 0 (to + 1) = zi (l : Nat) ∧ f + l ≤ 600) → GB M' → GB M1') (tk : Bool) {k k' : xM → xR} {gc g : Int32 → xM → xR} (q0 : ∀ M1, gc (bz false) M1 = rI (bz false) M1) (q1 : ∀ M1, gc (bz true) M1 = k M1) (g0 : ∀ M1, g (bz false) M1 = rI (bz false) M1) (g1 : ∀ M1, g (bz true) M1 = k' M1) {G : xM → xM → Prop} (hk : ∀ M1 M1', fz (on8 0) M M1 → fz onVS8 M' M1' → SS M1 M1' B n (tE B n pos) b → NR B n (gl M1 21 0 6) (gi M1' 38 0 to) (gi M1' 38 0 (to + 1)) → (∀ s, s ≠ to → s ≠ to + 1 → gi M1' 38 0 s = gi M' 38 0 s) → (tk = false → fnd (fun r => decide (pk b (4 + 8 * r) = gl M1 21 0 6)) (nR b) ≠ -1) → PS M1 M1' (k M1) (k' M1') G) : PS M M' (xbI (if tk = true then m_P_taskNamed 9 (gl M 21 0 4) M else m_P_resourceNamed 9 (gl M 21 0 4) M) (fun r M1 => xbI (m_T_takeKnownName 0 r M1) gc)) (xbI (m_M_parseName 0 (zi to) (bz tk) M') g) G := by
  obtain ⟨hC, hR, hP, hB, hN⟩ := h
  have hb := tE_bd (B := B) hC.2.1.1
  have hn := hC.1.1
  -- what is looked up
  have look : ∃ x : Int, (if tk = true then m_P_taskNamed 9 (gl M 21 0 4) M else m_P_resourceNamed 9 (gl M 21 0 4) M) = rI (zi x) M ∧ -1 ≤ x ∧ x ≤ 12 ∧ (tk = false → x = fnd (fun r => decide (pk b (4 + 8 * r) = gl M 21 0 4)) (nR b)) ∧ (tT B n pos = 0 → (if tk = true then m_M_taskNamed 0 (zi (tF B n pos : Nat)) (zi (tE B n pos - tF B n pos : Nat)) M' else m_M_resourceNamed 0 (zi (tF B n pos : Nat)) (zi (tE B n pos - tF B n pos : Nat)) M') = rI (zi x) M' ∧ (6 < tE B n pos - tF B n pos → x = -1)) := by
    cases tk with
    | true =>
      obtain ⟨x, ex, ex2, ex3, ex4⟩ := s_taskN hP (gl M 21 0 4)
      refine ⟨x, ex, ex3, ex4, fun q => (nomatch q), fun c0 => ?_⟩
      have e0 := r_taskNamed hB hN hR.2.2.2 (f := tF B n pos) (k := tE B n pos - tF B n pos) (by omega)
      have w1 := (TC_w hC.2.1 c0).1
      have e5 : x = fnd (fun t => nmE b (28 + 12 * t) B (tF B n pos) (tE B n pos - tF B n pos)) (nT b) := by
        rw [ex2, w1]; exact same_task hN hC.2.1.1 c0
      refine ⟨by rw [if_pos rfl, e0, e5], fun c6 => ?_⟩
      by_cases q : x = -1
      · exact q
      · exfalso
        rw [e5] at q
        obtain ⟨i, i1, i2, i3⟩ := fnd_ok q
        unfold nmE at i3
        rw [Bool.and_eq_true] at i3
        have z := of_decide_eq_true i3.1
        have := (hN.2.2.1 i i1).1
        omega
    | false =>
      obtain ⟨x, ex, ex2, ex3, ex4⟩ := s_resN hP (gl M 21 0 4)
      refine ⟨x, ex, ex3, by omega, fun _ => ex2, fun c0 => ?_⟩
      have e0 := r_resNamed hB hN hR.2.2.2 (f := tF B n pos) (k := tE B n pos - tF B n pos) (by omega)
      have w1 := (TC_w hC.2.1 c0).1
      have e5 : x = fnd (fun r => nmE b (4 + 8 * r) B (tF B n pos) (tE B n pos - tF B n pos)) (nR b) := by
        rw [ex2, w1]; exact same_res hN hC.2.1.1 c0
      refine ⟨by rw [if_neg (by decide), e0, e5], fun c6 => ?_⟩
      by_cases q : x = -1
      · exact q
      · exfalso
        rw [e5] at q
        obtain ⟨i, i1, i2, i3⟩ := fnd_ok q
        unfold nmE at i3
        rw [Bool.and_eq_true] at i3
        have z := of_decide_eq_true i3.1
        have := (hN.2.2.2 i i1).1
        omega
  obtain ⟨x, ex, x1, x2, x3, x4⟩ := look
  obtain ⟨M1, e1, f1, a1, b1⟩ := s_known hC (x := x) (by omega)
  obtain ⟨M2, e2, f2, a2, b2⟩ := r_short hR
  rw [ex, xbI_r, e1, xbI_r, e_m_M_parseName, e2, xbI_r]
  by_cases c0 : tT B n pos = 0
  · obtain ⟨y1, y2⟩ := x4 c0
    by_cases c6 : tE B n pos - tF B n pos ≤ 6
    · have sE : swE B n pos = 0 := by unfold swE; rw [if_pos c0, if_pos c6]
      have em := a2 sE
      subst em
      rw [sE, show decide (0 = 0) = true from rfl, ite_bt, hR.2.1.2.1, hR.2.1.2.2.1, zi_sub, show ((tE B n pos : Nat) : Int) - ((tF B n pos : Nat) : Int) = ((tE B n pos - tF B n pos : Nat) : Int) by omega, ite_b]
      by_cases c1 : x = -1
      · have kE : knE B n pos x = 3 := by unfold knE; rw [if_pos c0, if_pos c1]
        have b1 := b1 (by rw [kE]; decide)
        rw [kE] at b1
        rw [kE, show decide (3 = 0) = false from rfl, q0]
        cases tk with
        | true =>
          rw [if_pos rfl] at y1
          rw [if_pos rfl, y1, xbI_r, c1, if_pos (show zi (-1) = (-1 : Int32) from rfl), zi_lit3, r_wrong hR.2.1.2.1 3, xbI_r, xnar_b, xbI_r, g0]
          exact PS_no (onCS_21 f1) fz_wrong b1 ER_wrong
        | false =>
          rw [if_neg (by decide)] at y1
          rw [if_neg (by decide), y1, xbI_r, c1, if_pos (show zi (-1) = (-1 : Int32) from rfl), zi_lit3, r_wrong hR.2.1.2.1 3, xbI_r, xnar_b, xbI_r, g0]
          exact PS_no (onCS_21 f1) fz_wrong b1 ER_wrong
      · have kE : knE B n pos x = 0 := by unfold knE; rw [if_pos c0, if_neg c1]
        obtain ⟨f8, t8, q8⟩ := a1 kE
        obtain ⟨w1, w2, w3⟩ := TC_w hC.2.1 c0
        have hw := tT_w hC.2.1.1 c0
        have no1 : ¬ zi x = (-1 : Int32) := by
          rw [zi_m1, zi_eq (by omega) (by omega) (by decide) (by decide)]; exact c1
        have f3 : fz on38 M2 (xst (xst M2 38 0 to (.int (zi (tF B n pos : Nat)))) 38 0 (to + 1) (.int (zi (tE B n pos - tF B n pos : Nat)))) := fz_step (fz_st rfl) rfl
        have hR3 := RT_38 hR f3
        obtain ⟨M4, e4, f4, t4⟩ := r_tk hR3
        have fin : PS M M2 (k M1) (k' M4) G := by
          refine PS_tr (onCS_8 f8) (fz_trans (onVS_38 f3) (onVS_Q f4)) (hgb M4 (fun s h1 h2 => by rw [fz_gi f4 (onQ_k (by decide)), gi_s h2, gi_s h1]) ⟨tF B n pos, tE B n pos - tF B n pos, by rw [fz_gi f4 (onQ_k (by decide)), gi_s (by omega), gi_h], by rw [fz_gi f4 (onQ_k (by decide)), gi_h], by omega⟩) (hk M1 M4 f8 (fz_trans (onVS_38 f3) (onVS_Q f4)) ⟨t8, t4, CP_8 hP f8, RB_VS hB (fz_trans (onVS_38 f3) (onVS_Q f4)), hN⟩ ⟨tF B n pos, tE B n pos - tF B n pos, q8, ?_, ?_, by omega, c6, by omega, w3⟩ (fun s h1 h2 => ?_) (fun q => ?_))
          · rw [fz_gi f4 (onQ_k (by decide)), gi_s (by omega), gi_h]
          · rw [fz_gi f4 (onQ_k (by decide)), gi_h]
          · rw [fz_gi f4 (onQ_k (by decide)), gi_s h2, gi_s h1]
          · rw [q8, ← w1, ← x3 q]; exact c1
        rw [kE, show decide (0 = 0) = true from rfl, q1]
        have e9 : zi (to : Int) + (1 : Int32) = zi ((to + 1 : Nat) : Int) := zi_suc to
        cases tk with
        | true =>
          rw [if_pos rfl] at y1
          rw [if_pos rfl, y1, xbI_r, if_neg no1, e9, xck_n (by omega) (by decide), xck_n (by omega) (by decide), zix (by omega), zix (by omega), hR.2.1.2.1, hR.2.1.2.2.1, zi_sub, show ((tE B n pos : Nat) : Int) - ((tF B n pos : Nat) : Int) = ((tE B n pos - tF B n pos : Nat) : Int) by omega, e4, xbV_r, xbI_r, xnar_1, g1]
          exact fin
        | false =>
          rw [if_neg (by decide)] at y1
          rw [if_neg (by decide), y1, xbI_r, if_neg no1, e9, xck_n (by omega) (by decide), xck_n (by omega) (by decide), zix (by omega), zix (by omega), hR.2.1.2.1, hR.2.1.2.2.1, zi_sub, show ((tE B n pos : Nat) : Int) - ((tF B n pos : Nat) : Int) = ((tE B n pos - tF B n pos : Nat) : Int) by omega, e4, xbV_r, xbI_r, xnar_1, g1]
          exact fin
    · have sE : swE B n pos = 3 := by unfold swE; rw [if_pos c0, if_neg c6]
      have kE : knE B n pos x = 3 := by unfold knE; rw [if_pos c0, if_pos (y2 (by omega))]
      have b1 := b1 (by rw [kE]; decide)
      have b2 := b2 (by rw [sE]; decide)
      rw [kE] at b1
      rw [sE] at b2
      rw [kE, sE, show decide (3 = 0) = false from rfl, ite_bf, q0, xnar_0, xbI_r, g0]
      exact PS_no (onCS_21 f1) f2 b1 b2
  · have sE : swE B n pos = 1 := by unfold swE; rw [if_neg c0]
    have kE : knE B n pos x = 1 := by unfold knE; rw [if_neg c0]
    have b1 := b1 (by rw [kE]; decide)
    have b2 := b2 (by rw [sE]; decide)
    rw [kE] at b1
    rw [sE] at b2
    rw [kE, sE, show decide (1 = 0) = false from rfl, ite_bf, q0, xnar_0, xbI_r, g0]
    exact PS_no (onCS_21 f1) f2 b1 b2
