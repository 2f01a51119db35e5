/-! calls: a plan kept, a plan brought again -/
def onSv (k o s : Nat) : Bool := onI k o s || (Nat.beq k 26 || Nat.beq k 29) || ((Nat.ble 2 k && Nat.ble k 9) && (Nat.beq o 7 || Nat.beq o 8)) || (Nat.beq k 28 && Nat.ble 2212 s)
theorem Sv_I {M M' : xM} (f : fz onI M M') : fz onSv M M' := fz_mono (fun k o s h => by unfold onSv; rw [h]; rfl) f
theorem Sv_P {p : Nat} (hp : p = 7 ∨ p = 8) {M M' : xM} (f : fr (onP p) M M') : fz onSv M M' := fz_mono (fun k o s h => by
  have h : onP p k o = true := h
  unfold onP at h
  obtain ⟨h1, h2⟩ := Bool.and_eq_true_iff.mp h
  obtain rfl := Nat.eq_of_beq_eq_true h2
  unfold onSv
  rw [h1]
  rcases hp with rfl | rfl
  · rw [show Nat.beq 7 7 = true from rfl, Bool.true_or, Bool.and_self, Bool.or_true, Bool.true_or]
  · rw [show Nat.beq 8 8 = true from rfl, Bool.or_true, Bool.and_self, Bool.or_true, Bool.true_or]) (fr_fz f)
theorem Sv_28 {j : Nat} (hj : 7 ≤ j) {M M' : xM} (f : fz (on28 j) M M') : fz onSv M M' := fz_mono (fun k o s h => by
  unfold on28 at h
  obtain ⟨h1, h2⟩ := Bool.and_eq_true_iff.mp h
  obtain ⟨_, h4⟩ := Bool.and_eq_true_iff.mp h1
  obtain ⟨h3, _⟩ := Bool.and_eq_true_iff.mp h2
  have h3 := Nat.le_of_ble_eq_true h3
  unfold onSv
  rw [h4, Nat.ble_eq_true_of_le (show 2212 ≤ s by omega), Bool.and_self, Bool.or_true]) f
theorem onSv_p {k p s : Nat} (h1 : 2 ≤ k) (h2 : k ≤ 9) (hp : 1 ≤ p) (h7 : p ≠ 7 ∧ p ≠ 8) : onSv k p s = false := by
  unfold onSv
  rw [onI_p h1 h2 hp, beq_ff h7.1, beq_ff h7.2, beq_ff (show k ≠ 26 by omega), beq_ff (show k ≠ 29 by omega), beq_ff (show k ≠ 28 by omega), Bool.or_self, Bool.or_self, Bool.and_false]
  rfl
theorem onSv_28 {i k : Nat} (hk : k < 316) (hi : i ≤ 6) : onSv 28 0 (316 * i + k) = false := by
  unfold onSv
  have : Nat.ble 2212 (316 * i + k) = false := by
    cases e : Nat.ble 2212 (316 * i + k) with
    | false => rfl
    | true => have := Nat.le_of_ble_eq_true e; omega
  rw [this]; rfl
theorem Inv_Sv {M N : xM} (h : Inv M) (f : fz onSv M N) (hS : SAV N) : Inv N := by
  obtain ⟨h1, ⟨c, w, g1, g2, g3, g4, g5, g6⟩, _, ⟨n, i1, i2⟩, ⟨e1, e2⟩, ⟨len, t, t1, ⟨x1, x2, x3, x4⟩, t3, t4⟩, h7, h8⟩ := h
  have eo : gn N 1 0 8 = gn M 1 0 8 := fz_gn f rfl
  have pl : ∀ {p i : Nat}, 1 ≤ p → p ≠ 7 ∧ p ≠ 8 → i ≤ 6 → PLN M p i → PLN N p i := fun {p i} hp h7 hi q => by
    have e := bk_fz f (i := i) (fun k hk => onSv_28 hk hi)
    unfold PLN
    rw [e]
    exact ⟨q.1, CP_fz q.2 f (fun k s a d => onSv_p a d hp h7)⟩
  refine ⟨pl (by decide) ⟨by decide, by decide⟩ (by decide) h1, ⟨c, w, g1, g2, (fz_gi f rfl).trans g3, (fz_gi f rfl).trans g4, (fz_gi f rfl).trans g5, fun j hj => pl (by omega) ⟨by omega, by omega⟩ (by omega) (g6 j hj)⟩, hS, ⟨n, ?_, ?_⟩, ⟨?_, ?_⟩, ⟨len, t, t1, ⟨?_, ?_, ?_, fun i => ?_⟩, (fz_gi f rfl).trans t3, fun i hi => (fz_gi f rfl).trans (t4 i hi)⟩, KC_fz h7 f (fun k o s q => ?_), GB_eq h8 (fun s => fz_gi f rfl)⟩
  · rw [BB_fz f (fun _ => rfl)]; exact IN_fz i1 f rfl (fun _ => rfl)
  · rw [BB_fz f (fun _ => rfl)]; exact IR_fz i2 f rfl (fun _ => rfl)
  · rw [fz_gi f rfl, fz_gi f rfl]; exact e1
  · rw [fz_gi f rfl, fz_gi f rfl]; exact e2
  · rw [eo, fz_gn f rfl]; exact x1
  · rw [eo, fz_gn f rfl]; exact x2
  · rw [eo, fz_gi f rfl]; exact x3
  · rw [eo, fz_gi f rfl]; exact x4 i
  · rcases q with rfl | rfl | rfl | rfl | rfl | rfl | ⟨rfl | rfl | rfl | rfl, _⟩ <;> rfl
theorem s_reqSlot {M : xM} {x : Int} (h1 : -2147483648 ≤ x) (h2 : x < 2147483648) : m_C_requireSlot (zi x) M = if 0 ≤ x ∧ x ≤ 1 then rV M else rE 2 (xbump M 1 6) := by
  rw [e_m_C_requireSlot, zi_00, zi_02, zif h1 h2 (by decide) (by decide), zif h1 h2 (by decide) (by decide)]
  by_cases c1 : x < 0
  · rw [if_pos c1, if_neg (by omega)]
  · rw [if_neg c1]
    by_cases c2 : x < 2
    · rw [if_pos c2, if_pos (by omega)]
    · rw [if_neg c2, if_neg (by omega)]
theorem r_slot {N : xM} {x : Int} (h1 : -2147483648 ≤ x) (h2 : x < 2147483648) : m_M_in (zi x) 0 1 N = rI (bz (decide (0 ≤ x ∧ x ≤ 1))) N := r_inr (a := 0) (c := 1) h1 h2 (by decide) (by decide) (by decide) (by decide)
theorem q_save {M : xM} (hI : Inv M) (x : Int32) : QR PT M (m_L_save 0 x 0 M) (m_M_save 0 x) := by
  obtain ⟨x, rfl, h1, h2⟩ := zi_ex x
  have hw := hI.1.1
  by_cases c : 0 ≤ x ∧ x ≤ 1
  · obtain ⟨s, rfl⟩ : ∃ t : Nat, x = (t : Int) := ⟨x.toNat, by omega⟩
    have hs : s < 2 := by omega
    obtain ⟨A, ea, fA, cA⟩ := s_copy M (p := 9) (q := s + 7) (by omega)
    have y9 : gi A 2 9 2 = zi (nT (bk M 0)) := (fr_gi fA (onP_k (by omega)) 2).trans (CP_T hI.1.2)
    have bt : ((1 : Int32) &&& 1) = bz true := by decide
    generalize hN0 : xst (xst (xst A 26 0 s (.int (bz true))) 39 0 0 (.long (Int32.toInt64 (zi (nT (bk M 0)))))) 27 0 9 (.int 0) = N0
    have f0 : fz (fun k _ _ => Nat.beq k 26 || Nat.beq k 39 || Nat.beq k 27) A N0 := by rw [← hN0]; exact fz_step (fz_step (fz_st rfl) rfl) rfl
    obtain ⟨N, en, fN, bN⟩ := r_copy N0 (i := 0) (j := 7 + s) (by decide) (by omega) (by omega)
    have n28 : ∀ k, gi N0 28 0 k = gi M 28 0 k := fun k => (fz_gi f0 rfl).trans (fr_gi fA (onP_k (by omega)) k)
    have bk0 : ∀ i, bk N0 i = bk M i := fun i => bk_eq (fun k _ => n28 _)
    have on28_f : ∀ {k o u : Nat}, k ≠ 28 → on28 (7 + s) k o u = false := fun {k o u} h => by
      unfold on28
      rw [beq_ff h, Bool.and_false]; rfl
    have hB : RB N0 (bk M 0) := fun k hk => (n28 k).trans (RB_bk M k hk)
    have hBN : RB N (bk M 0) := fun k hk => (fz_gi fN (by
      unfold on28
      have : Nat.ble (316 * (7 + s)) k = false := by
        cases e : Nat.ble (316 * (7 + s)) k with
        | false => rfl
        | true => have := Nat.le_of_ble_eq_true e; omega
      rw [this, Bool.false_and, Bool.and_false])).trans (hB k hk)
    have bkF : ∀ i, bk (xst N 29 0 s (.int (bz true))) i = bk N i := fun i => bk_eq (fun k _ => gi_k (by decide))
    have cpF : ∀ {p : Nat} {b : Nat → Int}, CP A p b → CP (xst N 29 0 s (.int (bz true))) p b := fun {p b} h => by
      have q0 : CP N0 p b := CP_fz h f0 (fun k u a d => by rw [beq_ff (show k ≠ 26 by omega), beq_ff (show k ≠ 39 by omega), beq_ff (show k ≠ 27 by omega)]; rfl)
      have q1 : CP N p b := CP_fz q0 fN (fun k u a d => on28_f (by omega))
      exact CP_fz q1 (fz_st (K := fun k _ _ => Nat.beq k 29) rfl) (fun k u a d => beq_ff (by omega))
    have fS : fz onSv M (xst N 29 0 s (.int (bz true))) := fz_trans (Sv_P (by omega) fA) (fz_trans (by rw [← hN0]; exact fz_step (fz_step (fz_st rfl) rfl) rfl) (fz_step (Sv_28 (by omega) fN) rfl))
    have j28 : fz onJ N0 N := fz_mono (fun k o u h => by
      unfold on28 at h
      obtain ⟨h3, _⟩ := Bool.and_eq_true_iff.mp h
      rw [Nat.eq_of_beq_eq_true (Bool.and_eq_true_iff.mp h3).2]; rfl) fN
    have j1 : fz onJ M (xst (xst A 26 0 s (.int (bz true))) 39 0 0 (.long (Int32.toInt64 (zi (nT (bk M 0)))))) := fz_step (fz_step (onJ_P9 fA) rfl) rfl
    have j2 : fz onJ (xst (xst A 26 0 s (.int (bz true))) 39 0 0 (.long (Int32.toInt64 (zi (nT (bk M 0)))))) (xst N 29 0 s (.int (bz true))) := fz_step (fz_trans (by rw [← hN0]; exact fz_st rfl) j28) rfl
    refine ⟨0, _, xst N 29 0 s (.int (bz true)), zi (nT (bk M 0)), ?_, ?_, ?_, fun _ => ⟨?_, trivial⟩, SF_J j1, SF_J j2, Inv_Sv hI fS (fun u hu => ?_), RM_le (RM_J (fz_trans j1 j2)) (by decide) (by decide)⟩
    · rw [e_m_L_save, e_m_C_save, s_reqSlot h1 h2, if_pos c, xbV_r, xck_n (by omega) (by decide), zix (by omega), ea, xbV_r, xck_n (by omega) (by decide), y9, bt, xhI_r, xck_01]
      rfl
    · have en : m_M_copyBlock 0 0 (zi ((7 + s : Nat) : Int)) N0 = _ := en
      have k7 : (7 : Int32) + zi (s : Nat) = zi ((7 + s : Nat) : Int) := by rw [zi_07, zi_add]; exact congrArg zi (by omega)
      have e2 : gi N 28 0 (ix 2) = zi (nT (bk M 0)) := RB_T hBN hw.1
      rw [e_m_M_save, r_slot h1 h2, xbI_r, decide_eq_true c, ite_bt, r_F0, hN0, k7, en, xbV_r, xck_n (by omega) (by decide), xck_2, e2, zix (by omega), bt]
    · rw [gi_k (by decide), fz_gi fN (on28_f (by decide)), ← hN0, gi_h]
    · rw [gl_k (by decide), fz_gl fN (on28_f (by decide)), ← hN0, gl_k (by decide), gl_h]
    · by_cases e : u = s
      · subst e
        refine ⟨true, ?_, gi_h _ _ _ _ _, fun _ => ?_⟩
        · rw [gi_k (by decide), fz_gi fN (on28_f (by decide)), ← hN0, gi_k (by decide), gi_k (by decide), gi_h]
        · unfold PLN
          rw [bkF, bN, bk0]
          refine ⟨hw, cpF ?_⟩
          have := cA _ hI.1.2
          rw [show u + 7 = 7 + u by omega] at this
          exact this
      · obtain ⟨fl, s1, s2, s3⟩ := hI.2.2.1 u hu
        refine ⟨fl, ?_, ?_, fun q => ?_⟩
        · rw [gi_k (by decide), fz_gi fN (on28_f (by decide)), ← hN0, gi_k (by decide), gi_k (by decide), gi_s e, fr_gi fA (onP_k (by omega))]; exact s1
        · rw [gi_s e, fz_gi fN (on28_f (by decide)), fz_gi f0 rfl, fr_gi fA (onP_k (by omega))]; exact s2
        · have eb : bk N (7 + u) = bk M (7 + u) := (bk_fz fN (fun k hk => by
            unfold on28
            cases e1 : Nat.ble (316 * (7 + s)) (316 * (7 + u) + k) with
            | false => rw [Bool.false_and, Bool.and_false]
            | true =>
              cases e2 : Nat.blt (316 * (7 + u) + k) (316 * (7 + s) + 316) with
              | false => rfl
              | true =>
                have := Nat.le_of_ble_eq_true e1
                have : 316 * (7 + u) + k < 316 * (7 + s) + 316 := Nat.le_of_ble_eq_true e2
                omega)).trans (bk0 _)
          unfold PLN
          rw [bkF, eb]
          exact ⟨(s3 q).1, cpF (CP_fz (s3 q).2 (fr_fz fA) (fun k v a d => onP_k (by omega)))⟩
  · refine QR_f (c := 1) (v := 0) hI (by decide) ?_ ?_ (fz_refl _)
    · rw [e_m_L_save, e_m_C_save, s_reqSlot h1 h2, if_neg c, xbV_e, xhI_e, if_pos rfl]
    · rw [e_m_M_save, r_slot h1 h2, xbI_r, decide_eq_false c, ite_bf, r_F1]
theorem q_restore {M : xM} (hI : Inv M) (x : Int32) : QR PT M (m_L_restore 0 x 0 M) (m_M_restore 0 x) := by
  obtain ⟨x, rfl, h1, h2⟩ := zi_ex x
  by_cases c : 0 ≤ x ∧ x ≤ 1
  · obtain ⟨s, rfl⟩ : ∃ t : Nat, x = (t : Int) := ⟨x.toNat, by omega⟩
    have hs : s < 2 := by omega
    obtain ⟨fl, s1, s2, s3⟩ := hI.2.2.1 s hs
    cases fl with
    | false =>
      refine QR_f (c := 2) (v := 0) hI (by decide) ?_ ?_ (fz_refl _)
      · rw [e_m_L_restore, e_m_C_restore, s_reqSlot h1 h2, if_pos c, xbV_r, xck_n (by omega) (by decide), zix (by omega), s1, ite_bf, xhI_e, if_neg (by decide), if_pos rfl]
      · have e : gi (xbump M 1 6) 29 0 s = bz false := (bump_gi (by decide)).trans s2
        rw [e_m_M_restore, r_slot h1 h2, xbI_r, decide_eq_true c, ite_bt, ite_bt, xck_n (by omega) (by decide), zix (by omega), e, ite_bf, r_F2]
    | true =>
      obtain ⟨q1, q2⟩ := s3 rfl
      obtain ⟨C, w, g1, g2, g3, g4, g5, g6⟩ := hI.2.1
      obtain ⟨A, ea, fA, cA⟩ := s_copy M (p := s + 7) (q := 9) (by omega)
      have q2' : CP M (s + 7) (bk M (7 + s)) := by rw [show s + 7 = 7 + s by omega]; exact q2
      have c9 := cA _ q2'
      have y9 : gi A 2 9 2 = zi (nT (bk M (7 + s))) := CP_T c9
      generalize hN0 : xst (xst (xst A 17 0 2 (.int 0)) 39 0 0 (.long (Int32.toInt64 (zi (nT (bk M (7 + s))))))) 27 0 9 (.int 0) = N0
      have f0 : fz (fun k _ _ => Nat.beq k 17 || Nat.beq k 39 || Nat.beq k 27) A N0 := by rw [← hN0]; exact fz_step (fz_step (fz_st rfl) rfl) rfl
      obtain ⟨N, en, fN, bN⟩ := r_copy N0 (i := 7 + s) (j := 0) (by omega) (by decide) (by omega)
      have n28 : ∀ k, gi N0 28 0 k = gi M 28 0 k := fun k => (fz_gi f0 rfl).trans (fr_gi fA (onP_k (by omega)) k)
      have bk0 : ∀ i, bk N0 i = bk M i := fun i => bk_eq (fun k _ => n28 _)
      have f3 : fz on280 N0 N := fz_mono (fun k o u h => by
        unfold on28 at h
        unfold on280
        obtain ⟨h1, h2⟩ := Bool.and_eq_true_iff.mp h
        obtain ⟨_, h3⟩ := Bool.and_eq_true_iff.mp h2
        rw [h1, Bool.true_and]
        exact h3) fN
      have k280 : ∀ {k p u : Nat}, 2 ≤ k → k ≤ 9 → on280 k p u = false := fun {k p u} a d => by
        unfold on280
        rw [beq_ff (show k ≠ 28 by omega), Bool.and_false]; rfl
      have bkF : ∀ i, bk (xst N 27 0 2 (.int 0)) i = bk N i := fun i => bk_eq (fun k _ => gi_k (by decide))
      have b00 : bk (xst N 27 0 2 (.int 0)) 0 = bk M (7 + s) := by rw [bkF, bN, bk0]
      have hBN : RB N (bk M (7 + s)) := by
        have := RB_bk N
        rw [bN, bk0] at this
        exact this
      have cpF : CP (xst N 27 0 2 (.int 0)) 9 (bk M (7 + s)) := by
        have q0 : CP N0 9 (bk M (7 + s)) := CP_fz c9 f0 (fun k u a d => by rw [beq_ff (show k ≠ 17 by omega), beq_ff (show k ≠ 39 by omega), beq_ff (show k ≠ 27 by omega)]; rfl)
        have q1 : CP N 9 (bk M (7 + s)) := CP_fz q0 f3 (fun k u a d => k280 a d)
        exact CP_fz q1 (fz_st (K := fun k _ _ => Nat.beq k 27) rfl) (fun k u a d => beq_ff (by omega))
      have fAll : fz onAll M (xst N 27 0 2 (.int 0)) := fz_trans (All_P ⟨by decide, by decide⟩ fA) (fz_trans (by rw [← hN0]; exact fz_step (fz_step All_17 rfl) rfl) (fz_step (All_BK (BK_8 f3)) rfl))
      have j1 : fz onJ M (xst (xst A 17 0 2 (.int 0)) 39 0 0 (.long (Int32.toInt64 (zi (nT (bk M (7 + s))))))) := fz_step (fz_step (onJ_P9 fA) rfl) rfl
      have j2 : fz onJ (xst (xst A 17 0 2 (.int 0)) 39 0 0 (.long (Int32.toInt64 (zi (nT (bk M (7 + s))))))) (xst N 27 0 2 (.int 0)) := fz_step (fz_trans (by rw [← hN0]; exact fz_st rfl) (onJ_280 f3)) rfl
      refine ⟨0, _, xst N 27 0 2 (.int 0), zi (nT (bk M (7 + s))), ?_, ?_, ?_, fun _ => ⟨?_, trivial⟩, SF_J j1, SF_J j2, Inv_all hI fAll ?_ ⟨0, w, by decide, g2, gi_h _ _ _ _ _, ?_, ?_, fun j hj => absurd hj (Nat.not_lt_zero j)⟩, RM_le (RM_J (fz_trans j1 j2)) (by decide) (by decide)⟩
      · rw [e_m_L_restore, e_m_C_restore, s_reqSlot h1 h2, if_pos c, xbV_r, xck_n (by omega) (by decide), zix (by omega), s1, ite_bt, xck_n (by omega) (by decide), ea, xbV_r, y9, xhI_r, xck_01]
        rfl
      · have en : m_M_copyBlock 0 (zi ((7 + s : Nat) : Int)) 0 N0 = _ := en
        have k7 : (7 : Int32) + zi (s : Nat) = zi ((7 + s : Nat) : Int) := by rw [zi_07, zi_add]; exact congrArg zi (by omega)
        have e2 : gi N 28 0 (ix 2) = zi (nT (bk M (7 + s))) := RB_T hBN q1.1
        have e29 : gi (xst (xst A 17 0 2 (.int 0)) 39 0 0 (.long (Int32.toInt64 (zi (nT (bk M (7 + s))))))) 29 0 s = bz true := by
          rw [gi_k (by decide), gi_k (by decide), fr_gi fA (onP_k (by omega))]; exact s2
        rw [e_m_M_restore, r_slot h1 h2, xbI_r, decide_eq_true c, ite_bt, ite_bt, xck_n (by omega) (by decide), zix (by omega), e29, ite_bt, r_F0, hN0, k7, en, xbV_r, xck_2, e2]
      · rw [gi_s (by decide), fz_gi f3 rfl, ← hN0, gi_h]
      · rw [gl_k (by decide), fz_gl f3 rfl, ← hN0, gl_k (by decide), gl_h]
      · unfold PLN
        rw [b00]
        exact ⟨q1, cpF⟩
      · rw [gi_k (by decide), fz_gi f3 rfl, ← hN0, gi_k (by decide), gi_k (by decide), gi_h]; rfl
      · rw [gi_k (by decide), fz_gi f3 rfl, ← hN0, gi_k (by decide), gi_k (by decide), gi_s (by decide), fr_gi fA (onP_k (by omega))]; exact g5
  · refine QR_f (c := 1) (v := 0) hI (by decide) ?_ ?_ (fz_refl _)
    · rw [e_m_L_restore, e_m_C_restore, s_reqSlot h1 h2, if_neg c, xbV_e, xhI_e, if_pos rfl]
    · rw [e_m_M_restore, r_slot h1 h2, xbI_r, decide_eq_false c, ite_bf, ite_bf, r_F1]
