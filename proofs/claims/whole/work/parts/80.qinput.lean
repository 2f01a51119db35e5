/-! the input: more of it, less of it, what it names -/
def onIN (k o s : Nat) : Bool := onI k o s || (Nat.beq k 19 || Nat.beq k 20 || Nat.beq k 30) || (Nat.beq k 27 && Nat.beq s 4)
theorem INx_I {M M' : xM} (f : fz onI M M') : fz onIN M M' := fz_mono (fun k o s h => by unfold onIN; rw [h]; rfl) f
theorem Inv_N {M M' : xM} (h : Inv M) (f : fz onIN M M') (hi : INP M') : Inv M' := by
  obtain ⟨h1, ⟨c, w, g1, g2, g3, g4, g5, g6⟩, h3, _, ⟨e1, e2⟩, ⟨len, t, t1, ⟨x1, x2, x3, x4⟩, t3, t4⟩, h7, h8⟩ := h
  have p28 : ∀ s, onIN 28 0 s = false := fun _ => rfl
  have pk2 : ∀ k o s, 2 ≤ k → k ≤ 9 → 1 ≤ o → onIN k o s = false := fun k o s a b c => by
    unfold onIN
    rw [onI_p a b c]
    have : k = 2 ∨ k = 3 ∨ k = 4 ∨ k = 5 ∨ k = 6 ∨ k = 7 ∨ k = 8 ∨ k = 9 := by omega
    rcases this with rfl | rfl | rfl | rfl | rfl | rfl | rfl | rfl <;> rfl
  have eo : gn M' 1 0 8 = gn M 1 0 8 := fz_gn f rfl
  refine ⟨PLN_fz h1 f p28 (fun k s a b => pk2 k 9 s a b (by decide)), ⟨c, w, g1, g2, (fz_gi f rfl).trans g3, (fz_gi f rfl).trans g4, (fz_gi f rfl).trans g5, fun j hj => PLN_fz (g6 j hj) f p28 (fun k s a b => pk2 k _ s a b (by omega))⟩, fun s hs => ?_, hi, ⟨?_, ?_⟩, ⟨len, t, t1, ⟨?_, ?_, ?_, fun i => ?_⟩, (fz_gi f rfl).trans t3, fun i hi => (fz_gi f rfl).trans (t4 i hi)⟩, KC_fz h7 f (fun k o s q => ?_), GB_eq h8 (fun s => fz_gi f rfl)⟩
  · obtain ⟨fl, s1, s2, s3⟩ := h3 s hs
    exact ⟨fl, (fz_gi f rfl).trans s1, (fz_gi f rfl).trans s2, fun q => PLN_fz (s3 q) f p28 (fun k s a b => pk2 k _ s a b (by omega))⟩
  · rw [fz_gi f rfl, fz_gi f rfl]; exact e1
  · rw [fz_gi f rfl, fz_gi f rfl]; exact e2
  · rw [eo, fz_gn f rfl]; exact x1
  · rw [eo, fz_gn f rfl]; exact x2
  · rw [eo, fz_gi f rfl]; exact x3
  · rw [eo, fz_gi f rfl]; exact x4 i
  · rcases q with rfl | rfl | rfl | rfl | rfl | rfl | ⟨rfl | rfl | rfl | rfl, _⟩ <;> rfl
theorem INP_of {M : xM} {B : Nat → Int} {n : Nat} (h1 : IN M 0 B n) (h2 : IR M B n) : INP M := by
  have e : ∀ k, k < n → BB M k = B k := fun k hk => by
    have := h2.2.2 k hk
    unfold BB
    rw [this.1]
    exact Int32.toInt_ofInt_of_le (by omega) (by omega)
  exact ⟨n, ⟨h1.1, h1.2.1, fun k hk => by rw [e k hk]; exact h1.2.2 k hk⟩, h2.1, h2.2.1, fun k hk => by rw [e k hk]; exact h2.2.2 k hk⟩
theorem IB_BB (M : xM) : IB M (BB M) := fun k _ => ⟨(zi_of _).symm, Int32.le_toInt _, Int32.toInt_lt _⟩
/-- the input as a name -/
def nmV (B : Nat → Int) (n : Nat) : Int64 := if n ≤ 6 ∧ allN n (fun i => isLt (B i)) = true then pw B 0 n else 0
theorem asN_step {M : xM} {B : Nat → Int} {n : Nat} (h : IN M 0 B n) {i : Nat} (hi : i < n) (v : Int64) : b_I_asName_11 0 v (zi (i : Nat)) M = if isLt (B i) = true then b_I_asName_11 0 (v ||| ((Int32.toInt64 (zi (B i))) <<< ((Int32.toInt64 ((8 : Int32) * zi ((i : Nat) : Int))) &&& 63) : Int64)) (zi ((i + 1 : Nat) : Int)) M else some (.inl (some (0, .long 0)), M) := by
  have n6 := h.1
  have b1 := h.2.2 i hi
  have b2 := sb_lt b1.2
  rw [e_b_I_asName_11, h.2.1, if_pos (zi_ltn hi (by omega)), xck_n (by omega) (by decide), zix (by omega), b1.1, s_isLetter (by omega) (by omega), xret_I, xbI_r, b2.2.2.1, ite_b, xck_n (by omega) (by decide), b1.1, zi_suc i]
  cases q : isLt (B i) with
  | false => rw [if_neg (by decide), if_neg (by decide)]
  | true => rw [if_pos rfl, if_pos rfl, sb_id (Or.inl q)]
theorem asN_go {M : xM} {B : Nat → Int} {n : Nat} (h : IN M 0 B n) (h6 : n ≤ 6) : ∀ i, i ≤ n → (∀ j, j < i → isLt (B j) = true) → b_I_asName_11 0 0 0 M = b_I_asName_11 0 (pw B 0 i) (zi (i : Nat)) M := by
  intro i
  induction i with
  | zero =>
    intro _ _
    have e0 : pw B 0 0 = 0 := rfl
    have e1 : zi ((0 : Nat) : Int) = 0 := rfl
    rw [e0, e1]
  | succ i ih =>
    intro hi hl
    have := pw_or (B := B) (f := 0) (i := i) (by omega) (fun k hk => by
      have := of_decide_eq_true (hl k (by omega))
      rw [Nat.zero_add]; exact this)
    rw [Nat.zero_add] at this
    rw [ih (by omega) (fun j hj => hl j (by omega)), asN_step h (by omega), if_pos (hl i (by omega)), this]
theorem s_asName {M : xM} {B : Nat → Int} {n : Nat} (h : IN M 0 B n) : m_I_asName 0 M = some (.inl (some (0, .long (nmV B n))), M) := by
  have n6 := h.1
  rw [e_m_I_asName, h.2.1, zi_06, zif (by decide) (by decide) (by omega) (by omega)]
  by_cases c : 6 < n
  · rw [if_pos (by omega)]
    unfold nmV
    rw [if_neg (fun q => by omega)]
  · rw [if_neg (by omega)]
    unfold nmV
    by_cases q : allN n (fun i => isLt (B i)) = true
    · rw [if_pos ⟨by omega, q⟩, asN_go h (by omega) n (Nat.le_refl _) (fun j hj => allN_iff.mp q j hj), e_b_I_asName_11, h.2.1, if_neg (zi_irr _)]
    · rw [if_neg (fun z => q z.2)]
      have ex : ∃ i, i < n ∧ isLt (B i) = false := by
        cases e : anyN n (fun i => !isLt (B i)) with
        | true =>
          obtain ⟨i, hi, hp⟩ := anyN_iff.mp e
          exact ⟨i, hi, by simpa using hp⟩
        | false => exact absurd (by unfold allN; rw [e]; rfl) q
      obtain ⟨i, hi, hp⟩ := ex
      have lt2 := fstN_ex (P := fun i => !isLt (B i)) hi (by rw [hp]; rfl)
      have y1 := fstN_yes lt2
      have y2 : ¬ isLt (B (fstN (fun i => !isLt (B i)) n)) = true := by
        rw [Bool.not_eq_true'] at y1
        rw [y1]; decide
      rw [asN_go h (by omega) (fstN (fun i => !isLt (B i)) n) (by omega) (fun j hj => by
        have := fstN_no (P := fun i => !isLt (B i)) (n := n) j hj
        simpa using this), asN_step h lt2, if_neg y2]
theorem nmV_T {b B : Nat → Int} {n a : Nat} (hn : nmB b a) (hB : ∀ i, i < n → 0 ≤ B i ∧ B i < 256) : decide (pk b a = nmV B n) = nmE b a B 0 n := by
  unfold nmV
  by_cases q : n ≤ 6 ∧ allN n (fun i => isLt (B i)) = true
  · rw [if_pos q]
    exact nm_pk hn (by omega) (fun i hi => by
      rw [Nat.zero_add]
      exact of_decide_eq_true (allN_iff.mp q.2 i hi))
  · rw [if_neg q]
    have e1 : decide (pk b a = 0) = false := decide_eq_false (fun e => by
      have := nm_pk (B := B) (f := 0) (k := 0) hn (by decide) (fun i hi => absurd hi (Nat.not_lt_zero i))
      have e2 : pw B 0 0 = 0 := rfl
      rw [e2, decide_eq_true e] at this
      unfold nmE at this
      have h0 := hn.1
      rw [decide_eq_false (by omega)] at this
      cases this)
    rw [e1]
    symm
    unfold nmE
    by_cases c : b a = n
    · rw [decide_eq_true c, Bool.true_and]
      have h0 := hn.1
      cases e : allN n (fun i => decide (b (a + 1 + i) = B (0 + i))) with
      | false => rfl
      | true =>
        exfalso
        refine q ⟨by omega, allN_iff.mpr (fun i hi => ?_)⟩
        have e3 := of_decide_eq_true (allN_iff.mp e i hi)
        rw [Nat.zero_add] at e3
        have := hn.2 i (by omega)
        exact decide_eq_true (by omega)
    · rw [decide_eq_false c]; rfl
theorem q_findTask {M : xM} (hI : Inv M) : QR PT M (m_L_findTask 0 0 M) (m_M_findTask 0) := by
  obtain ⟨n, i1, i2⟩ := hI.2.2.2.1
  have hw := hI.1.1
  have hn := CP_n hI.1.2
  have bd := fnd_bd (fun t => nmE (bk M 0) (28 + 12 * t) (BB M) 0 n) (nT (bk M 0))
  have ee : fnd (fun t => decide (pk (bk M 0) (28 + 12 * t) = nmV (BB M) n)) (nT (bk M 0)) = fnd (fun t => nmE (bk M 0) (28 + 12 * t) (BB M) 0 n) (nT (bk M 0)) := fnd_congr (fun t ht => nmV_T (hw.2.2.1 t ht) (fun i hi => (i1.2.2 i hi).2))
  have cls : ∀ kL kH, xhI (m_C_findTask 0 M) kL kH = if fnd (fun t => nmE (bk M 0) (28 + 12 * t) (BB M) 0 n) (nT (bk M 0)) = -1 then kH 3 (xbump M 1 6) else kL (zi (fnd (fun t => nmE (bk M 0) (28 + 12 * t) (BB M) 0 n) (nT (bk M 0)))) M := fun kL kH => by
    rw [e_m_C_findTask, s_asName i1, xbL_r, s_taskNamed hI.1.2, xbI_r, ee, zi_m1, zife (by omega) (by omega) (by decide) (by decide)]
    split
    · rw [xhI_e]
    · rw [xhI_r]
  have ref : ∀ N, RB N (bk M 0) → IB N (BB M) → gi N 27 0 4 = zi n → m_M_taskNamed 0 0 (gi N 27 0 4) N = rI (zi (fnd (fun t => nmE (bk M 0) (28 + 12 * t) (BB M) 0 n) (nT (bk M 0)))) N := fun N hB hb h4 => by
    rw [h4]
    have := i1.1
    exact r_taskNamed hB (wF_N hw) hb (f := 0) (k := n) (by omega)
  by_cases c : fnd (fun t => nmE (bk M 0) (28 + 12 * t) (BB M) 0 n) (nT (bk M 0)) = -1
  · refine QR_f (c := 1) (v := 0) hI (by decide) ?_ ?_ (fz_refl _)
    · rw [e_m_L_findTask, cls, if_pos c, if_pos rfl]
    · rw [e_m_M_findTask, ref _ (RB_bmp (RB_bk M)) (fun k hk => ⟨(bump_gi (by decide)).trans (IB_BB M k hk).1, (IB_BB M k hk).2⟩) ((bump_gi (by decide)).trans i2.2.1), xbI_r, c, if_pos (show zi (-1) = (-1 : Int32) from rfl), r_F1]
  · refine QR_q (y := zi (fnd (fun t => nmE (bk M 0) (28 + 12 * t) (BB M) 0 n) (nT (bk M 0)))) hI (fr_refl M) ?_ ?_ (fz_refl _) trivial
    · rw [e_m_L_findTask, cls, if_neg c, xck_01]
      rfl
    · rw [e_m_M_findTask, ref _ (RB_out (RB_bk M) (fr_refl M)) (fun k hk => ⟨(gi_k (by decide)).trans (IB_BB M k hk).1, (IB_BB M k hk).2⟩) ((gi_k (by decide)).trans i2.2.1), xbI_r, zi_m1, zife (by omega) (by omega) (by decide) (by decide), if_neg c, r_F0]
theorem q_findResource {M : xM} (hI : Inv M) : QR PT M (m_L_findResource 0 0 M) (m_M_findResource 0) := by
  obtain ⟨n, i1, i2⟩ := hI.2.2.2.1
  have hw := hI.1.1
  have hn := CP_r hI.1.2
  have bd := fnd_bd (fun t => nmE (bk M 0) (4 + 8 * t) (BB M) 0 n) (nR (bk M 0))
  have ee : fnd (fun t => decide (pk (bk M 0) (4 + 8 * t) = nmV (BB M) n)) (nR (bk M 0)) = fnd (fun t => nmE (bk M 0) (4 + 8 * t) (BB M) 0 n) (nR (bk M 0)) := fnd_congr (fun t ht => nmV_T (hw.2.2.2.1 t ht) (fun i hi => (i1.2.2 i hi).2))
  have cls : ∀ kL kH, xhI (m_C_findResource 0 M) kL kH = if fnd (fun t => nmE (bk M 0) (4 + 8 * t) (BB M) 0 n) (nR (bk M 0)) = -1 then kH 3 (xbump M 1 6) else kL (zi (fnd (fun t => nmE (bk M 0) (4 + 8 * t) (BB M) 0 n) (nR (bk M 0)))) M := fun kL kH => by
    rw [e_m_C_findResource, s_asName i1, xbL_r, s_resNamed hI.1.2, xbI_r, ee, zi_m1, zife (by omega) (by omega) (by decide) (by decide)]
    split
    · rw [xhI_e]
    · rw [xhI_r]
  have ref : ∀ N, RB N (bk M 0) → IB N (BB M) → gi N 27 0 4 = zi n → m_M_resourceNamed 0 0 (gi N 27 0 4) N = rI (zi (fnd (fun t => nmE (bk M 0) (4 + 8 * t) (BB M) 0 n) (nR (bk M 0)))) N := fun N hB hb h4 => by
    rw [h4]
    have := i1.1
    exact r_resNamed hB (wF_N hw) hb (f := 0) (k := n) (by omega)
  by_cases c : fnd (fun t => nmE (bk M 0) (4 + 8 * t) (BB M) 0 n) (nR (bk M 0)) = -1
  · refine QR_f (c := 1) (v := 0) hI (by decide) ?_ ?_ (fz_refl _)
    · rw [e_m_L_findResource, cls, if_pos c, if_pos rfl]
    · rw [e_m_M_findResource, ref _ (RB_bmp (RB_bk M)) (fun k hk => ⟨(bump_gi (by decide)).trans (IB_BB M k hk).1, (IB_BB M k hk).2⟩) ((bump_gi (by decide)).trans i2.2.1), xbI_r, c, if_pos (show zi (-1) = (-1 : Int32) from rfl), r_F1]
  · refine QR_q (y := zi (fnd (fun t => nmE (bk M 0) (4 + 8 * t) (BB M) 0 n) (nR (bk M 0)))) hI (fr_refl M) ?_ ?_ (fz_refl _) trivial
    · rw [e_m_L_findResource, cls, if_neg c, xck_01]
      rfl
    · rw [e_m_M_findResource, ref _ (RB_out (RB_bk M) (fr_refl M)) (fun k hk => ⟨(gi_k (by decide)).trans (IB_BB M k hk).1, (IB_BB M k hk).2⟩) ((gi_k (by decide)).trans i2.2.1), xbI_r, zi_m1, zife (by omega) (by omega) (by decide) (by decide), if_neg c, r_F0]
theorem q_truncate {M : xM} (hI : Inv M) (x : Int32) : QR PT M (m_L_truncate 0 x 0 M) (m_M_truncate 0 x) := by
  obtain ⟨x, rfl, h1, h2⟩ := zi_ex x
  obtain ⟨n, i1, i2⟩ := hI.2.2.2.1
  have n6 := i1.1
  have rin : ∀ {N : xM}, gi N 27 0 4 = zi n → m_M_in (zi x) 0 (gi N 27 0 4) N = rI (bz (decide (0 ≤ x ∧ x ≤ n))) N := fun {N} h4 => by
    rw [h4]
    exact r_inr (a := 0) (c := n) h1 h2 (by decide) (by decide) (by omega) (by omega)
  have cls : ∀ kL kH, xhI (m_C_truncate 0 (zi x) M) kL kH = if 0 ≤ x ∧ x ≤ n then kL (zi x) (xst M 19 0 1 (.int (zi x))) else kH 1 (xbump M 1 6) := fun kL kH => by
    rw [e_m_C_truncate, i1.2.1, zi_00, zif h1 h2 (by decide) (by decide), zif (by omega) (by omega) h1 h2]
    by_cases q : x < 0
    · rw [if_pos q, if_neg (by omega), xhI_e]
    · rw [if_neg q]
      by_cases q2 : (n : Int) < x
      · rw [if_pos q2, if_neg (by omega), xhI_e]
      · rw [if_neg q2, if_pos (by omega), xhI_r]
  by_cases c : 0 ≤ x ∧ x ≤ n
  · have j1 : fz onJ M (xst (xst M 19 0 1 (.int (zi x))) 39 0 0 (.long (Int32.toInt64 (zi x)))) := fz_step (fz_st rfl) rfl
    have j2 : fz onJ (xst (xst M 19 0 1 (.int (zi x))) 39 0 0 (.long (Int32.toInt64 (zi x)))) (xst (xst (xst (xst M 19 0 1 (.int (zi x))) 39 0 0 (.long (Int32.toInt64 (zi x)))) 27 0 9 (.int 0)) 27 0 4 (.int (zi x))) := fz_step (fz_st rfl) rfl
    refine ⟨0, xst (xst M 19 0 1 (.int (zi x))) 39 0 0 (.long (Int32.toInt64 (zi x))), xst (xst (xst (xst M 19 0 1 (.int (zi x))) 39 0 0 (.long (Int32.toInt64 (zi x)))) 27 0 9 (.int 0)) 27 0 4 (.int (zi x)), zi x, ?_, ?_, ?_, fun _ => ⟨?_, trivial⟩, SF_J j1, SF_J j2, ?_, RM_le (RM_J (fz_trans j1 j2)) (by decide) (by decide)⟩
    · rw [e_m_L_truncate, cls, if_pos c, xck_01]
      rfl
    · rw [e_m_M_truncate, rin ((gi_k (by decide)).trans ((gi_k (by decide)).trans i2.2.1)), xbI_r, decide_eq_true c, ite_bt, r_F0]
    · rw [gi_s (by decide), gi_h]
    · rw [gl_k (by decide), gl_k (by decide), gl_h]
    · refine Inv_N hI (fz_step (fz_step (fz_step (fz_st rfl) rfl) rfl) rfl) (INP_of (B := BB M) (n := x.toNat) ⟨by omega, ?_, fun k hk => ?_⟩ ⟨by omega, ?_, fun k hk => ?_⟩)
      · rw [gi_k (by decide), gi_k (by decide), gi_k (by decide), gi_h]; congr 1; omega
      · rw [gi_k (by decide), gi_k (by decide), gi_k (by decide), gi_k (by decide)]; exact i1.2.2 k (by omega)
      · rw [gi_h]; congr 1; omega
      · rw [gi_k (by decide), gi_k (by decide), gi_k (by decide), gi_k (by decide)]; exact i2.2.2 k (by omega)
  · refine QR_f (c := 1) (v := 0) hI (by decide) ?_ ?_ (fz_refl _)
    · rw [e_m_L_truncate, cls, if_neg c, if_pos rfl]
    · rw [e_m_M_truncate, rin ((bump_gi (by decide)).trans i2.2.1), xbI_r, decide_eq_false c, ite_bf, r_F1]
