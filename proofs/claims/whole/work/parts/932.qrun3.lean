/-! the call runScript: it succeeds -/
theorem BK_Ex {M M' : xM} (f : fz onEx M M') : fz onBK M M' := fz_mono (fun k o s h => by
  unfold onEx at h
  rcases Bool.or_eq_true_iff.mp h with h | h
  · unfold onBK; rw [h, Bool.or_true]
  · unfold on32 at h
    obtain ⟨h1, h2⟩ := Bool.and_eq_true_iff.mp h
    unfold onBK onB
    rw [h1, Nat.eq_of_beq_eq_true h2]; rfl) f
theorem kH {k o s : Nat} (h : onH k o s = true) : (k = 27 ∧ s = 2) ∨ (k = 28 ∧ s < 2212) := by
  unfold onH at h
  rcases Bool.or_eq_true_iff.mp (Bool.and_eq_true_iff.mp h).2 with e | e
  · obtain ⟨h1, h2⟩ := Bool.and_eq_true_iff.mp e
    exact Or.inl ⟨Nat.eq_of_beq_eq_true h1, Nat.eq_of_beq_eq_true h2⟩
  · obtain ⟨h1, h2⟩ := Bool.and_eq_true_iff.mp e
    have h3 : s < 2212 := Nat.le_of_ble_eq_true (Bool.and_eq_true_iff.mp h2).2
    exact Or.inr ⟨Nat.eq_of_beq_eq_true h1, h3⟩
theorem kEx {k o s : Nat} (h : onEx k o s = true) : (k = 28 ∧ s < 316) ∨ k = 32 := by
  unfold onEx at h
  rcases Bool.or_eq_true_iff.mp h with h | h
  · unfold on280 at h
    obtain ⟨h1, h2⟩ := Bool.and_eq_true_iff.mp h
    have h2 : s < 316 := Nat.le_of_ble_eq_true h2
    exact Or.inl ⟨Nat.eq_of_beq_eq_true (Bool.and_eq_true_iff.mp h1).2, h2⟩
  · unfold on32 at h
    exact Or.inr (Nat.eq_of_beq_eq_true (Bool.and_eq_true_iff.mp h).2)
theorem konP {p k o : Nat} (h : onP p k o = true) : 2 ≤ k ∧ k ≤ 9 ∧ o = p := by
  unfold onP at h
  obtain ⟨h1, h2⟩ := Bool.and_eq_true_iff.mp h
  obtain ⟨h3, h4⟩ := Bool.and_eq_true_iff.mp h1
  exact ⟨Nat.le_of_ble_eq_true h3, Nat.le_of_ble_eq_true h4, Nat.eq_of_beq_eq_true h2⟩
theorem kCH {p k o s : Nat} (h : onCH p k o s = true) : k = 17 ∨ (2 ≤ k ∧ k ≤ 9 ∧ o = p) := by
  unfold onCH at h
  rcases Bool.or_eq_true_iff.mp h with h | h
  · exact Or.inl (Nat.eq_of_beq_eq_true (Bool.and_eq_true_iff.mp h).1)
  · exact Or.inr (konP h)
/-- all but what is kept for good, and all but texts and constants -/
def onQv (k o s : Nat) : Bool := decide (¬ (k = 26 ∨ k = 29 ∨ (2 ≤ k ∧ k ≤ 9 ∧ (o = 7 ∨ o = 8)) ∨ (k = 28 ∧ 2212 ≤ s)) ∧ ((2 ≤ k ∧ k ≤ 30) ∨ (32 ≤ k ∧ k ≤ 39) ∨ k = 100) ∧ (k = 27 → s ≠ 8))
theorem Qv_K {K : Nat → Nat → Nat → Bool} {M M' : xM} (f : fz K M M') (h : ∀ k o s, K k o s = true → ¬ (k = 26 ∨ k = 29 ∨ (2 ≤ k ∧ k ≤ 9 ∧ (o = 7 ∨ o = 8)) ∨ (k = 28 ∧ 2212 ≤ s)) ∧ ((2 ≤ k ∧ k ≤ 30) ∨ (32 ≤ k ∧ k ≤ 39) ∨ k = 100) ∧ (k = 27 → s ≠ 8)) : fz onQv M M' := fz_mono (fun k o s q => decide_eq_true (h k o s q)) f
theorem SAV_Qv {M M' : xM} (h : SAV M) (f : fz onQv M M') : SAV M' := fun s hs => by
  obtain ⟨fl, s1, s2, s3⟩ := h s hs
  have nq : ∀ {k o s : Nat}, (k = 26 ∨ k = 29 ∨ (2 ≤ k ∧ k ≤ 9 ∧ (o = 7 ∨ o = 8)) ∨ (k = 28 ∧ 2212 ≤ s)) → onQv k o s = false := fun h => decide_eq_false (fun q => q.1 h)
  refine ⟨fl, (fz_gi f (nq (by omega))).trans s1, (fz_gi f (nq (by omega))).trans s2, fun q => ?_⟩
  have e := bk_fz f (i := 7 + s) (fun k _ => nq (by omega))
  unfold PLN
  rw [e]
  exact ⟨(s3 q).1, CP_fz (s3 q).2 f (fun k u a c => nq (by omega))⟩
theorem Ov_Qv {M M' : xM} (f : fz onQv M M') : fz onOv M M' := fz_mono (fun k o s h => by
  have h := of_decide_eq_true h
  unfold onOv
  by_cases c : k = 38
  · subst c
    exact Bool.or_true _
  · rw [onOu_t (by omega) h.2.2]
    rfl) f
theorem CMS_k {M M' N N' : xM} {B : Nat → Int} {n : Nat} {b : Nat → Int} {c : Nat} (h : CMS M M' B n b c) (e : ∀ i s, N 24 i s = M 24 i s) (e' : ∀ s, gi N' 38 0 s = gi M' 38 0 s) : CMS N N' B n b c := fun j hj => by
  obtain ⟨κ, w1, w2⟩ := h j hj
  exact ⟨κ, w1, CM_eq w2 (fun s => e j s) (fun s _ => e' _)⟩
theorem q_run_yes {M : xM} (hI : Inv M) {n many : Nat} (i2 : IR M (BB M) n) {M1 : xM} (e1 : m_R_read 0 0 9 M = rI (bz true) M1) (f1 : fz onCS M M1) (m30 : many ≤ 30) (m22 : gi M1 22 0 1 = zi (many : Nat)) (e8 : gi M1 21 0 8 = zi 0) (e9 : gi M1 21 0 9 = zi (-1)) (hN : ∀ N, RT N (BB M) n 0 → RB N (bk M 0) → GB N → ∃ N1, m_M_parseScript 0 N = rI (zi (many : Nat)) N1 ∧ fz onVS N N1 ∧ GB N1 ∧ fz onVS8 N N1 ∧ CMS M1 N1 (BB M) n (bk M 0) many) : QR PT M (m_L_runScript 0 0 M) (m_M_runScript 0) := by
  have hK := hI.2.2.2.2.2.2.1
  have hG := hI.2.2.2.2.2.2.2
  have hw := hI.1.1
  have hn := i2.1
  have l1 : fz onSc M (xst M1 19 0 1 (.int 0)) := fz_trans (Sc_K f1 (fun k o s h => by have := kCS h; omega)) (Sc_st (by omega))
  have P1 := PLN_Sc hI.1 l1
  have H1 := HIS_Sc hI.2.1 l1
  have K1 : KC (xst M1 19 0 1 (.int 0)) := KC_fz hK l1 (fun k o s q => Sc_f (by omega))
  -- the class remembers
  obtain ⟨C, w, g1, g2, g3, g4, g5, g6⟩ := H1
  obtain ⟨A2, ea, hA⟩ := s_remember g1 g2 g4 g5
  have bkM1 : bk (xst M1 19 0 1 (.int 0)) 0 = bk M 0 := bk_fz l1 (fun k _ => Sc_f (by omega))
  have P1' := P1
  unfold PLN at P1'
  rw [bkM1] at P1'
  have c2 : CP A2 9 (bk M 0) := CH_CP hA P1'.2
  have K2 : KC A2 := by
    have hA' := hA
    obtain ⟨_, _, _, _, _, _, _, _, fA, _⟩ := hA'
    exact KC_fz K1 fA (fun k o s q => onCH_f (by omega) (by omega))
  have a24 : ∀ i s, A2 24 i s = M1 24 i s := fun i s => by
    have hA' := hA
    obtain ⟨_, _, _, _, _, _, _, _, fA, _⟩ := hA'
    rw [fA 24 i s (onCH_f (by decide) (by omega))]
    unfold xst
    rw [if_neg (fun q => absurd q.1 (by decide))]
  have a22 : gi A2 22 0 1 = zi (many : Nat) := (CH_gi hA (by decide) (by omega)).trans ((gi_k (by decide)).trans m22)
  -- what the class's run comes to: read beside a store that is only thought of
  obtain ⟨D, _, dW, hD, _, _⟩ := r_begin i2 hK (IB_BB M)
  obtain ⟨D1, _, dV, dG, _, dC⟩ := hN D hD (RB_fz (RB_bk M) dW (fun s => onW_k (by decide))) (GB_W dW hG)
  have nS : ∀ {k o s : Nat}, k ≠ 27 → k ≠ 38 → onVS k o s = false := fun {k o s} h h2 => by
    cases e : onVS k o s with
    | false => rfl
    | true => have := (kVS e).2; omega
  have rbD : RB D1 (bk M 0) := fun k hk => (fz_gi dV (nS (by decide) (by decide))).trans ((fz_gi dW (onW_k (by decide))).trans (RB_bk M k hk))
  have ibD : IB D1 (BB M) := fun k hk => ⟨(fz_gi dV (nS (by decide) (by decide))).trans ((fz_gi dW (onW_k (by decide))).trans (IB_BB M k hk).1), (IB_BB M k hk).2⟩
  obtain ⟨k, A3, _, b1, r3, _, k30, f3, _, _, _, _, _⟩ := both_run (B := BB M) (n := n) hn (wF_N hw) m30 many 0 A2 D1 (bk M 0) (by omega) c2 rbD hw (RN_refl _) K2 ibD dG a22 (CMS_k dC a24 (fun s => rfl))
  have l2 : fz onJ M A3 := fz_trans (J_K f1 (fun k o s h => by have := kCS h; omega)) (fz_trans (fz_st rfl) (fz_trans (CH_J hA) (onJ_P9 f3)))
  have aA : ∀ {k o s : Nat}, k ≠ 17 → (k < 2 ∨ 9 < k) → gi A3 k o s = gi (xst M1 19 0 1 (.int 0)) k o s := fun h1 h2 => (fr_gi f3 (onP_k (by omega)) _).trans (CH_gi hA h1 h2)
  -- the reference
  generalize hA4 : xst A3 39 0 0 (.long (Int32.toInt64 (zi (k : Nat)))) = A
  have aN : ∀ {k' o s : Nat}, k' ≠ 39 → gi A k' o s = gi A3 k' o s := fun h => by rw [← hA4, gi_k h]
  have x30 : ∀ s, gi A 30 0 s = gi M 30 0 s := fun s => by
    rw [aN (by decide), aA (by decide) (by omega), fz_gi l1 (Sc_f (by omega))]
  have x4 : gi A 27 0 4 = zi n := by
    rw [aN (by decide), aA (by decide) (by omega), gi_k (by decide), fz_gi f1 rfl]; exact i2.2.1
  have iA : IR A (BB M) n := ⟨i2.1, x4, fun k hk => ⟨(x30 k).trans (i2.2.2 k hk).1, (i2.2.2 k hk).2⟩⟩
  have kA3 : KC A3 := KC_fz K2 (fr_fz f3) (fun k o s q => onP_k (by omega))
  have kA : KC A := by rw [← hA4]; exact KC_fz kA3 (fz_st (K := fun k _ _ => Nat.beq k 39) rfl) (fun k o s q => beq_ff (by omega))
  have bA : IB A (BB M) := fun k hk => ⟨(x30 k).trans (IB_BB M k hk).1, (IB_BB M k hk).2⟩
  have rbA : RB A (bk M 0) := fun k hk => by
    rw [aN (by decide), aA (by decide) (by omega), fz_gi l1 (Sc_f (by omega))]; exact RB_bk M k hk
  have gA : GB A := GB_eq hG (fun s => by rw [aN (by decide), aA (by decide) (by omega), gi_k (by decide), fz_gi f1 rfl])
  obtain ⟨N1, q1, w1, hR, h5, h6⟩ := r_begin iA kA bA
  obtain ⟨N2, q2, w2, gN, w8, cN⟩ := hN N1 hR (RB_fz rbA w1 (fun s => onW_k (by decide))) (GB_W w1 gA)
  generalize hN3 : xst (xst N2 27 0 4 (.int 0)) 27 0 9 (.int 0) = N3
  have f27 : fz (fun k _ s => Nat.beq k 27 && (Nat.beq s 4 || Nat.beq s 9)) N2 N3 := by rw [← hN3]; exact fz_step (fz_st rfl) rfl
  have fin3 : ∀ {k o s : Nat}, k ≠ 27 → k ≠ 38 → gi N3 k o s = gi A k o s := fun {k o s} h h2 => by
    rw [fz_gi f27 (by rw [beq_ff h]; rfl), fz_gi w2 (nS h h2), fz_gi w1 (onW_k h)]
  have n2 : gi N3 27 0 2 = zi C := by
    have nv : onVS 27 0 2 = false := rfl
    have nw : onW 27 0 2 = false := rfl
    rw [fz_gi f27 rfl, fz_gi w2 nv, fz_gi w1 nw, aN (by decide), aA (by decide) (by omega)]; exact g3
  obtain ⟨N4, q4, hH⟩ := r_rem g1 n2
  have rb4 : RB N4 (bk M 0) := RB_H (fun k hk => (fin3 (by decide) (by decide)).trans (rbA k hk)) (RH_H hH)
  have h4 : ∀ {k o s : Nat}, k ≠ 27 → k ≠ 28 → onH k o s = false := fun {k o s} a c => by
    unfold onH
    rw [beq_ff a, beq_ff c]
    cases Nat.beq o 0 <;> rfl
  have ib4 : IB N4 (BB M) := fun k hk => ⟨(fz_gi (RH_H hH) (h4 (by decide) (by decide))).trans ((fin3 (by decide) (by decide)).trans (bA k hk).1), (bA k hk).2⟩
  have g38 : ∀ s, gi N4 38 0 s = gi N2 38 0 s := fun s => (fz_gi (RH_H hH) (h4 (by decide) (by decide))).trans (fz_gi f27 rfl)
  have gb4 : GB N4 := GB_eq gN g38
  obtain ⟨k', A3', N5, b2, r3', r5, k30', f3', fE, cp2, rb5, wf2, _⟩ := both_run (B := BB M) (n := n) hn (wF_N hw) m30 many 0 A2 N4 (bk M 0) (by omega) c2 rb4 hw (RN_refl _) K2 ib4 gb4 a22 (CMS_k cN a24 g38)
  obtain ⟨z1, z2⟩ := rI_inj (r3.symm.trans r3')
  have ek : k' = k := by have := zi_inj (by omega) (by omega) (by omega) (by omega) z1; omega
  subst z2
  subst ek
  have q0 : ∀ (p : Nat) (b : Nat → Int), 1 ≤ p → CP A3 p b → CP N3 p b := fun p b hp h => by
    have t1 : CP A p b := by rw [← hA4]; exact CP_fz h (fz_st (K := fun k _ _ => Nat.beq k 39) rfl) (fun k s a c => beq_ff (by omega))
    have t2 : CP N1 p b := CP_fz t1 w1 (fun k s a c => onW_k (by omega))
    have t3 : CP N2 p b := CP_fz t2 w2 (fun k s a c => nS (by omega) (by omega))
    exact CP_fz t3 f27 (fun k s a c => by rw [beq_ff (show k ≠ 27 by omega)]; rfl)
  obtain ⟨F1, F2⟩ := HIS_chg P1 ⟨C, w, g1, g2, g3, g4, g5, g6⟩ hA f3 (fun s => (fin3 (by decide) (by decide)).trans (aN (by decide))) (fun s => (fin3 (by decide) (by decide)).trans (aN (by decide))) (by
    have nv : onVS 27 0 2 = false := rfl
    have nw : onW 27 0 2 = false := rfl
    rw [fz_gi f27 rfl, fz_gi w2 nv, fz_gi w1 nw, aN (by decide)]) q0 hH (BK_Ex fE) cp2 rb5 wf2
  have fE' : ∀ {k o s : Nat}, k ≠ 28 → k ≠ 32 → gi N5 k o s = gi N4 k o s := fun h h2 => fz_gi fE (onEx_k h h2)
  have j2 : fz onJ A N5 := fz_trans (J_K w1 (fun k o s h => by have := (kV (kW h)).2; omega)) (fz_trans (J_K w2 (fun k o s h => by have := (kVS h).2; omega)) (fz_trans (J_K f27 (fun k o s h => by have := Nat.eq_of_beq_eq_true (Bool.and_eq_true_iff.mp h).1; omega)) (fz_trans (J_H (RH_H hH)) (onJ_BK (BK_Ex fE)))))
  have j1 : fz onJ M A := by rw [← hA4]; exact fz_step l2 rfl
  have qv : fz onQv M N5 := by
    have hA' := hA
    obtain ⟨_, w', _, hw', _, _, _, _, fA, _⟩ := hA'
    refine fz_trans (Qv_K l1 (fun k o s h => by have := of_decide_eq_true h; omega)) (fz_trans (Qv_K fA (fun k o s h => by have := kCH h; omega)) (fz_trans (Qv_K (fr_fz f3) (fun k o s h => by have := konP h; omega)) (fz_trans (by rw [← hA4]; exact fz_st rfl) (fz_trans (Qv_K w1 (fun k o s h => ?_)) (fz_trans (Qv_K w2 (fun k o s h => by have := (kVS h).2; omega)) (fz_trans (Qv_K f27 (fun k o s h => ?_)) (fz_trans (Qv_K (RH_H hH) (fun k o s h => by have := kH h; omega)) (Qv_K fE (fun k o s h => by have := kEx h; omega)))))))))
    · have q := (kV (kW h)).2
      unfold onW at h
      have := Nat.eq_of_beq_eq_true (Bool.and_eq_true_iff.mp (Bool.and_eq_true_iff.mp h).1).1
      omega
    · obtain ⟨a, c⟩ := Bool.and_eq_true_iff.mp h
      have := Nat.eq_of_beq_eq_true a
      rcases Bool.or_eq_true_iff.mp c with c | c
      · have := Nat.eq_of_beq_eq_true c; omega
      · have := Nat.eq_of_beq_eq_true c; omega
  have v5 : ∀ s, (s = 5 ∨ s = 6) → gi N5 27 0 s = gi N1 27 0 s := fun s hs => by
    have n8 : onVS8 27 0 s = false := by rcases hs with rfl | rfl <;> rfl
    have n9 : onH 27 0 s = false := by rcases hs with rfl | rfl <;> rfl
    rw [fz_gi fE (onEx_k (by decide) (by decide)), fz_gi (RH_H hH) n9, fz_gi f27 (by rcases hs with rfl | rfl <;> rfl), fz_gi w8 n8]
  have a21 : ∀ s, gi N5 21 0 s = gi M1 21 0 s := fun s => by
    rw [fz_gi fE (onEx_k (by decide) (by decide)), fz_gi (RH_H hH) (h4 (by decide) (by decide)), fin3 (by decide) (by decide), aN (by decide), aA (by decide) (by omega), gi_k (by decide)]
  refine ⟨0, A, N5, zi (k' : Nat), ?_, ?_, ?_, fun _ => ⟨?_, trivial⟩, SF_J j1, SF_J j2, Inv_mk2 hI (Ov_Qv qv) F1 F2 (SAV_Qv hI.2.2.1 qv) (INP_0 ?_ ?_) ⟨?_, ?_⟩ (GB_eq gb4 (fun s => fz_gi fE (onEx_k (by decide) (by decide)))), RM_le (RM_J (fz_trans j1 j2)) (by decide) (by decide)⟩
  · have r3 : b_R_runOn_3 0 9 0 A2 = _ := r3
    rw [e_m_L_runScript, e_m_C_runScript, e1, xbI_r, ite_bt, ea, xbV_r, e_m_R_runOn, r3, xbI_r, xhI_r, xck_01, ← hA4]
    rfl
  · have r5 : b_M_runScript_27 0 (zi (many : Nat)) 0 N4 = _ := r5
    rw [e_m_M_runScript, q1, xbV_r, q2, xbI_r, if_neg (fun q => by rw [zi_m1, zi_eq (by omega) (by omega) (by decide) (by decide)] at q; omega), r_F0, hN3, q4, xbV_r, r5]
  · rw [fz_gi fE (onEx_k (by decide) (by decide)), fz_gi (RH_H hH) rfl, ← hN3, gi_h]
  · have : gl N5 39 0 0 = gl A 39 0 0 := by
      rw [fz_gl fE (onEx_k (by decide) (by decide)), fz_gl (RH_H hH) (h4 (by decide) (by decide)), fz_gl f27 rfl, fz_gl w2 (nS (by decide) (by decide)), fz_gl w1 (onW_k (by decide))]
    rw [this, ← hA4, gl_h]
  · rw [fz_gi fE (onEx_k (by decide) (by decide)), fz_gi (RH_H hH) (h4 (by decide) (by decide)), fin3 (by decide) (by decide), aN (by decide), aA (by decide) (by omega), gi_h]
  · rw [fz_gi fE (onEx_k (by decide) (by decide)), fz_gi (RH_H hH) rfl, ← hN3, gi_s (by decide), gi_h]
  · rw [a21, e8, v5 5 (Or.inl rfl), h5]
  · rw [a21, e9, v5 6 (Or.inr rfl), h6]
theorem q_runScript {M : xM} (hI : Inv M) : QR PT M (m_L_runScript 0 0 M) (m_M_runScript 0) := by
  obtain ⟨n, i1, i2⟩ := hI.2.2.2.1
  have hK := hI.2.2.2.2.2.2.1
  have hG := hI.2.2.2.2.2.2.2
  obtain ⟨D, _, dW, hD, _⟩ := r_begin i2 hK (IB_BB M)
  obtain ⟨ok, many, M1, e1, f1, er, hN⟩ := script_both i1 hK hI.1.2 (wF_N hI.1.1) hD (RB_fz (RB_bk M) dW (fun s => onW_k (by decide))) (GB_W dW hG)
  cases ok with
  | false => exact q_run_no hI i2 e1 f1 (fun N a c d => by
      obtain ⟨N1, x1, x2, x3, _, x5⟩ := hN N a c d
      exact ⟨N1, x1, x2, x3, x5 rfl⟩)
  | true =>
    obtain ⟨a1, a2, a3, a4⟩ := er rfl
    exact q_run_yes hI i2 e1 f1 a1 a2 a3 a4 (fun N a c d => by
      obtain ⟨N1, x1, x2, x3, x4, _⟩ := hN N a c d
      exact ⟨N1, x1, x2, x3, (x4 rfl).1, (x4 rfl).2⟩)
