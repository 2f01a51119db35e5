/-! the call runScript -/
def onOv (k o s : Nat) : Bool := onOu k o s || Nat.beq k 38
theorem Inv_mk2 {M N : xM} (h : Inv M) (f : fz onOv M N) (p : PLN N 9 0) (hh : HIS N) (hs : SAV N) (hi : INP N) (he : ERR N) (hg : GB N) : Inv N := by
  obtain ⟨_, _, _, _, _, ⟨len, t, t1, ⟨x1, x2, x3, x4⟩, t3, t4⟩, h7, h8⟩ := h
  have eo : gn N 1 0 8 = gn M 1 0 8 := fz_gn f rfl
  refine ⟨p, hh, hs, hi, he, ⟨len, t, t1, ⟨?_, ?_, ?_, fun i => ?_⟩, (fz_gi f rfl).trans t3, fun i hi => (fz_gi f rfl).trans (t4 i hi)⟩, KC_fz h7 f (fun k o s q => ?_), hg⟩
  · rw [eo, fz_gn f rfl]; exact x1
  · rw [eo, fz_gn f rfl]; exact x2
  · rw [eo, fz_gi f rfl]; exact x3
  · rw [eo, fz_gi f rfl]; exact x4 i
  · rcases q with rfl | rfl | rfl | rfl | rfl | rfl | ⟨rfl | rfl | rfl | rfl, _⟩ <;> rfl
/-- what the reading of a script touches: neither plans nor blocks -/
def onSc (k o s : Nat) : Bool := decide (k = 19 ∨ k = 21 ∨ k = 22 ∨ k = 24 ∨ k = 38 ∨ k = 39 ∨ k = 100 ∨ (k = 27 ∧ s ≠ 2 ∧ s ≠ 8))
theorem Sc_K {K : Nat → Nat → Nat → Bool} {M M' : xM} (f : fz K M M') (h : ∀ k o s, K k o s = true → k = 19 ∨ k = 21 ∨ k = 22 ∨ k = 24 ∨ k = 38 ∨ k = 39 ∨ k = 100 ∨ (k = 27 ∧ s ≠ 2 ∧ s ≠ 8)) : fz onSc M M' := fz_mono (fun k o s q => decide_eq_true (h k o s q)) f
theorem Sc_st {M : xM} {k o s : Nat} {v : Value} (h : k = 19 ∨ k = 21 ∨ k = 22 ∨ k = 24 ∨ k = 38 ∨ k = 39 ∨ k = 100 ∨ (k = 27 ∧ s ≠ 2 ∧ s ≠ 8)) : fz onSc M (xst M k o s v) := fz_st (decide_eq_true h)
theorem Ov_Sc {M M' : xM} (f : fz onSc M M') : fz onOv M M' := fz_mono (fun k o s h => by
  have h := of_decide_eq_true h
  unfold onOv
  by_cases c : k = 38
  · subst c
    exact Bool.or_true _
  · rw [onOu_t (by omega) (fun e => by omega)]
    rfl) f
theorem Sc_f {k o s : Nat} (h : ¬ (k = 19 ∨ k = 21 ∨ k = 22 ∨ k = 24 ∨ k = 38 ∨ k = 39 ∨ k = 100 ∨ (k = 27 ∧ s ≠ 2 ∧ s ≠ 8))) : onSc k o s = false := decide_eq_false h
theorem PLN_Sc {M M' : xM} {p i : Nat} (h : PLN M p i) (f : fz onSc M M') : PLN M' p i := PLN_fz h f (fun s => Sc_f (by omega)) (fun k s a c => Sc_f (by omega))
theorem HIS_Sc {M M' : xM} (h : HIS M) (f : fz onSc M M') : HIS M' := by
  obtain ⟨C, w, g1, g2, g3, g4, g5, g6⟩ := h
  exact ⟨C, w, g1, g2, (fz_gi f (Sc_f (by omega))).trans g3, (fz_gi f (Sc_f (by omega))).trans g4, (fz_gi f (Sc_f (by omega))).trans g5, fun j hj => PLN_Sc (g6 j hj) f⟩
theorem SAV_Sc {M M' : xM} (h : SAV M) (f : fz onSc M M') : SAV M' := fun s hs => by
  obtain ⟨fl, s1, s2, s3⟩ := h s hs
  exact ⟨fl, (fz_gi f (Sc_f (by omega))).trans s1, (fz_gi f (Sc_f (by omega))).trans s2, fun q => PLN_Sc (s3 q) f⟩
theorem q_run_no {M : xM} (hI : Inv M) {n : Nat} (i2 : IR M (BB M) n) {M1 : xM} (e1 : m_R_read 0 0 9 M = rI (bz false) M1) (f1 : fz onCS M M1) (hN : ∀ N, RT N (BB M) n 0 → RB N (bk M 0) → GB N → ∃ N1, m_M_parseScript 0 N = rI (zi (-1)) N1 ∧ fz onVS N N1 ∧ GB N1 ∧ ∃ c f, EC M1 0 c f ∧ ER N1 c f) : QR PT M (m_L_runScript 0 0 M) (m_M_runScript 0) := by
  have hK := hI.2.2.2.2.2.2.1
  have hG := hI.2.2.2.2.2.2.2
  have l2 : fz onSc M (xbump (xst M1 19 0 1 (.int 0)) 1 6) := fz_trans (Sc_K f1 (fun k o s h => by have := kCS h; omega)) (fz_trans (Sc_st (by omega)) (fun k o s q => bump_n _ _ _ _ _ _ (fun e => by
    have := of_decide_eq_false q
    omega)))
  have j1 : fz onJ M (xst M1 19 0 1 (.int 0)) := fz_step (J_K f1 (fun k o s h => by have := kCS h; omega)) rfl
  have sA : SF M (xbump (xst M1 19 0 1 (.int 0)) 1 6) := SF_trans (SF_J j1) (SF_bump _ _ _)
  have mA : RM M (xbump (xst M1 19 0 1 (.int 0)) 1 6) 1 6 := RM_le (RM_trans (RM_J j1) (RM_bump _ _ _)) (by decide) (by decide)
  have a19 : gi (xbump (xst M1 19 0 1 (.int 0)) 1 6) 19 0 1 = 0 := (bump_gi (by decide)).trans (gi_h _ _ _ _ _)
  have cA : ∀ {k o s : Nat}, k ≠ 19 → k ≠ 100 → gi (xbump (xst M1 19 0 1 (.int 0)) 1 6) k o s = gi M1 k o s := fun h1 h2 => (bump_gi h2).trans (gi_k h1)
  have x4 : gi (xbump (xst M1 19 0 1 (.int 0)) 1 6) 27 0 4 = zi n := (cA (by decide) (by decide)).trans ((fz_gi f1 rfl).trans i2.2.1)
  generalize hA : xbump (xst M1 19 0 1 (.int 0)) 1 6 = A at *
  have x30 : ∀ s, gi A 30 0 s = gi M 30 0 s := fun s => fz_gi l2 (Sc_f (by omega))
  have iA : IR A (BB M) n := ⟨i2.1, x4, fun k hk => ⟨(x30 k).trans (i2.2.2 k hk).1, (i2.2.2 k hk).2⟩⟩
  have kA : KC A := KC_fz hK l2 (fun k o s q => Sc_f (by omega))
  have bA : IB A (BB M) := fun k hk => ⟨(x30 k).trans (IB_BB M k hk).1, (IB_BB M k hk).2⟩
  obtain ⟨N1, r1, w1, hR, _, _⟩ := r_begin iA kA bA
  have rbA : RB A (bk M 0) := fun k hk => (fz_gi l2 (Sc_f (by omega))).trans (RB_bk M k hk)
  have gA : GB A := GB_eq hG (fun s => (cA (by decide) (by decide)).trans (fz_gi f1 rfl))
  obtain ⟨N2, r2, w2, gN, c, f, ec, ef⟩ := hN N1 hR (RB_fz rbA w1 (fun s => onW_k (by decide))) (GB_W w1 gA)
  have l3 : fz onSc M (xst (xst N2 27 0 4 (.int 0)) 27 0 9 (.int 1)) := fz_trans l2 (fz_trans (Sc_K w1 (fun k o s h => by have := (kV (kW h)).2; unfold onW at h; have := Nat.eq_of_beq_eq_true (Bool.and_eq_true_iff.mp (Bool.and_eq_true_iff.mp h).1).1; omega)) (fz_trans (Sc_K w2 (fun k o s h => by have := (kVS h).2; omega)) (fz_trans (Sc_st (by omega)) (Sc_st (by omega)))))
  have j2 : fz onJ A (xst (xst N2 27 0 4 (.int 0)) 27 0 9 (.int 1)) := fz_step (fz_step (fz_trans (J_K w1 (fun k o s h => by have := (kV (kW h)).2; omega)) (J_K w2 (fun k o s h => by have := (kVS h).2; omega))) rfl) rfl
  have nW : ∀ {k o s : Nat}, k ≠ 27 → onW k o s = false := fun h => onW_k h
  have nS : ∀ {k o s : Nat}, k ≠ 27 → k ≠ 38 → onVS k o s = false := fun {k o s} h h2 => by
    cases e : onVS k o s with
    | false => rfl
    | true => have := (kVS e).2; omega
  have fin : ∀ {k o s : Nat}, k ≠ 27 → k ≠ 38 → gi (xst (xst N2 27 0 4 (.int 0)) 27 0 9 (.int 1)) k o s = gi A k o s := fun {k o s} h h2 => by
    rw [gi_k h, gi_k h, fz_gi w2 (nS h h2), fz_gi w1 (nW h)]
  refine ⟨1, A, xst (xst N2 27 0 4 (.int 0)) 27 0 9 (.int 1), 0, ?_, ?_, gi_h _ _ _ _ _, fun q => absurd q (by decide), sA, SF_J j2, Inv_mk2 hI (Ov_Sc l3) (PLN_Sc hI.1 l3) (HIS_Sc hI.2.1 l3) (SAV_Sc hI.2.2.1 l3) (INP_0 ?_ ?_) ⟨?_, ?_⟩ (GB_eq gN (fun s => (gi_k (by decide)).trans (gi_k (by decide)))), RM_le (RM_trans mA (RM_J j2)) (by decide) (by decide)⟩
  · rw [e_m_L_runScript, e_m_C_runScript, e1, xbI_r, ite_bf, hA, xhI_e, if_pos rfl]
  · rw [e_m_M_runScript, r1, xbV_r, r2, xbI_r, if_pos (show zi (-1) = (-1 : Int32) from rfl), r_F1]
  · rw [fin (by decide) (by decide)]; exact a19
  · rw [gi_s (by decide), gi_h]
  · rw [fin (by decide) (by decide), cA (by decide) (by decide), ec.1, gi_s (by decide), gi_s (by decide), ef.1]
  · rw [fin (by decide) (by decide), cA (by decide) (by decide), ec.2, gi_s (by decide), gi_s (by decide), ef.2]
