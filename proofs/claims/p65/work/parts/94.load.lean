/-! the class reads the law's text: the whole; load -/
theorem rsX_pre (C : Nat → Nat) (l : List Int) (r : Nat) : l <+: rsX C l r := by
  unfold rsX
  rw [List.append_assoc, List.append_assoc, List.append_assoc, List.append_assoc]
  exact List.prefix_append _ _
theorem rsA_pre (d : Nat) (C : Nat → Nat) {r : Nat} : ∀ {R : Nat}, r ≤ R → rsA d C r <+: rsA d C R := by
  intro R
  induction R with
  | zero => intro h; rw [show r = 0 by omega]; exact List.prefix_refl _
  | succ R ih =>
    intro h
    by_cases e : r = R + 1
    · rw [e]; exact List.prefix_refl _
    · exact List.IsPrefix.trans (ih (by omega)) (rsX_pre C _ R)
theorem tkX_pre (R : Nat) (C Z : Nat → Nat) (l : List Int) (k : Nat) : l <+: tkX R C Z l k := by
  have a : l <+: tk0 Z l k := by
    unfold tk0
    rw [List.append_assoc, List.append_assoc, List.append_assoc]
    exact List.prefix_append _ _
  have b : tk0 Z l k <+: dmX (fun r => demN (Z k) r (C r)) (tk0 Z l k) R := dmX_pre (fun r => demN (Z k) r (C r)) (tk0 Z l k) (r := 0) (Nat.zero_le R)
  exact List.IsPrefix.trans (List.IsPrefix.trans (List.IsPrefix.trans a b) (lkX_pre _ _ _)) (List.prefix_append _ _)
theorem tkA_pre (d R : Nat) (C Z : Nat → Nat) {r : Nat} : ∀ {T : Nat}, r ≤ T → tkA d R C Z r <+: tkA d R C Z T := by
  intro T
  induction T with
  | zero => intro h; rw [show r = 0 by omega]; exact List.prefix_refl _
  | succ T ih =>
    intro h
    by_cases e : r = T + 1
    · rw [e]; exact List.prefix_refl _
    · exact List.IsPrefix.trans (ih (by omega)) (tkX_pre R C Z _ T)
/-- the class's own things, but its history -/
def onCl (k _ _ : Nat) : Bool := Nat.blt k 27 && !Nat.beq k 17
theorem Cl_t {k o s : Nat} (h : k < 27) (h2 : k ≠ 17) : onCl k o s = true := by
  unfold onCl
  rw [blt_t h, beq_ff h2]; rfl
theorem Cl_no {k o s : Nat} (h : 27 ≤ k ∨ k = 17) : onCl k o s = false := by
  unfold onCl
  rcases h with h | h
  · rw [show Nat.blt k 27 = Nat.ble (k + 1) 27 from rfl, ble_ff (by omega)]; rfl
  · subst h; rfl
theorem Cl_C8 {o p : Nat} {M M' : xM} (f : fz (onC8 o p) M M') : fz onCl M M' := fz_mono (fun k o' s h => by
  by_cases c : k < 27 ∧ k ≠ 17
  · exact Cl_t c.1 c.2
  · exfalso
    unfold onC8 at h
    rw [on8_k (by omega), onPz_k (by omega)] at h
    cases h) f
theorem Cl_21 {o : Nat} {M M' : xM} (f : fz (on21 o) M M') : fz onCl M M' := fz_mono (fun k o' s h => by
  by_cases c : k < 27 ∧ k ≠ 17
  · exact Cl_t c.1 c.2
  · exfalso
    rw [on21_k (by omega)] at h
    cases h) f
theorem Cl_fr {K : Nat → Nat → Bool} {M M' : xM} (f : fr K M M') (hK : ∀ k o, 27 ≤ k ∨ k = 17 → K k o = false) : fz onCl M M' := fun k o s q => f k o s (hK k o (by
  by_cases c : k < 27 ∧ k ≠ 17
  · rw [Cl_t c.1 c.2] at q; cases q
  · omega))
def onCm (k _ _ : Nat) : Bool := Nat.blt k 27
theorem Cm_no {k o s : Nat} (h : 27 ≤ k) : onCm k o s = false := by
  unfold onCm
  rw [show Nat.blt k 27 = Nat.ble (k + 1) 27 from rfl, ble_ff (by omega)]
theorem Cm_Cl {M M' : xM} (f : fz onCl M M') : fz onCm M M' := fz_mono (fun k o s h => (Bool.and_eq_true_iff.mp h).1) f
theorem Cm_st {M : xM} {k o s : Nat} {v : Value} (h : k < 27) : fz onCm M (xst M k o s v) := fz_st (blt_t h)
theorem RDs {full : List Int} {C : Nat → Nat} {r : Nat} {M : xM} {b : Nat → Int} {l : List Int} (hb : ∀ i, i < full.length → 0 ≤ full.getD i 0 ∧ full.getD i 0 < 128) (hp : rsX C l r <+: full) (hC : 1 ≤ C r ∧ C r ≤ 4) (hr : r < 3) (h : CT M 0 (bT full) full.length l.length) (hP : CP M 0 b) (hQ : wQ b 0) (hT : nT b = 0) (hR : nR b = r) (hS : ∀ j, j < r → bC b j = (C j : Int) ∧ pk b (4 + 8 * j) = nmV2 114 (97 + j)) : m_T_isAt 0 1 M = rI (bz true) M := by
  rw [s_isAt h (by decide), (rd_res hb hp hC hr h hP hQ hT hR hS).1]
theorem q_read {M : xM} {d R T : Nat} {C Z : Nat → Nat} (hd : d ≤ 3) (hR : 1 ≤ R ∧ R ≤ 3) (hT : 1 ≤ T ∧ T ≤ 8) (hC : ∀ r, r < R → 1 ≤ C r ∧ C r ≤ 4) (hb : ∀ i, i < (tkA d R C Z T).length → 0 ≤ (tkA d R C Z T).getD i 0 ∧ (tkA d R C Z T).getD i 0 < 128) (hI : IN M 0 (bT (tkA d R C Z T)) (tkA d R C Z T).length) (hK : KC M) : ∃ M1 b, m_U_read 0 0 M = rI (bz true) M1 ∧ fz onCl M M1 ∧ CP M1 0 b ∧ wF b ∧ nT b = T := by
  have pT : ∀ {j : Nat}, j ≤ T → tkA d R C Z j <+: tkA d R C Z T := fun h => tkA_pre d R C Z h
  have pR : ∀ {r : Nat}, r ≤ R → rsA d C r <+: tkA d R C Z T := fun h => List.IsPrefix.trans (rsA_pre d C h) (pT (Nat.zero_le T))
  generalize hfull : tkA d R C Z T = full at *
  have f0 : fz (onPz 0) M (xst (xst M 2 0 1 (.int 0)) 2 0 2 (.int 0)) := fz_step (fz_st (onPz_t (by decide) (by decide))) (onPz_t (by decide) (by decide))
  obtain ⟨M1, e1, f1, c1, _, _⟩ := s_open (o := 0) (IN_P hI f0) (KC_fz hK f0 (fun k o s q => onPz_k (by omega)))
  have z1 : gi M1 2 0 1 = 0 := by rw [fz_gi f1 (on21_k (by decide)), gi_s (by decide), gi_h]
  have z2 : gi M1 2 0 2 = 0 := by rw [fz_gi f1 (on21_k (by decide)), gi_h]
  obtain ⟨M2, b2, e2, f2, c2, p2, w2, t2, r2⟩ := rd_head hb (pR (Nat.zero_le R)) hd c1 z1 z2
  have s0 : ∀ j, j < 0 → bC b2 j = (C j : Int) ∧ pk b2 (4 + 8 * j) = nmV2 114 (97 + j) := fun j hj => absurd hj (Nat.not_lt_zero j)
  obtain ⟨_, M3, b3, e3, f3, c3, p3, w3, t3, r3, s3⟩ := rd_res hb (pR (r := 1) hR.1) (hC 0 hR.1) (by decide) c2 p2 w2 t2 r2 s0
  have g3 : fz onCl M M3 := fz_trans (Cl_fr (K := fun k o => onPz 0 k o 0) f0 (fun k o h => onPz_k (by omega))) (fz_trans (Cl_21 f1) (fz_trans (Cl_C8 f2) (Cl_C8 f3)))
  have k1 : ∃ (X : xM) (b : Nat → Int), (fz onCl M X ∧ CT X 0 (bT full) full.length (rsA d C R).length ∧ CP X 0 b ∧ wQ b 0 ∧ nT b = 0 ∧ nR b = R ∧ ∀ j, j < R → bC b j = (C j : Int) ∧ pk b (4 + 8 * j) = nmV2 114 (97 + j)) ∧ b_U_read_23 0 0 1 (zi ((1 : Nat) : Int)) M3 = b_U_read_23 0 0 1 (zi (R : Nat)) X := by
    refine lpM (B := fun r X => b_U_read_23 0 0 1 (zi (r : Nat)) X) (n := R) (fun r X => 1 ≤ r ∧ ∃ b : Nat → Int, fz onCl M X ∧ CT X 0 (bT full) full.length (rsA d C r).length ∧ CP X 0 b ∧ wQ b 0 ∧ nT b = 0 ∧ nR b = r ∧ ∀ j, j < r → bC b j = (C j : Int) ∧ pk b (4 + 8 * j) = nmV2 114 (97 + j)) (fun q => ∃ (X : xM) (b : Nat → Int), (fz onCl M X ∧ CT X 0 (bT full) full.length (rsA d C R).length ∧ CP X 0 b ∧ wQ b 0 ∧ nT b = 0 ∧ nR b = R ∧ ∀ j, j < R → bC b j = (C j : Int) ∧ pk b (4 + 8 * j) = nmV2 114 (97 + j)) ∧ q = b_U_read_23 0 0 1 (zi (R : Nat)) X) (fun r X hr V => ?_) (fun X V => ?_) 1 M3 hR.1 ⟨Nat.le_refl _, b3, g3, c3, p3, w3, t3, r3, s3⟩
    · obtain ⟨h1, b, v1, v2, v3, v4, v5, v6, v7⟩ := V
      have v1 : fz onCl M X := v1
      have at1 := RDs hb (pR (r := r + 1) hr) (hC r hr) (by omega) v2 v3 v4 v5 v6 v7
      obtain ⟨_, X2, b2', x1, x2, x3, x4, x5, x6, x7, x8⟩ := rd_res hb (pR (r := r + 1) hr) (hC r hr) (by omega) v2 v3 v4 v5 v6 v7
      refine ⟨X2, ⟨by omega, b2', fz_trans v1 (Cl_C8 x2), x3, x4, x5, x6, x7, x8⟩, ?_⟩
      show b_U_read_23 0 0 1 (zi (r : Nat)) X = b_U_read_23 0 0 1 (zi ((r + 1 : Nat) : Int)) X2
      rw [e_b_U_read_23, zi_03, zif (by decide) (by decide) (by omega) (by omega), if_neg (by omega), if_neg (by decide), at1, xbI_r, ite_bt, x1, xbI_r, zi_suc]
      rfl
    · obtain ⟨h1, b, v⟩ := V
      exact ⟨X, b, v, rfl⟩
  obtain ⟨M4, b4, ⟨g4, c4, p4, w4, t4, r4, s4⟩, e4⟩ := k1
  have e4 : b_U_read_23 0 0 1 1 M3 = _ := e4
  have hC4 : ∀ r, r < R → C r ≤ 4 := fun r hr => (hC r hr).2
  have n0 : ∀ j, j < 0 → pk b4 (28 + 12 * j) = nmV2 116 (97 + j) := fun j hj => absurd hj (Nat.not_lt_zero j)
  obtain ⟨a5, _, M5, b5, e5, f5, c5, p5, w5, t5, r5, s5, v5⟩ := rd_task (l := rsA d C R) (R := R) (C := C) (Z := Z) (k := 0) hb (pT (j := 1) hT.1) hC4 hR.1 (by decide) c4 p4 w4 t4 r4 (fun r hr => (s4 r hr).1) n0
  have at5 : m_T_isAt 0 1 M4 = rI (bz false) M4 := by rw [s_isAt c4 (by decide), a5]
  have k2 : ∃ (X : xM) (b : Nat → Int), (fz onCl M X ∧ CT X 0 (bT full) full.length (tkA d R C Z T).length ∧ CP X 0 b ∧ wQ b T ∧ nT b = T ∧ nR b = R) ∧ b_U_read_51 0 0 1 (zi ((1 : Nat) : Int)) M5 = b_U_read_51 0 0 1 (zi (T : Nat)) X := by
    refine lpM (B := fun r X => b_U_read_51 0 0 1 (zi (r : Nat)) X) (n := T) (fun r X => ∃ b : Nat → Int, fz onCl M X ∧ CT X 0 (bT full) full.length (tkA d R C Z r).length ∧ CP X 0 b ∧ wQ b r ∧ nT b = r ∧ nR b = R ∧ (∀ j, j < R → bC b j = (C j : Int)) ∧ ∀ j, j < r → pk b (28 + 12 * j) = nmV2 116 (97 + j)) (fun q => ∃ (X : xM) (b : Nat → Int), (fz onCl M X ∧ CT X 0 (bT full) full.length (tkA d R C Z T).length ∧ CP X 0 b ∧ wQ b T ∧ nT b = T ∧ nR b = R) ∧ q = b_U_read_51 0 0 1 (zi (T : Nat)) X) (fun r X hr V => ?_) (fun X V => ?_) 1 M5 hT.1 ⟨b5, fz_trans g4 (Cl_C8 f5), c5, p5, w5, t5, r5, s5, v5⟩
    · obtain ⟨b, v1, v2, v3, v4, v5, v6, v7, v8⟩ := V
      have v1 : fz onCl M X := v1
      obtain ⟨_, x0, X2, b2', x1, x2, x3, x4, x5, x6, x7, x8, x9⟩ := rd_task (l := tkA d R C Z r) (R := R) (C := C) (Z := Z) (k := r) hb (pT (j := r + 1) hr) hC4 hR.1 (by omega) v2 v3 v4 v5 v6 v7 v8
      have k4 : ¬ gn X 21 0 3 = 4 := by rw [v2.2.1.2.2.2.1]; exact x0
      refine ⟨X2, ⟨b2', fz_trans v1 (Cl_C8 x2), x3, x4, x5, x6, x7, x8, x9⟩, ?_⟩
      show b_U_read_51 0 0 1 (zi (r : Nat)) X = b_U_read_51 0 0 1 (zi ((r + 1 : Nat) : Int)) X2
      rw [e_b_U_read_51, zi_12, zif (by decide) (by decide) (by omega) (by omega), if_neg (by omega), if_neg (by decide), if_neg k4, x1, xbI_r, zi_suc]
      rfl
    · obtain ⟨b, v1, v2, v3, v4, v5, v6, _⟩ := V
      exact ⟨X, b, ⟨v1, v2, v3, v4, v5, v6⟩, rfl⟩
  obtain ⟨M6, b6, ⟨g6, c6, p6, w6, t6, r6⟩, e6⟩ := k2
  have e6 : b_U_read_51 0 0 1 1 M5 = _ := e6
  have end6 : gn M6 21 0 3 = 4 := by
    rw [c6.2.1.2.2.2.1, hfull]
    unfold tT
    rw [if_pos (tF_bd (Nat.le_refl _)).1]
  refine ⟨M6, b6, ?_, g6, p6, wQ_F (by rw [t6]; exact w6) (by omega) (by omega), t6⟩
  have o1 : (1 : Int32) = bz true := rfl
  rw [e_m_U_read, e1, xbV_r, e2, xbI_r, ite_bt, e3, xbI_r, ite_bt, e4, e_b_U_read_23, zi_03, zif (by decide) (by decide) (by omega) (by omega), if_neg (by omega), if_neg (by decide), at5, xbI_r, ite_bf, if_neg (by decide), e5, xbI_r, ite_bt, e6, e_b_U_read_51, zi_12, zif (by decide) (by decide) (by omega) (by omega), if_neg (by omega), if_neg (by decide), if_pos end6, xnar_1]
theorem q_load {M : xM} {d R T w : Nat} {C Z : Nat → Nat} (hG : xgood (xsl 0) M = true) (hw : w < 6) (h17 : gi M 17 0 1 = zi (w : Nat)) (hd : d ≤ 3) (hR : 1 ≤ R ∧ R ≤ 3) (hT : 1 ≤ T ∧ T ≤ 8) (hC : ∀ r, r < R → 1 ≤ C r ∧ C r ≤ 4) (hb : ∀ i, i < (tkA d R C Z T).length → 0 ≤ (tkA d R C Z T).getD i 0 ∧ (tkA d R C Z T).getD i 0 < 128) (hI : IN M 0 (bT (tkA d R C Z T)) (tkA d R C Z T).length) (hK : KC M) : ∃ M1 b, m_C_load 0 M = rI (zi (T : Nat)) M1 ∧ fz onCm M M1 ∧ CI M1 b ∧ nT b = T := by
  obtain ⟨M1, b, e1, f1, p1, w1, t1⟩ := q_read hd hR hT hC hb hI hK
  have p2 : CP (xst M1 19 0 1 (.int 0)) 0 b := CP_fz p1 (fz_st (K := fun k _ _ => Nat.beq k 19) rfl) (fun k s a c => beq_ff (by omega))
  obtain ⟨M3, e3, f3, c3⟩ := s_copy (xst M1 19 0 1 (.int 0)) (p := 0) (q := 9) (by decide)
  have p3 := c3 b p2
  have f3' : fz onCl (xst M1 19 0 1 (.int 0)) M3 := Cl_fr f3 (fun k o h => onP_k (by omega))
  have g3 : fz onCl M M3 := fz_trans (fz_trans f1 (fz_st rfl)) f3'
  have c2 : gi M3 2 9 2 = zi (nT b : Nat) := CP_T p3
  have g4 : fz onCl M (xst (xst M3 26 0 0 (.int 0)) 26 0 1 (.int 0)) := fz_step (fz_step g3 rfl) rfl
  have b22 : b_C_load_22 0 0 M3 = rI (zi (nT b : Nat)) (xst (xst (xst M3 26 0 0 (.int 0)) 26 0 1 (.int 0)) 17 0 2 (.int 0)) := by
    rw [e_b_C_load_22, if_pos (by decide), zi_00, show xck (zi 0) 2 _ = _ from xck_z (by decide) (by decide) (by decide), e_b_C_load_22, if_pos (by decide), show zi 0 + 1 = zi ((1 : Nat) : Int) from rfl, xck_n (by decide) (by decide), e_b_C_load_22, if_neg (by decide)]
    have i0 : ix (zi 0) = 0 := rfl
    have i1 : ix (zi ((1 : Nat) : Int)) = 1 := rfl
    have a0 : (zi 0 &&& 1 : Int32) = 0 := rfl
    rw [i0, i1, a0, gi_k (by decide), gi_k (by decide), c2]
    rfl
  have hG4 := good_fz (xsl 0) (fz_trans (Cm_Cl g4) (Cm_st (k := 17) (o := 0) (s := 2) (v := .int 0) (by decide))) (fun k o s q => Cm_no (by omega)) hG
  refine ⟨_, b, ?_, fz_trans (Cm_Cl g4) (Cm_st (k := 17) (o := 0) (s := 2) (v := .int 0) (by decide)), ⟨w1, ?_, hG4, 0, w, by decide, hw, gi_h _ _ _ _ _, ?_⟩, t1⟩
  · rw [e_m_C_load, e1, xbI_r, ite_bt, e3, xbV_r, b22, t1]
  · exact CP_fz p3 (fz_step (fz_step (fz_st (K := fun k _ _ => Nat.beq k 26 || Nat.beq k 17) rfl) rfl) rfl) (fun k s a c => by rw [beq_ff (show k ≠ 26 by omega), beq_ff (show k ≠ 17 by omega)]; rfl)
  · rw [gi_s (by decide)]
    exact (fz_gi g4 (Cl_no (Or.inr rfl))).trans h17
