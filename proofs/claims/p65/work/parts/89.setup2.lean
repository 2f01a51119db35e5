/-! the law's text: tasks, the whole -/
theorem st_task {M M1 : xM} {a R T sb k : Nat} {l : List Int} (hK : KC M) (hL : gn M 151 a 0 < 1000) (hk : k < T) (hT : T ≤ 8) (hR : R ≤ 3) (h : CWX M M1 sb (ofL l)) (hl : l.length ≤ 300) : ∃ M2, b_L_setup_45 a (zi (R : Nat)) (zi (T : Nat)) sb (zi (k : Nat)) M1 = b_L_setup_45 a (zi (R : Nat)) (zi (T : Nat)) sb (zi ((k + 1 : Nat) : Int)) M2 ∧ CWX M M2 sb (ofL (tkX R (pC M a) (pZ M a) l k)) := by
  have s := sL_l
  have pr := pkV_rg (M := M) (a := a) (k := 6 + k) (n := 268435456) (by decide)
  have ep := x_pick (a := a) (k := 6 + k) (n := 268435456) (CWX_f h) (by omega) hL (by decide) (by decide)
  have ep : m_L_pick a (zi ((6 + k : Nat) : Int)) 268435456 M1 = rI (zi ((pZ M a k : Nat) : Int)) M1 := ep
  have hz : pZ M a k < 268435456 := by unfold pZ; omega
  have hdu : durN (pZ M a k) < 10 := by unfold durN; omega
  unfold tkX
  have l0 := tk0_len (pZ M a) l k
  generalize hzz : pZ M a k = z at ep hz hdu
  obtain ⟨A1, e1, h1⟩ := S_st hK h (o := 10) (by decide) (by rw [cN_10]; decide) (by rw [cN_10]; omega)
  obtain ⟨A2, e2, h2⟩ := S_ch h1 (c := 97 + k) (by omega) (by rw [List.length_append]; omega)
  obtain ⟨A3, e3, h3⟩ := S_ch h2 (c := 32) (by decide) (by rw [len1, List.length_append]; omega)
  obtain ⟨A4, e4, h4⟩ := S_dg hK h3 (x := durN z) hdu (by rw [len1, len1, List.length_append]; omega)
  have h4 : CWX M A4 sb (ofL (tk0 (pZ M a) l k)) := by unfold tk0; rw [hzz]; exact h4
  have e3 : m_JB_append_3 sb 32 A2 = some (.inl (some (50, .ref sb)), A3) := e3
  have i6 : (6 : Int32) + zi (k : Nat) = zi ((6 + k : Nat) : Int) := by
    rw [show (6 : Int32) = zi 6 from rfl, zi_add]; exact congrArg zi (by omega)
  have m7 : (1 : Int32) + (zi (z : Nat) - zi (z : Nat) / 7 * 7) = zi ((durN z : Nat) : Int) := by
    have e := zn_rem (x := z) (y := 7) (by omega) (by decide) (by decide)
    have e : zi (z : Nat) - zi (z : Nat) / 7 * 7 = zi ((z % 7 : Nat) : Int) := e
    rw [e, show (1 : Int32) = zi 1 from rfl, zi_add]; exact congrArg zi (by unfold durN; omega)
  have dmB := lpM (B := fun r X => b_L_setup_75 a (zi (R : Nat)) (zi (T : Nat)) sb (zi (k : Nat)) (zi (z : Nat)) (zi (r : Nat)) X) (n := R) (fun r X => CWX M X sb (ofL (dmX (fun r => demN z r (pC M a r)) (tk0 (pZ M a) l k) r))) (fun q => ∃ X, CWX M X sb (ofL (dmX (fun r => demN z r (pC M a r)) (tk0 (pZ M a) l k) R)) ∧ q = b_L_setup_75 a (zi (R : Nat)) (zi (T : Nat)) sb (zi (k : Nat)) (zi (z : Nat)) (zi (R : Nat)) X) (fun r X hr V => by
    have ll := dmX_len (fun r => demN z r (pC M a r)) (tk0 (pZ M a) l k) r
    obtain ⟨X2, e, h2⟩ := st_dem (T := T) (k := k) hK hL hr hR hz V (by omega)
    exact ⟨X2, h2, e⟩) (fun X V => ⟨X, V, rfl⟩) 0 A4 (Nat.zero_le _) h4
  obtain ⟨A5, h5, e5⟩ := dmB
  have e5 : b_L_setup_75 a (zi (R : Nat)) (zi (T : Nat)) sb (zi (k : Nat)) (zi (z : Nat)) 0 A4 = _ := e5
  have l5 := dmX_len (fun r => demN z r (pC M a r)) (tk0 (pZ M a) l k) R
  generalize dmX (fun r => demN z r (pC M a r)) (tk0 (pZ M a) l k) R = l' at h5 l5 ⊢
  have fin : ∀ (X : xM) (m : List Int), CWX M X sb (ofL m) → m.length ≤ 400 → ∃ X2, xgd (xgood (xsl 4) X && xain (xsl 4) [(50, .ref sb), (0, .int 59)]) (xbR (xret (m_JB_append_3 sb 59 X)) 50 (fun _ M1 => (b_L_setup_45 a (zi (R : Nat)) (zi (T : Nat)) sb (zi (k : Nat) + 1) M1))) = b_L_setup_45 a (zi (R : Nat)) (zi (T : Nat)) sb (zi ((k + 1 : Nat) : Int)) X2 ∧ CWX M X2 sb (ofL (m ++ [((59 : Nat) : Int)])) := by
    intro X m hX hm
    obtain ⟨X2, e, h2⟩ := S_ch hX (c := 59) (by decide) (by omega)
    have e : m_JB_append_3 sb 59 X = some (.inl (some (50, .ref sb)), X2) := e
    exact ⟨X2, by rw [gd4 (xa_c _ _), e, xret_v, xbR_r, zi_suc], h2⟩
  have z0 : ∀ n : Nat, n < 2147483648 → ((0 < zi (n : Nat)) = (0 < n)) := fun n hn => by
    rw [zi_00, zi_lt (by decide) (by decide) (by omega) (by omega)]
    exact propext ⟨fun q => by omega, fun q => by omega⟩
  have d4 : zi (z : Nat) / 4096 = zi ((z / 4096 : Nat) : Int) := zn_div (x := z) (y := 4096) (by omega) (by decide) (by decide)
  have d14 : zi (z : Nat) / 16384 = zi ((z / 16384 : Nat) : Int) := zn_div (x := z) (y := 16384) (by omega) (by decide) (by decide)
  have d18 : zi (z : Nat) / 262144 = zi ((z / 262144 : Nat) : Int) := zn_div (x := z) (y := 262144) (by omega) (by decide) (by decide)
  have d22 : zi (z : Nat) / 4194304 = zi ((z / 4194304 : Nat) : Int) := zn_div (x := z) (y := 4194304) (by omega) (by decide) (by decide)
  have m4 : zi ((z / 4096 : Nat) : Int) - zi ((z / 4096 : Nat) : Int) / 4 * 4 = zi ((z / 4096 % 4 : Nat) : Int) := zn_rem (x := z / 4096) (y := 4) (by omega) (by decide) (by decide)
  have m2 : zi ((z / 4194304 : Nat) : Int) - zi ((z / 4194304 : Nat) : Int) / 2 * 2 = zi ((z / 4194304 % 2 : Nat) : Int) := zn_rem (x := z / 4194304) (y := 2) (by omega) (by decide) (by decide)
  rw [e_b_L_setup_45, if_pos (zi_ltn hk (by omega)), i6, ep, xret_v, xbI_r, gd4 (xa_s _ _), e1, xret_v, xbR_r, z_ch (by omega), gd4 (xa_c _ _), e2, xret_v, xbR_r, gd4 (xa_c _ _), e3, xret_v, xbR_r, if_neg (by decide), m7, gd4 (xa_c _ _), e4, xret_v, xbR_r, e5, e_b_L_setup_75, if_neg (zi_irr _)]
  unfold lkX
  by_cases k0 : 0 < k
  · have n0 : ¬ zi (k : Nat) = 0 := by rw [zi_00, zi_eq (by omega) (by omega) (by decide) (by decide)]; omega
    rw [if_pos (by rw [z0 k (by omega)]; exact k0), if_neg (by decide), if_neg (by decide), d4, m4]
    by_cases q4 : 0 < z / 4096 % 4
    · have hh : hasN k z = true := by unfold hasN; rw [decide_eq_true k0, decide_eq_true q4]; rfl
      have b1 : lk1 k z < k := Nat.mod_lt _ k0
      have b2 : lk2 k z < k := Nat.mod_lt _ k0
      have r1 : zi ((z / 16384 : Nat) : Int) - zi ((z / 16384 : Nat) : Int) / zi (k : Nat) * zi (k : Nat) = zi ((lk1 k z : Nat) : Int) := zn_rem (x := z / 16384) (y := k) (by omega) k0 (by omega)
      have r2 : zi ((z / 262144 : Nat) : Int) - zi ((z / 262144 : Nat) : Int) / zi (k : Nat) * zi (k : Nat) = zi ((lk2 k z : Nat) : Int) := zn_rem (x := z / 262144) (y := k) (by omega) k0 (by omega)
      obtain ⟨A6, e6, h6⟩ := S_st hK h5 (o := 11) (by decide) (by rw [cN_11]; decide) (by rw [cN_11]; omega)
      obtain ⟨A7, e7, h7⟩ := S_ch h6 (c := 97 + lk1 k z) (by omega) (by rw [List.length_append]; omega)
      rw [if_pos (by rw [z0 _ (by omega)]; exact q4), if_neg (by decide), if_neg n0, if_neg (by decide), if_neg n0, gd4 (xa_s _ _), e6, xret_v, xbR_r, d14, r1, z_ch (by omega), gd4 (xa_c _ _), e7, xret_v, xbR_r, d18, r2, zife (by omega) (by omega) (by omega) (by omega), if_pos hh]
      by_cases q2 : lk2 k z = lk1 k z
      · have ht : twoN k z = false := by unfold twoN; rw [decide_eq_true q2]; rfl
        rw [if_pos (by omega), ht, if_neg (by decide)]
        exact fin A7 _ h7 (by rw [len1, List.length_append]; omega)
      · rw [if_neg (by omega), if_neg (by decide), if_neg (by decide), d22, m2, zi_00, zife (by omega) (by omega) (by decide) (by decide)]
        by_cases q5 : z / 4194304 % 2 = 0
        · have ht : twoN k z = true := by unfold twoN; rw [decide_eq_false q2, decide_eq_true q5]; rfl
          obtain ⟨A8, e8, h8⟩ := S_st hK h7 (o := 12) (by decide) (by rw [cN_12]; decide) (by rw [cN_12, len1, List.length_append]; omega)
          obtain ⟨A9, e9, h9⟩ := S_ch h8 (c := 97 + lk2 k z) (by omega) (by rw [List.length_append, len1, List.length_append]; omega)
          rw [if_pos (by omega), ht, if_pos rfl, gd4 (xa_s _ _), e8, xret_v, xbR_r, z_ch (by omega), gd4 (xa_c _ _), e9, xret_v, xbR_r]
          exact fin A9 _ h9 (by rw [len1, List.length_append, len1, List.length_append]; omega)
        · have ht : twoN k z = false := by unfold twoN; rw [decide_eq_false q5, Bool.and_false]
          rw [if_neg (by omega), ht, if_neg (by decide)]
          exact fin A7 _ h7 (by rw [len1, List.length_append]; omega)
    · have hh : hasN k z = false := by unfold hasN; rw [decide_eq_false q4, Bool.and_false]
      rw [if_neg (by rw [z0 _ (by omega)]; exact q4), hh, if_neg (by decide)]
      exact fin A5 _ h5 (by omega)
  · have hh : hasN k z = false := by unfold hasN; rw [decide_eq_false k0]; rfl
    rw [if_neg (by rw [z0 k (by omega)]; exact k0), hh, if_neg (by decide)]
    exact fin A5 _ h5 (by omega)
theorem q_setup {M : xM} {a R T : Nat} (hK : KC M) (hC : CNs M) (hL : gn M 151 a 0 < 1000) (hR : R ≤ 3) (hT : T ≤ 8) : ∃ M1 f, m_L_setup a (zi (R : Nat)) (zi (T : Nat)) M = some (.inl (some (46, .ref (gn M 101 46 0))), M1) ∧ TX M1 (gn M 101 46 0) (tkA (pD M a) R (pC M a) (pZ M a) T).length f ∧ (∀ i, i < (tkA (pD M a) R (pC M a) (pZ M a) T).length → f i = zi ((tkA (pD M a) R (pC M a) (pZ M a) T).getD i 0)) ∧ fz onWs M M1 ∧ gn M1 100 0 0 ≤ gn M 100 0 0 + 900 ∧ gn M1 100 0 1 ≤ gn M 100 0 1 + 4000 := by
  have s := sL_l
  have pr := pkV_rg (M := M) (a := a) (k := 2) (n := 4) (by decide)
  generalize hs : gn M 101 50 0 = sb
  obtain ⟨A1, e1, h1⟩ := S_init hK
  rw [hs] at e1 h1
  have ep := x_pick (a := a) (k := 2) (n := 4) (CWX_f h1) (by omega) hL (by decide) (by decide)
  have ep : m_L_pick a 2 4 A1 = rI (zi ((pD M a : Nat) : Int)) A1 := ep
  obtain ⟨A2, e2, h2⟩ := S_dg hK h1 (x := pD M a) (by unfold pD; omega) (by omega)
  obtain ⟨A3, e3, h3⟩ := S_ch h2 (c := 59) (by decide) (by rw [len1]; omega)
  have e3 : m_JB_append_3 sb 59 A2 = some (.inl (some (50, .ref sb)), A3) := e3
  have k1 : ∃ X, CWX M X sb (ofL (rsA (pD M a) (pC M a) R)) ∧ b_L_setup_15 a (zi (R : Nat)) (zi (T : Nat)) sb (zi ((0 : Nat) : Int)) A3 = b_L_setup_15 a (zi (R : Nat)) (zi (T : Nat)) sb (zi (R : Nat)) X :=
    lpM (B := fun r X => b_L_setup_15 a (zi (R : Nat)) (zi (T : Nat)) sb (zi (r : Nat)) X) (n := R) (fun r X => CWX M X sb (ofL (rsA (pD M a) (pC M a) r))) (fun q => ∃ X, CWX M X sb (ofL (rsA (pD M a) (pC M a) R)) ∧ q = b_L_setup_15 a (zi (R : Nat)) (zi (T : Nat)) sb (zi (R : Nat)) X) (fun r X hr V => by
      have ll := rsA_len (pD M a) (pC M a) r
      obtain ⟨X2, e, h2⟩ := st_res (T := T) hK hL hr hR V (by omega)
      exact ⟨X2, h2, e⟩) (fun X V => ⟨X, V, rfl⟩) 0 A3 (Nat.zero_le _) h3
  obtain ⟨A4, h4, e4⟩ := k1
  have e4 : b_L_setup_15 a (zi (R : Nat)) (zi (T : Nat)) sb 0 A3 = _ := e4
  have k2 : ∃ X, CWX M X sb (ofL (tkA (pD M a) R (pC M a) (pZ M a) T)) ∧ b_L_setup_45 a (zi (R : Nat)) (zi (T : Nat)) sb (zi ((0 : Nat) : Int)) A4 = b_L_setup_45 a (zi (R : Nat)) (zi (T : Nat)) sb (zi (T : Nat)) X :=
    lpM (B := fun r X => b_L_setup_45 a (zi (R : Nat)) (zi (T : Nat)) sb (zi (r : Nat)) X) (n := T) (fun r X => CWX M X sb (ofL (tkA (pD M a) R (pC M a) (pZ M a) r))) (fun q => ∃ X, CWX M X sb (ofL (tkA (pD M a) R (pC M a) (pZ M a) T)) ∧ q = b_L_setup_45 a (zi (R : Nat)) (zi (T : Nat)) sb (zi (T : Nat)) X) (fun r X hr V => by
      have ll := tkA_len (pD M a) hR (pC M a) (pZ M a) r
      obtain ⟨X2, e, h2⟩ := st_task hK hL hr hT hR V (by omega)
      exact ⟨X2, h2, e⟩) (fun X V => ⟨X, V, rfl⟩) 0 A4 (Nat.zero_le _) h4
  obtain ⟨A5, h5, e5⟩ := k2
  have e5 : b_L_setup_45 a (zi (R : Nat)) (zi (T : Nat)) sb 0 A4 = _ := e5
  have tl := tkA_len (pD M a) hR (pC M a) (pZ M a) T
  have f5 := CWX_f h5
  have c46 : gn A5 101 46 0 = gn M 101 46 0 := fz_gn f5 rfl
  have c47 : gn A5 101 47 0 = gn M 101 47 0 := fz_gn f5 rfl
  obtain ⟨A6, f, e6, t6, v6, g6, _, _, r6, r6'⟩ := s_toString ⟨by rw [c46, c47]; exact hC.1, by rw [c47]; exact hC.2⟩ h5 (by show (tkA _ _ _ _ _).length ≤ 420; omega)
  rw [c46] at e6 t6
  obtain ⟨a', cap, hh⟩ := h5
  have cb := hh.2.1
  have rr := hh.2.2.2.1
  have lT : (ofL (tkA (pD M a) R (pC M a) (pZ M a) T)).1 = (tkA (pD M a) R (pC M a) (pZ M a) T).length := rfl
  refine ⟨A6, f, ?_, t6, v6, fz_trans (Ws_x f5) g6, by omega, by omega⟩
  rw [e_m_L_setup, hs, gd4 (xa_s _ _), e1, xret_v, xbV_r, ep, xret_v, xbI_r, gd4 (xa_c _ _), e2, xret_v, xbR_r, gd4 (xa_c _ _), e3, xret_v, xbR_r, e4, e_b_L_setup_15, if_neg (zi_irr _), e5, e_b_L_setup_45, if_neg (zi_irr _), gd4 (xa_b _), e6, xret_v, xbR_r]
