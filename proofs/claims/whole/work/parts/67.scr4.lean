/-! both read a script -/
def kdP (B : Nat → Int) (n pos : Nat) : Int := fnd (fun κ => atW B n pos κ) 8
theorem s_kindAt {M : xM} {B : Nat → Int} {n pos : Nat} (h : CT M 0 B n pos) : m_R_kindAt 0 M = rI (zi (kdP B n pos)) M := by
  rw [e_m_R_kindAt]
  have hk := h.2.2.2.1
  have := lpx (B := fun i : Nat => b_R_kindAt_3 0 (zi (i : Nat)) M) (n := 8) (fun κ => !atW B n pos κ) (fun i => rI (zi (i : Nat)) M) (R2 := rI (zi (-1)) M) (fun i hi hok => ?_) (fun i hi hok => ?_) ?_
  · simp only [Bool.not_not] at this
    refine Eq.trans this ?_
    unfold kdP fnd
    split <;> rfl
  · show b_R_kindAt_3 0 (zi (i : Nat)) M = _
    have hok : atW B n pos i = false := by simpa using hok
    have k := hk i hi
    have hat := s_isAt h (lit := i) (by omega)
    rw [e_b_R_kindAt_3, zi_n, if_pos (zi_ltn hi (by omega)), xck_n (by omega) (by decide), zix (by omega), if_pos k.2.2.2.2.2.1, if_pos (show gn M 243 (i + 0) 1 = 1 from k.1), show i + 0 + 0 = i from rfl, hat, xbI_r, hok, ite_bf, zi_suc]
  · show b_R_kindAt_3 0 (zi (i : Nat)) M = _
    have hok : atW B n pos i = true := by simpa using hok
    have k := hk i hi
    have hat := s_isAt h (lit := i) (by omega)
    rw [e_b_R_kindAt_3, zi_n, if_pos (zi_ltn hi (by omega)), xck_n (by omega) (by decide), zix (by omega), if_pos k.2.2.2.2.2.1, if_pos (show gn M 243 (i + 0) 1 = 1 from k.1), show i + 0 + 0 = i from rfl, hat, xbI_r, hok, ite_bt]
  · show b_R_kindAt_3 0 (zi ((8 : Nat) : Int)) M = _
    rw [e_b_R_kindAt_3, zi_n, if_neg (zi_irr _)]
    rfl
theorem r_nameOf (M : xM) {κ : Nat} (h : κ < 8) : m_M_nameOf (zi κ) M = some (.inl (some (46, .ref κ)), M) := by
  have : κ = 0 ∨ κ = 1 ∨ κ = 2 ∨ κ = 3 ∨ κ = 4 ∨ κ = 5 ∨ κ = 6 ∨ κ = 7 := by omega
  rw [e_m_M_nameOf]
  rcases this with e | e | e | e | e | e | e | e <;> subst e <;> rfl
theorem r_cmdHere {M : xM} {B : Nat → Int} {n pos : Nat} (h : RT M B n pos) : m_M_commandHere 0 M = rI (zi (kdP B n pos)) M := by
  rw [e_m_M_commandHere]
  have := lpx (B := fun i : Nat => b_M_commandHere_3 0 (zi (i : Nat)) M) (n := 8) (fun κ => !atW B n pos κ) (fun i => rI (zi (i : Nat)) M) (R2 := rI (zi (-1)) M) (fun i hi hok => ?_) (fun i hi hok => ?_) ?_
  · simp only [Bool.not_not] at this
    refine Eq.trans this ?_
    unfold kdP fnd
    split <;> rfl
  · show b_M_commandHere_3 0 (zi (i : Nat)) M = _
    have hok : atW B n pos i = false := by simpa using hok
    rw [e_b_M_commandHere_3, zi_07, zif (by decide) (by decide) (by omega) (by omega), if_neg (by omega), r_nameOf M hi, xbR_r, r_isWord h (by omega), xbI_r, hok, ite_bf, zi_suc]
  · show b_M_commandHere_3 0 (zi (i : Nat)) M = _
    have hok : atW B n pos i = true := by simpa using hok
    rw [e_b_M_commandHere_3, zi_07, zif (by decide) (by decide) (by omega) (by omega), if_neg (by omega), r_nameOf M hi, xbR_r, r_isWord h (by omega), xbI_r, hok, ite_bt]
  · show b_M_commandHere_3 0 (zi ((8 : Nat) : Int)) M = _
    rw [e_b_M_commandHere_3, zi_07, zif (by decide) (by decide) (by decide) (by decide), if_pos (by decide)]
    rfl
/-- the commands that are read -/
def CMS (M M' : xM) (B : Nat → Int) (n : Nat) (b : Nat → Int) (c : Nat) : Prop := ∀ j, j < c → ∃ κ, κ < 8 ∧ CM M M' B n b j κ (pt1 κ) (pt2 κ) (pt3 κ) (pt4 κ)
theorem CM_eq {M M' M1 M1' : xM} {B : Nat → Int} {n : Nat} {b : Nat → Int} {i κ : Nat} {d1 d2 d3 d4 : Prop} (h : CM M M' B n b i κ d1 d2 d3 d4) (e : ∀ s, M1 24 i s = M 24 i s) (e' : ∀ s, s < 6 → gi M1' 38 0 (6 * i + s) = gi M' 38 0 (6 * i + s)) : CM M1 M1' B n b i κ d1 d2 d3 d4 := by
  obtain ⟨⟨h1, h2⟩, h3, h4, h5, h6⟩ := h
  have g24 : ∀ s, gn M1 24 i s = gn M 24 i s := fun s => by unfold gn; rw [e]
  have l24 : ∀ s, gl M1 24 i s = gl M 24 i s := fun s => by unfold gl; rw [e]
  have i24 : ∀ s, gi M1 24 i s = gi M 24 i s := fun s => by unfold gi; rw [e]
  refine ⟨⟨by rw [g24]; exact h1, (e' 0 (by decide)).trans h2⟩, fun q => ?_, fun q => ?_, fun q => ?_, fun q => ?_⟩
  · rw [l24, e' 1 (by decide), e' 2 (by decide)]; exact h3 q
  · rw [l24, e' 3 (by decide), e' 4 (by decide)]; exact h4 q
  · rw [l24, e' 3 (by decide), e' 4 (by decide)]; exact h5 q
  · rw [i24, e' 5 (by decide)]; exact h6 q
/-- the class's reading of one command, behind its first word -/
noncomputable def clsC (c : Nat) (M : xM) : xR := xbI (clsA c M) (fun r7 M6 => if r7 = 0 then rI (xnar 1 0) M6 else xbI (m_T_takeSemicolon 0 M6) (fun r9 M8 => if r9 = 0 then rI (xnar 1 0) M8 else rI (xnar 1 1) M8))
theorem clsC_eq (c : Nat) (M : xM) : xbI (m_R_readNames 0 9 c M) (fun r5 M4 => if r5 = 0 then rI (xnar 1 0) M4 else xbI (m_R_readNumber 0 c M4) (fun r7 M6 => if r7 = 0 then rI (xnar 1 0) M6 else xbI (m_T_takeSemicolon 0 M6) (fun r9 M8 => if r9 = 0 then rI (xnar 1 0) M8 else rI (xnar 1 1) M8))) = clsC c M := by
  unfold clsC clsA
  rw [xbI_assoc]
  congr 1
  funext r5 M4
  by_cases e : r5 = 0
  · rw [if_pos e, if_pos e, xbI_r, if_pos (by decide)]
  · rw [if_neg e, if_neg e]
/-- the reference's step, behind the first word -/
noncomputable def refC (c : Nat) (κ : Int32) (M : xM) : xR := xbV (m_M_token 0 M) (fun M10 => xck (zi c * (6 : Int32)) 180 (xbI (m_M_parseArguments 0 κ (zi c * (6 : Int32)) (xst M10 38 0 (ix (zi c * (6 : Int32))) (.int κ))) (fun r12 M11 => if r12 = 0 then rI (-1) M11 else xbI (m_M_semicolon 0 M11) (fun r14 M13 => if r14 = 0 then rI (-1) M13 else b_M_parseScript_3 0 (zi c + 1) M13))))
/-- the end of reading a script -/
def SO (M M' : xM) (r r' : xR) (B : Nat → Int) (n : Nat) (b : Nat → Int) : Prop := ∃ (ok : Bool) (many : Nat) (M1 M1' : xM), r = rI (bz ok) M1 ∧ r' = rI (zi (if ok = true then (many : Int) else -1)) M1' ∧ fz onCS M M1 ∧ fz onVS M' M1' ∧ (GB M' → GB M1') ∧ (ok = true → fz onCS8 M M1 ∧ fz onVS8 M' M1' ∧ many ≤ 30 ∧ gi M1 22 0 1 = zi (many : Nat) ∧ CMS M1 M1' B n b many) ∧ (ok = false → ∃ c f, EC M1 0 c f ∧ ER M1' c f)
theorem SO_tr {M M' M1 M1' : xM} {r r' : xR} {B : Nat → Int} {n : Nat} {b : Nat → Int} (f : fz onCS8 M M1) (f' : fz onVS8 M' M1') (h4 : GB M' → GB M1') (h : SO M1 M1' r r' B n b) : SO M M' r r' B n b := by
  obtain ⟨ok, many, A, A', h1, h2, h3, h5, h6, h7, h8⟩ := h
  exact ⟨ok, many, A, A', h1, h2, fz_trans (onCS8_C f) h3, fz_trans (onVS8_V f') h5, fun q => h6 (h4 q), fun q => ⟨fz_trans f (h7 q).1, fz_trans f' (h7 q).2.1, (h7 q).2.2⟩, h8⟩
theorem rd_no (v : Int32) (M : xM) : b_R_read_10 0 0 9 0 v M = rI (bz false) M := by
  rw [e_b_R_read_10, xnar_0, if_pos rfl]
  split <;> rfl
theorem r_semi_no {M D : xM} {B : Nat → Int} {n p : Nat} {r : Int32} (h : RT M B n p) (c : semE B n p ≠ 0) (e : m_M_semicolon 0 M = rI r D) : fz onW M D := by
  have hT := h.2.1
  have ty := tyR_is (B := B) (n := n) (p := p)
  have c2 : ¬ tT B n p = 2 := fun q => c (by unfold semE; rw [if_pos q])
  have e2 : m_M_semicolon 0 M = rI (bz false) (xst (xst M 27 0 5 (.int (zi (1 : Nat)))) 27 0 6 (.int (zi (tF B n p : Nat)))) := by
    rw [e_m_M_semicolon, hT.2.2.2.1, zi_03, zife (by omega) (by omega) (by decide) (by decide), if_neg (fun q => c2 (ty.2.2.1.mp q)), zi_lit1, r_wrong hT.2.1 1, xbI_r, xnar_b]
  rw [e2] at e
  cases e
  exact fz_wrong
set_option maxHeartbeats 8000000 in
theorem both_script {B : Nat → Int} {n : Nat} {b : Nat → Int} : ∀ j c M M' pos, c + j = 31 → c ≤ 30 → SS M M' B n pos b → GB M' → gi M 22 0 1 = zi (c : Nat) → CMS M M' B n b c → SO M M' (b_R_read_10 0 0 9 1 (zi c) M) (b_M_parseScript_3 0 (zi c) M') B n b := by
  intro j
  induction j with
  | zero => intro c M M' pos hj hc; omega
  | succ j ih =>
    intro c M M' pos hj hc hS hG hcnt hcm
    obtain ⟨hC, hR, hP, hB, hN⟩ := hS
    have kb := fnd_bd (fun κ => atW B n pos κ) 8
    have kb : -1 ≤ kdP B n pos ∧ kdP B n pos < 8 := ⟨kb.1, by have := kb.2; unfold kdP; omega⟩
    rw [e_b_R_read_10, zi_30, zif (by decide) (by decide) (by omega) (by omega), if_neg (by omega), ite_z1, hC.2.1.2.2.2.1, e_b_M_parseScript_3, r_cmdHere hR, xbI_r, xnar_1]
    simp only [TR_ty0 hR.2.1]
    by_cases c4 : tT B n pos = 4
    · rw [if_pos c4, if_pos c4]
      exact ⟨true, c, M, M', rfl, rfl, fz_refl M, fz_refl M', fun z => z, fun _ => ⟨fz_refl M, fz_refl M', hc, hcnt, hcm⟩, fun q => (nomatch q)⟩
    · rw [if_neg c4, if_neg c4, e_m_R_readCommand, s_kindAt hC, xbI_r, zi_m1, zife (by omega) (by omega) (by decide) (by decide), zife (by omega) (by omega) (by decide) (by decide)]
      by_cases ck : kdP B n pos = -1
      · rw [if_pos ck, if_pos ck, zi_lit1, s_fail hC.2.1.2.1 1, r_wrong hR.2.1.2.1 1, xbI_r, xbI_r, xnar_b, xbI_r, ite_bf, ← zi_lit1]
        show SO M M' (b_R_read_10 0 0 9 0 _ _) _ B n b
        rw [rd_no]
        exact ⟨false, 0, _, _, rfl, rfl, onCS_21 fz_fail, onVS_W fz_wrong, GB_W fz_wrong, fun q => (nomatch q), fun _ => ⟨_, _, EC_fail, ER_wrong⟩⟩
      · rw [if_neg ck, if_neg ck, hcnt, zi_30, zif (by omega) (by omega) (by decide) (by decide), zif (by omega) (by omega) (by decide) (by decide), ← zi_m1]
        by_cases cc : (c : Int) < 30
        · rw [if_pos cc, if_pos cc, ite_z1]
          show SO M M' _ (refC c (zi (kdP B n pos)) M') B n b
          obtain ⟨κ, k1, k2, k3⟩ := fnd_ok (P := fun κ => atW B n pos κ) (n := 8) ck
          have k2 : kdP B n pos = (κ : Nat) := k2
          obtain ⟨M1, e1, f1, t1⟩ := s_adv hC
          obtain ⟨M1', e1', f1', t1'⟩ := r_tk hR
          have hcnt1 : gi M1 22 0 1 = zi (c : Nat) := by rw [fz_gi f1 rfl]; exact hcnt
          have kc := (t1.2.2.2.1 κ k1).2.2.2.2.2.1
          unfold refC
          have e6 : zi (c : Int) * (6 : Int32) = zi ((6 * c : Nat) : Int) := by
            rw [zi_06, zi_mul]; exact congrArg zi (by omega)
          have e9 : zi (c : Int) + (1 : Int32) = zi ((c + 1 : Nat) : Int) := zi_suc c
          rw [e1, xbV_r, e1', xbV_r, hcnt1, xck_n (by omega) (by decide), k2, xck_n (by omega) (by decide), zix (by omega), zix (by omega), if_pos kc, e6, xck_n (by omega) (by decide), zix (by omega), e9, Nat.add_zero, Nat.add_zero]
          have fx : fz onX M1 (xst (xst M1 24 c 0 (.ref κ)) 22 0 1 (.int (zi ((c + 1 : Nat) : Int)))) := fz_step (fz_st (onX_c (by omega))) rfl
          have fy : fz on38 M1' (xst M1' 38 0 (6 * c) (.int (zi (κ : Nat)))) := fz_st rfl
          have hG1 : GB M1' := GB_Q f1' hG
          have hG2 : GB (xst M1' 38 0 (6 * c) (.int (zi (κ : Nat)))) := fun i hi => by
            rw [gi_s (by omega), gi_s (by omega), gi_s (by omega), gi_s (by omega)]; exact hG1 i hi
          have g8 : fz onCS8 M (xst (xst M1 24 c 0 (.ref κ)) 22 0 1 (.int (zi ((c + 1 : Nat) : Int)))) := fz_trans (onCS_8 (onT_8 f1)) (onCS_X fx)
          have g8' : fz onVS8 M' (xst M1' 38 0 (6 * c) (.int (zi (κ : Nat)))) := fz_trans (onVS_Q f1') (onVS_38 fy)
          have hS2 : SS (xst (xst M1 24 c 0 (.ref κ)) 22 0 1 (.int (zi ((c + 1 : Nat) : Int)))) (xst M1' 38 0 (6 * c) (.int (zi (κ : Nat)))) B n (tE B n pos) b := ⟨CT_X t1 fx, RT_38 t1' fy, CP_CS hP g8, RB_VS hB g8', hN⟩
          have hA : AS (xst (xst M1 24 c 0 (.ref κ)) 22 0 1 (.int (zi ((c + 1 : Nat) : Int)))) (xst M1' 38 0 (6 * c) (.int (zi (κ : Nat)))) (xst (xst M1 24 c 0 (.ref κ)) 22 0 1 (.int (zi ((c + 1 : Nat) : Int)))) (xst M1' 38 0 (6 * c) (.int (zi (κ : Nat)))) B n (tE B n pos) b c κ False False False False := ⟨hS2, ⟨⟨by rw [gn_k (by decide), gn_h], gi_h _ _ _ _ _⟩, fun q => q.elim, fun q => q.elim, fun q => q.elim, fun q => q.elim⟩, hG2, fun _ _ _ => rfl, rfl, fun _ _ => rfl⟩
          refine SO_tr g8 g8' (fun _ => hG2) ?_
          have ecl := clsC_eq c (xst (xst M1 24 c 0 (.ref κ)) 22 0 1 (.int (zi ((c + 1 : Nat) : Int))))
          have ecl2 : xbI (m_R_readNames 0 9 c (xst (xst M1 24 c 0 (.ref κ)) 22 0 1 (.int (zi ((c + 1 : Nat) : Int))))) (fun r5 M4 => if r5 = 0 then rI (xnar 1 0) M4 else xbI (m_R_readNumber 0 c M4) (fun r7 M6 => if r7 = 0 then rI (xnar 1 0) M6 else xbI (m_T_takeSemicolon 0 M6) (fun r9 M8 => if r9 = 0 then rI (xnar 1 0) M8 else rI (xnar 1 1) M8))) = _ := ecl
          rw [ecl2]
          unfold clsC
          obtain ⟨ok, A, A', z1, z2, z3, z4, z5, z6, z7⟩ := both_args k1 hA (by omega)
          rw [z1, z2, xbI_r, xbI_r]
          cases ok with
          | false =>
            rw [ite_bf, ite_bf, xnar_0, xbI_r]
            show SO _ _ (b_R_read_10 0 0 9 0 _ _) _ B n b
            rw [rd_no]
            exact ⟨false, 0, _, _, rfl, rfl, z3, z4, z5, fun q => (nomatch q), z7⟩
          | true =>
            obtain ⟨y1, y2, pos', hA'⟩ := z6 rfl
            obtain ⟨hS3, hCM3, hG3, kp1, kp2, kp3⟩ := hA'
            rw [ite_bt, ite_bt]
            refine SO_tr y1 y2 (fun _ => hG3) ?_
            obtain ⟨D, ed, fd, gd, nd⟩ := s_semi hS3.1
            obtain ⟨D', ed', fd', gd', nd'⟩ := r_semi hS3.2.1
            rw [ed, ed', xbI_r, xbI_r]
            by_cases cS : semE B n pos' = 0
            · obtain ⟨fd8, td, _⟩ := gd cS
              obtain ⟨fd8', td', _⟩ := gd' cS
              rw [decide_eq_true cS, ite_bt, ite_bt, xnar_1, xbI_r]
              have cnt3 : gi D 22 0 1 = zi ((c + 1 : Nat) : Int) := by
                rw [fz_gi fd8 rfl]
                unfold gi
                rw [kp2]
                exact gi_h (xst M1 24 c 0 (.ref κ)) 22 0 1 (zi ((c + 1 : Nat) : Int))
              have nx := ih (c + 1) D D' _ (by omega) (by omega) ⟨td, td', CP_8 hS3.2.2.1 fd8, RB_VS hS3.2.2.2.1 (onVS_Q fd8'), hN⟩ (GB_Q fd8' hG3) cnt3 (fun i hi => ?_)
              · exact SO_tr (onCS_8 fd8) (onVS_Q fd8') (GB_Q fd8') nx
              · by_cases e : i = c
                · subst e
                  exact ⟨κ, k1, CM_eq hCM3 (fun s => on8_24 fd8 i s) (fun s _ => fz_gi fd8' (onQ_k (by decide)))⟩
                · obtain ⟨κ2, w1, w2⟩ := hcm i (by omega)
                  refine ⟨κ2, w1, CM_eq w2 (fun s => ?_) (fun s hs => ?_)⟩
                  · rw [on8_24 fd8 i s, kp1 i s e]
                    have : (xst (xst M1 24 c 0 (.ref κ)) 22 0 1 (.int (zi ((c + 1 : Nat) : Int)))) 24 i s = M1 24 i s := by
                      unfold xst
                      rw [if_neg (fun q => absurd q.1 (by decide)), if_neg (fun q => e q.2.1)]
                    rw [this]
                    exact f1 24 i s (onT_k (by decide))
                  · rw [fz_gi fd8' (onQ_k (by decide)), kp3 _ (by omega), gi_s (by omega), fz_gi f1' (onQ_k (by decide))]
            · rw [decide_eq_false cS, ite_bf, ite_bf, xnar_0, xbI_r]
              show SO _ _ (b_R_read_10 0 0 9 0 _ _) _ B n b
              rw [rd_no]
              -- the reference's error here leaves its commands
              have dS := r_semi_no hS3.2.1 cS ed'
              refine ⟨false, 0, _, _, rfl, rfl, onCS_21 fd, ?_, ?_, fun q => (nomatch q), fun _ => ⟨_, _, nd cS, nd' cS⟩⟩
              · exact onVS_W dS
              · exact GB_W dS
        · rw [if_neg cc, if_neg cc, zi_lit5, s_fail hC.2.1.2.1 5, r_wrong hR.2.1.2.1 5, xbI_r, xbI_r, xnar_b, xbI_r, ite_bf, if_pos trivial]
          show SO M M' (b_R_read_10 0 0 9 0 _ _) _ B n b
          rw [rd_no]
          exact ⟨false, 0, _, _, rfl, rfl, onCS_21 fz_fail, onVS_W fz_wrong, GB_W fz_wrong, fun q => (nomatch q), fun _ => ⟨_, _, EC_fail, ER_wrong⟩⟩
