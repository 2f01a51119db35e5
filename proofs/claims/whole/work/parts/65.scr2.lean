/-! scripts: a command's arguments, both sides -/
theorem xbI_assoc (r : xR) (f g : Int32 → xM → xR) : xbI (xbI r f) g = xbI r (fun x M => xbI (f x M) g) := match r with
  | none => rfl
  | some (.inr _, _) => rfl
  | some (.inl none, _) => rfl
  | some (.inl (some (_, v)), _) => by cases v <;> rfl
/-- command i, on both sides: of kind κ, the parts that are read so far -/
def CM (M M' : xM) (B : Nat → Int) (n : Nat) (b : Nat → Int) (i κ : Nat) (d1 d2 d3 d4 : Prop) : Prop := (gn M 24 i 0 = κ ∧ gi M' 38 0 (6 * i) = zi (κ : Nat)) ∧ (d1 → NR B n (gl M 24 i 1) (gi M' 38 0 (6 * i + 1)) (gi M' 38 0 (6 * i + 2))) ∧ (d2 → NR B n (gl M 24 i 2) (gi M' 38 0 (6 * i + 3)) (gi M' 38 0 (6 * i + 4))) ∧ (d3 → NR B n (gl M 24 i 3) (gi M' 38 0 (6 * i + 3)) (gi M' 38 0 (6 * i + 4)) ∧ fnd (fun r => decide (pk b (4 + 8 * r) = gl M 24 i 3)) (nR b) ≠ -1) ∧ (d4 → ∃ v : Int, 0 ≤ v ∧ v ≤ 999 ∧ gi M 24 i 4 = zi v ∧ gi M' 38 0 (6 * i + 5) = zi v)
/-- the other commands stay -/
def KP (M0 M0' M M' : xM) (i : Nat) : Prop := (∀ j s, j ≠ i → M 24 j s = M0 24 j s) ∧ M 22 0 1 = M0 22 0 1 ∧ ∀ s, (s < 6 * i ∨ 6 * i + 6 ≤ s) → gi M' 38 0 s = gi M0' 38 0 s
def AS (M0 M0' M M' : xM) (B : Nat → Int) (n pos : Nat) (b : Nat → Int) (i κ : Nat) (d1 d2 d3 d4 : Prop) : Prop := SS M M' B n pos b ∧ CM M M' B n b i κ d1 d2 d3 d4 ∧ GB M' ∧ KP M0 M0' M M' i
theorem NR_le {B : Nat → Int} {n : Nat} {w : Int64} {x y : Int32} (h : NR B n w x y) (hn : n ≤ 600) : ∃ f l : Nat, x = zi (f : Nat) ∧ y = zi (l : Nat) ∧ f + l ≤ 600 := by
  obtain ⟨f, l, _, h2, h3, _, _, h6, _⟩ := h
  exact ⟨f, l, h2, h3, by omega⟩
theorem on8_24 {M M' : xM} (f : fz (on8 0) M M') (j s : Nat) : M' 24 j s = M 24 j s := f 24 j s rfl
/-- a task's name, the first or the second -/
theorem as_task {M0 M0' M M' : xM} {B : Nat → Int} {n pos : Nat} {b : Nat → Int} {i κ : Nat} {d1 d2 d3 d4 : Prop} (h : AS M0 M0' M M' B n pos b i κ d1 d2 d3 d4) (hi : i < 30) (sec : Bool) (hd3 : sec = true → ¬ d3) {k k' : xM → xR} {gc g : Int32 → xM → xR} (q0 : ∀ M1, gc (bz false) M1 = rI (bz false) M1) (q1 : ∀ M1, gc (bz true) M1 = k M1) (g0 : ∀ M1, g (bz false) M1 = rI (bz false) M1) (g1 : ∀ M1, g (bz true) M1 = k' M1) {G : xM → xM → Prop} (hk : ∀ M1 M1', KC M1 → gn M1 24 i 0 = κ → AS M0 M0' (xst M1 24 i (if sec = true then 2 else 1) (.long (gl M1 21 0 6))) M1' B n (tE B n pos) b i κ (d1 ∨ sec = false) (d2 ∨ sec = true) d3 d4 → PS (xst M1 24 i (if sec = true then 2 else 1) (.long (gl M1 21 0 6))) M1' (k M1) (k' M1') G) : PS M M' (xbI (m_P_taskNamed 9 (gl M 21 0 4) M) (fun r M1 => xbI (m_T_takeKnownName 0 r M1) gc)) (xbI (m_M_parseName 0 (zi (6 * i + (if sec = true then 3 else 1) : Nat)) 1 M') g) G := by
  obtain ⟨hS, ⟨⟨k0, k0'⟩, c1, c2, c3, c4⟩, hG, kp1, kp2, kp3⟩ := h
  have hn := hS.1.1.1
  have := both_nm hS (to := 6 * i + (if sec = true then 3 else 1)) (by split <;> omega) (fun M1' e1 e2 hg j hj => by
      obtain ⟨w1, w2⟩ := hg j hj
      by_cases e : j = i
      · subst e
        cases sec with
        | true =>
          refine ⟨?_, e2⟩
          rw [e1 _ (by simp) (by simp), e1 _ (by simp) (by simp)]; exact w1
        | false =>
          refine ⟨e2, ?_⟩
          rw [e1 _ (by simp) (by simp), e1 _ (by simp) (by simp)]; exact w2
      · rw [e1 _ (by split <;> omega) (by split <;> omega), e1 _ (by split <;> omega) (by split <;> omega), e1 _ (by split <;> omega) (by split <;> omega), e1 _ (by split <;> omega) (by split <;> omega)]
        exact ⟨w1, w2⟩) true (k := fun M1 => k M1) (k' := k') q0 q1 g0 g1 (G := G) (fun M1 M1' f1 f1' hS1 hN1 hsame _ => ?_)
  · exact this
  · have fx : fz onX M1 (xst M1 24 i (if sec = true then 2 else 1) (.long (gl M1 21 0 6))) := fz_st (onX_c hi)
    have r24 : ∀ j s, M1 24 j s = M 24 j s := on8_24 f1
    have r22 : M1 22 0 1 = M 22 0 1 := f1 22 0 1 rfl
    have n24 : ∀ j s, j ≠ i → (xst M1 24 i (if sec = true then 2 else 1) (.long (gl M1 21 0 6))) 24 j s = M1 24 j s := fun j s hj => by
      unfold xst; rw [if_neg (fun q => hj q.2.1)]
    have g24 : ∀ s, gn M1 24 i s = gn M 24 i s := fun s => by unfold gn; rw [r24]
    have l24 : ∀ s, gl M1 24 i s = gl M 24 i s := fun s => by unfold gl; rw [r24]
    have i24 : ∀ s, gi M1 24 i s = gi M 24 i s := fun s => by unfold gi; rw [r24]
    have key : PS (xst M1 24 i (if sec = true then 2 else 1) (.long (gl M1 21 0 6))) M1' (k M1) (k' M1') G := hk M1 M1' hS1.1.2.2 (by rw [g24]; exact k0) ⟨⟨CT_X hS1.1 fx, hS1.2.1, CP_fz hS1.2.2.1 fx (fun k s h1 h2 => onX_k (by omega) (by omega)), hS1.2.2.2⟩, ⟨⟨?_, ?_⟩, fun q => ?_, fun q => ?_, fun q => ?_, fun q => ?_⟩, fun j hj => ?_, fun j s hj => by rw [n24 j s hj, r24]; exact kp1 j s hj, ?_, fun s hs => ?_⟩
    · obtain ⟨ok, A, A', z1, z2, z3, z4, z7, z5, z6⟩ := key
      exact ⟨ok, A, A', z1, z2, fz_trans (onCS8_C (onCS_X fx)) z3, z4, z7, fun q => ⟨fz_trans (onCS_X fx) (z5 q).1, (z5 q).2⟩, z6⟩
    · rw [gn_s (by split <;> omega), g24]; exact k0
    · rw [hsame _ (by split <;> omega) (by split <;> omega)]; exact k0'
    · cases sec with
      | true =>
        have q : d1 := by
          rcases q with q | q
          · exact q
          · cases q
        rw [gl_s (show (1 : Nat) ≠ (if true = true then 2 else 1) by decide), l24, hsame _ (by simp) (by simp), hsame _ (by simp) (by simp)]
        exact c1 q
      | false =>
        show NR B n (gl (xst M1 24 i 1 (.long (gl M1 21 0 6))) 24 i 1) _ _
        rw [gl_h]
        exact hN1
    · cases sec with
      | true =>
        show NR B n (gl (xst M1 24 i 2 (.long (gl M1 21 0 6))) 24 i 2) _ _
        rw [gl_h]
        exact hN1
      | false =>
        have q : d2 := by
          rcases q with q | q
          · exact q
          · cases q
        rw [gl_s (show (2 : Nat) ≠ (if false = true then 2 else 1) by decide), l24, hsame _ (by simp) (by simp), hsame _ (by simp) (by simp)]
        exact c2 q
    · cases sec with
      | true => exact absurd q (hd3 rfl)
      | false =>
        rw [gl_s (show (3 : Nat) ≠ (if false = true then 2 else 1) by decide), l24, hsame _ (by simp) (by simp), hsame _ (by simp) (by simp)]
        exact c3 q
    · rw [gi_s (by split <;> omega), i24, hsame _ (by split <;> omega) (by split <;> omega)]
      exact c4 q
    · obtain ⟨w1, w2⟩ := hG j hj
      have nl := NR_le hN1 hn
      by_cases e : j = i
      · subst e
        cases sec with
        | true =>
          refine ⟨?_, nl⟩
          rw [hsame _ (by simp) (by simp), hsame _ (by simp) (by simp)]; exact w1
        | false =>
          refine ⟨nl, ?_⟩
          rw [hsame _ (by simp) (by simp), hsame _ (by simp) (by simp)]; exact w2
      · rw [hsame _ (by split <;> omega) (by split <;> omega), hsame _ (by split <;> omega) (by split <;> omega), hsame _ (by split <;> omega) (by split <;> omega), hsame _ (by split <;> omega) (by split <;> omega)]
        exact ⟨w1, w2⟩
    · have : (xst M1 24 i (if sec = true then 2 else 1) (.long (gl M1 21 0 6))) 22 0 1 = M1 22 0 1 := by
        unfold xst; rw [if_neg (fun q => absurd q.1 (by decide))]
      rw [this, r22]; exact kp2
    · rw [hsame s (by split <;> omega) (by split <;> omega)]; exact kp3 s hs
/-- a resource's name -/
theorem as_res {M0 M0' M M' : xM} {B : Nat → Int} {n pos : Nat} {b : Nat → Int} {i κ : Nat} {d1 d2 d3 d4 : Prop} (h : AS M0 M0' M M' B n pos b i κ d1 d2 d3 d4) (hi : i < 30) (hd2 : ¬ d2) {k k' : xM → xR} {gc g : Int32 → xM → xR} (q0 : ∀ M1, gc (bz false) M1 = rI (bz false) M1) (q1 : ∀ M1, gc (bz true) M1 = k M1) (g0 : ∀ M1, g (bz false) M1 = rI (bz false) M1) (g1 : ∀ M1, g (bz true) M1 = k' M1) {G : xM → xM → Prop} (hk : ∀ M1 M1', KC M1 → gn M1 24 i 0 = κ → AS M0 M0' (xst M1 24 i 3 (.long (gl M1 21 0 6))) M1' B n (tE B n pos) b i κ d1 d2 True d4 → PS (xst M1 24 i 3 (.long (gl M1 21 0 6))) M1' (k M1) (k' M1') G) : PS M M' (xbI (m_P_resourceNamed 9 (gl M 21 0 4) M) (fun r M1 => xbI (m_T_takeKnownName 0 r M1) gc)) (xbI (m_M_parseName 0 (zi (6 * i + 3 : Nat)) 0 M') g) G := by
  obtain ⟨hS, ⟨⟨k0, k0'⟩, c1, c2, c3, c4⟩, hG, kp1, kp2, kp3⟩ := h
  have hn := hS.1.1.1
  have := both_nm hS (to := 6 * i + 3) (by omega) (fun M1' e1 e2 hg j hj => by
      obtain ⟨w1, w2⟩ := hg j hj
      by_cases e : j = i
      · subst e
        refine ⟨?_, e2⟩
        rw [e1 _ (by omega) (by omega), e1 _ (by omega) (by omega)]; exact w1
      · rw [e1 _ (by omega) (by omega), e1 _ (by omega) (by omega), e1 _ (by omega) (by omega), e1 _ (by omega) (by omega)]
        exact ⟨w1, w2⟩) false (k := fun M1 => k M1) (k' := k') q0 q1 g0 g1 (G := G) (fun M1 M1' f1 f1' hS1 hN1 hsame hres => ?_)
  · exact this
  · have fx : fz onX M1 (xst M1 24 i 3 (.long (gl M1 21 0 6))) := fz_st (onX_c hi)
    have r24 : ∀ j s, M1 24 j s = M 24 j s := on8_24 f1
    have r22 : M1 22 0 1 = M 22 0 1 := f1 22 0 1 rfl
    have n24 : ∀ j s, j ≠ i → (xst M1 24 i 3 (.long (gl M1 21 0 6))) 24 j s = M1 24 j s := fun j s hj => by
      unfold xst; rw [if_neg (fun q => hj q.2.1)]
    have g24 : ∀ s, gn M1 24 i s = gn M 24 i s := fun s => by unfold gn; rw [r24]
    have l24 : ∀ s, gl M1 24 i s = gl M 24 i s := fun s => by unfold gl; rw [r24]
    have i24 : ∀ s, gi M1 24 i s = gi M 24 i s := fun s => by unfold gi; rw [r24]
    have key : PS (xst M1 24 i 3 (.long (gl M1 21 0 6))) M1' (k M1) (k' M1') G := hk M1 M1' hS1.1.2.2 (by rw [g24]; exact k0) ⟨⟨CT_X hS1.1 fx, hS1.2.1, CP_fz hS1.2.2.1 fx (fun k s h1 h2 => onX_k (by omega) (by omega)), hS1.2.2.2⟩, ⟨⟨?_, ?_⟩, fun q => ?_, fun q => absurd q hd2, fun q => ?_, fun q => ?_⟩, fun j hj => ?_, fun j s hj => by rw [n24 j s hj, r24]; exact kp1 j s hj, ?_, fun s hs => ?_⟩
    · obtain ⟨ok, A, A', z1, z2, z3, z4, z7, z5, z6⟩ := key
      exact ⟨ok, A, A', z1, z2, fz_trans (onCS8_C (onCS_X fx)) z3, z4, z7, fun q => ⟨fz_trans (onCS_X fx) (z5 q).1, (z5 q).2⟩, z6⟩
    · rw [gn_s (by omega), g24]; exact k0
    · rw [hsame _ (by omega) (by omega)]; exact k0'
    · rw [gl_s (by decide), l24, hsame _ (by omega) (by omega), hsame _ (by omega) (by omega)]
      exact c1 q
    · rw [gl_h]
      exact ⟨hN1, hres rfl⟩
    · rw [gi_s (by decide), i24, hsame _ (by omega) (by omega)]
      exact c4 q
    · obtain ⟨w1, w2⟩ := hG j hj
      have nl := NR_le hN1 hn
      by_cases e : j = i
      · subst e
        refine ⟨?_, nl⟩
        rw [hsame _ (by omega) (by omega), hsame _ (by omega) (by omega)]; exact w1
      · rw [hsame _ (by omega) (by omega), hsame _ (by omega) (by omega), hsame _ (by omega) (by omega), hsame _ (by omega) (by omega)]
        exact ⟨w1, w2⟩
    · have : (xst M1 24 i 3 (.long (gl M1 21 0 6))) 22 0 1 = M1 22 0 1 := by
        unfold xst; rw [if_neg (fun q => absurd q.1 (by decide))]
      rw [this, r22]; exact kp2
    · rw [hsame s (by omega) (by omega)]; exact kp3 s hs
/-- its number -/
theorem as_num {M0 M0' M M' : xM} {B : Nat → Int} {n pos : Nat} {b : Nat → Int} {i κ : Nat} {d1 d2 d3 d4 : Prop} (h : AS M0 M0' M M' B n pos b i κ d1 d2 d3 d4) (hi : i < 30) : PS M M' (xbI (m_T_takeNumber 0 0 999 M) (fun r2 M1 => rI (xnar 1 r2) (xst M1 24 i 4 (.int (gi M1 21 0 7))))) (m_M_parseNumber 0 (zi (6 * i + 5 : Nat)) M') (fun M1 M1' => ∃ pos', AS M0 M0' M1 M1' B n pos' b i κ d1 d2 d3 True) := by
  obtain ⟨hS, ⟨⟨k0, k0'⟩, c1, c2, c3, c4⟩, hG, kp1, kp2, kp3⟩ := h
  have hC := hS.1
  have hR := hS.2.1
  have ty := tyR_is (B := B) (n := n) (p := pos)
  obtain ⟨M1, e1, f1, a1, b1⟩ := s_number hC (lo := 0) (hi := 999) (by omega) (by omega)
  have e1 : m_T_takeNumber 0 0 999 M = _ := e1
  rw [e1, xbI_r, xnar_b, e_m_M_parseNumber, hR.2.1.2.2.2.1, zi_02, zife (by omega) (by omega) (by decide) (by decide)]
  have fx : ∀ v, fz onX M1 (xst M1 24 i 4 v) := fun v => fz_st (onX_c hi)
  by_cases c : tT B n pos = 1
  · have vb : 0 ≤ numV B n pos ∧ numV B n pos ≤ 999 := num_bd hC.2.1.1 c
    have nE : numE B n pos 0 999 = 0 := by unfold numE; rw [if_pos c, if_pos vb]
    obtain ⟨f8, t8, q8, q9⟩ := a1 nE
    have f3 : fz on38 M' (xst M' 38 0 (6 * i + 5) (.int (zi (numV B n pos)))) := fz_st rfl
    obtain ⟨M4, e4, f4, t4⟩ := r_tk (RT_38 hR f3)
    have v20 : gi M' 27 0 20 = zi (numV B n pos) := hR.2.1.2.2.2.2 c
    rw [nE, if_pos (ty.2.1.mpr c), xck_n (by omega) (by decide), zix (by omega), v20, e4, xbV_r, xnar_1, q8]
    have r24 : ∀ j s, M1 24 j s = M 24 j s := on8_24 f8
    have s38 : ∀ s, s ≠ 6 * i + 5 → gi M4 38 0 s = gi M' 38 0 s := fun s hs => by rw [fz_gi f4 (onQ_k (by decide)), gi_s hs]
    have n24 : ∀ j s, j ≠ i → (xst M1 24 i 4 (.int (zi (numV B n pos)))) 24 j s = M1 24 j s := fun j s hj => by
      unfold xst; rw [if_neg (fun q => hj q.2.1)]
    have g24 : ∀ s, gn M1 24 i s = gn M 24 i s := fun s => by unfold gn; rw [r24]
    have l24 : ∀ s, gl M1 24 i s = gl M 24 i s := fun s => by unfold gl; rw [r24]
    refine PS_yes (fz_trans (onCS_8 f8) (onCS_X (fx _))) (fz_trans (onVS_38 f3) (onVS_Q f4)) (fun hg j hj => by rw [s38 _ (by omega), s38 _ (by omega), s38 _ (by omega), s38 _ (by omega)]; exact hg j hj) ⟨tE B n pos, ⟨CT_X t8 (fx _), t4, CP_fz (CP_8 hS.2.2.1 f8) (fx _) (fun k s h1 h2 => onX_k (by omega) (by omega)), RB_VS hS.2.2.2.1 (fz_trans (onVS_38 f3) (onVS_Q f4)), hS.2.2.2.2⟩, ⟨⟨?_, ?_⟩, fun q => ?_, fun q => ?_, fun q => ?_, fun _ => ⟨numV B n pos, vb.1, vb.2, gi_h _ _ _ _ _, ?_⟩⟩, fun j hj => ?_, fun j s hj => by rw [n24 j s hj, r24]; exact kp1 j s hj, ?_, fun s hs => ?_⟩
    · rw [gn_s (by decide), g24]; exact k0
    · rw [s38 _ (by omega)]; exact k0'
    · rw [gl_s (by decide), l24, s38 _ (by omega), s38 _ (by omega)]; exact c1 q
    · rw [gl_s (by decide), l24, s38 _ (by omega), s38 _ (by omega)]; exact c2 q
    · rw [gl_s (by decide), l24, s38 _ (by omega), s38 _ (by omega)]; exact c3 q
    · rw [fz_gi f4 (onQ_k (by decide)), gi_h]
    · rw [s38 _ (by omega), s38 _ (by omega), s38 _ (by omega), s38 _ (by omega)]; exact hG j hj
    · have : (xst M1 24 i 4 (.int (zi (numV B n pos)))) 22 0 1 = M1 22 0 1 := by
        unfold xst; rw [if_neg (fun q => absurd q.1 (by decide))]
      rw [this, f8 22 0 1 rfl]; exact kp2
    · rw [s38 _ (by omega)]; exact kp3 s hs
  · have nE : numE B n pos 0 999 = 1 := by unfold numE; rw [if_neg c]
    have b1 := b1 (by rw [nE]; decide)
    rw [nE] at b1
    rw [nE, if_neg (fun q => c (ty.2.1.mp q)), zi_lit1, r_wrong hR.2.1.2.1 1, xbI_r, xnar_b]
    refine PS_no (fz_trans (onCS_21 f1) (onCS8_C (onCS_X (fx _)))) fz_wrong (f := tF B n pos) (c := 1) ⟨?_, ?_⟩ ER_wrong
    · rw [gi_k (by decide)]; exact b1.1
    · rw [gi_k (by decide)]; exact b1.2
/-- both read the arguments -/
noncomputable def clsA (i : Nat) (M : xM) : xR := xbI (m_R_readNames 0 9 i M) (fun r5 M4 => if r5 = 0 then rI (xnar 1 0) M4 else m_R_readNumber 0 i M4)
def tN (κ : Nat) : Bool := decide (κ ≠ 5 ∧ κ ≠ 6)
theorem KC_t {M : xM} (h : KC M) {κ : Nat} (hκ : κ < 8) : gi M 43 κ 2 = xget0 0 (xget0 [] xckv κ) 1 ∧ gi M 43 κ 3 = xget0 0 (xget0 [] xckv κ) 2 ∧ gi M 43 κ 4 = xget0 0 (xget0 [] xckv κ) 3 := ⟨(h.2.1 κ hκ).2.2.1, (h.2.1 κ hκ).2.2.2.1, (h.2.1 κ hκ).2.2.2.2.1⟩
/-- which parts a kind has -/
def pt1 (κ : Nat) : Prop := κ = 0 ∨ κ = 1 ∨ κ = 2 ∨ κ = 3 ∨ κ = 4 ∨ κ = 7
def pt2 (κ : Nat) : Prop := κ = 3 ∨ κ = 4
def pt3 (κ : Nat) : Prop := κ = 1 ∨ κ = 5
def pt4 (κ : Nat) : Prop := κ = 0 ∨ κ = 1 ∨ κ = 2 ∨ κ = 5 ∨ κ = 6
theorem AS_weak {M0 M0' M M' : xM} {B : Nat → Int} {n pos : Nat} {b : Nat → Int} {i κ : Nat} {d1 d2 d3 d4 e1 e2 e3 e4 : Prop} (h : AS M0 M0' M M' B n pos b i κ d1 d2 d3 d4) (h1 : e1 → d1) (h2 : e2 → d2) (h3 : e3 → d3) (h4 : e4 → d4) : AS M0 M0' M M' B n pos b i κ e1 e2 e3 e4 := by
  obtain ⟨hS, ⟨k0, c1, c2, c3, c4⟩, hG⟩ := h
  exact ⟨hS, ⟨k0, fun q => c1 (h1 q), fun q => c2 (h2 q), fun q => c3 (h3 q), fun q => c4 (h4 q)⟩, hG⟩
theorem PS_w {M M' : xM} {r r' : xR} {G G2 : xM → xM → Prop} (h : PS M M' r r' G) (hG : ∀ A A', G A A' → G2 A A') : PS M M' r r' G2 := by
  obtain ⟨ok, A, A', h1, h2, h3, h4, h7, h5, h6⟩ := h
  exact ⟨ok, A, A', h1, h2, h3, h4, h7, fun q => ⟨(h5 q).1, (h5 q).2.1, hG _ _ (h5 q).2.2⟩, h6⟩
theorem PS_1 {M M' : xM} {r r' : xR} {G : xM → xM → Prop} {g : Int32 → xM → xR} (h : PS M M' r r' G) (g0 : ∀ M1, g (bz false) M1 = rI (bz false) M1) (g1 : ∀ M1, g (bz true) M1 = rI (bz true) M1) : PS M M' r (xbI r' g) G := by
  obtain ⟨ok, A, A', h1, h2, h3, h4, h7, h5, h6⟩ := h
  refine ⟨ok, A, A', h1, ?_, h3, h4, h7, h5, h6⟩
  rw [h2, xbI_r]
  cases ok
  · exact g0 _
  · exact g1 _
