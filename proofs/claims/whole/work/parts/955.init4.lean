/-! the beginning: the reference reads the sample project -/
def on30z (k o _ : Nat) : Bool := Nat.beq k 30 && Nat.beq o 0
theorem on30z_i {k o s : Nat} (h : on30z k o s = true) : k = 30 ∧ o = 0 := by
  unfold on30z at h
  simp only [Bool.and_eq_true, Nat.beq_eq] at h
  exact h
theorem on30z_f {k o s : Nat} (h : k ≠ 30) : on30z k o s = false := by
  unfold on30z
  rw [beq_ff h]; rfl
theorem Bz_tail : (List.range 430).all (fun k => decide (Bz (170 + k) = 0)) = true := by decide +kernel
theorem Bz_0 {k : Nat} (h1 : 170 ≤ k) (h2 : k < 600) : Bz k = 0 := by
  have h := of_decide_eq_true (List.all_eq_true.mp Bz_tail (k - 170) (List.mem_range.mpr (by omega)))
  rw [show 170 + (k - 170) = k by omega] at h
  exact h
theorem xg4 (N : xM) : xgood (xsl 4) N = true := rfl
theorem V8_f {k o s : Nat} (h : ¬ (o = 0 ∧ ((k = 27 ∧ 17 ≤ s ∧ s ≤ 20) ∨ (k = 28 ∧ s < 316)))) : onV8 k o s = false := by
  cases e : onV8 k o s with
  | false => rfl
  | true =>
    unfold onV8 onQ on280 at e
    simp only [Bool.or_eq_true, Bool.and_eq_true, Nat.beq_eq, Nat.ble_eq, Nat.blt_eq] at e
    omega
theorem onW_f2 {k o s : Nat} (h : ¬ (o = 0 ∧ k = 27 ∧ (s = 5 ∨ s = 6 ∨ (17 ≤ s ∧ s ≤ 20)))) : onW k o s = false := by
  cases e : onW k o s with
  | false => rfl
  | true =>
    unfold onW at e
    simp only [Bool.or_eq_true, Bool.and_eq_true, Nat.beq_eq, Nat.ble_eq] at e
    omega
theorem s_M84 {R : xM} (hK : KC R) (hz : ∀ k, gi R 30 0 k = 0) (hf : gn R 227 0 3 = 1) : ∃ N, b_M_init_84 0 16 0 R = b_M_init_84 0 16 (zi ((170 : Nat) : Int)) N ∧ fz on30z R N ∧ ∀ k, k < 600 → gi N 30 0 k = zi (Bz k) := by
  refine lpM (B := fun i N => b_M_init_84 0 16 (zi (i : Nat)) N) (n := 170) (fun i N => fz on30z R N ∧ (∀ k, k < i → gi N 30 0 k = zi (Bz k)) ∧ ∀ k, i ≤ k → gi N 30 0 k = 0) (fun q => ∃ N, q = b_M_init_84 0 16 (zi ((170 : Nat) : Int)) N ∧ fz on30z R N ∧ ∀ k, k < 600 → gi N 30 0 k = zi (Bz k)) (fun i N hi g => ?_) (fun N g => ?_) 0 R (Nat.zero_le _) ⟨fz_refl R, fun k hk => absurd hk (Nat.not_lt_zero k), fun k _ => hz k⟩
  · obtain ⟨g1, g2, g3⟩ := g
    have hKN : KC N := KC_fz hK g1 (fun k o s q => on30z_f (by omega))
    refine ⟨xst N 30 0 i (.int (zi (cB 16 i))), ⟨fz_step g1 rfl, fun k hk => ?_, fun k hk => ?_⟩, ?_⟩
    · by_cases c : k = i
      · subst c; rw [gi_h]; rfl
      · rw [gi_s c]; exact g2 k (by omega)
    · rw [gi_s (by omega)]; exact g3 k (by omega)
    · show b_M_init_84 0 16 (zi (i : Nat)) N = b_M_init_84 0 16 (zi ((i + 1 : Nat) : Int)) _
      have hi : i < cN 16 := hi
      have h1 : i < 170 := hi
      rw [e_b_M_init_84, xgd_t (by rw [xg4]; rfl), s_strlen hKN (by decide), xret_I, xbI_r, if_pos (zi_ltn hi (by decide)), if_pos ((fz_gn g1 (on30z_f (by decide))).trans hf), xgd_t (by rw [xg4]; rfl), s_charAt hKN (by decide) hi, xret_I, xbI_r, xck_n (by omega) (by decide), zix (by omega), zi_suc]
  · obtain ⟨g1, g2, g3⟩ := g
    refine ⟨N, rfl, g1, fun k hk => ?_⟩
    by_cases c : k < 170
    · exact g2 k c
    · rw [g3 k (by omega), Bz_0 (by omega) hk]; rfl
def ZW (k o s : Nat) : Bool := Nat.beq k 17 || (Nat.beq k 19 && Nat.beq o 0) || (Nat.beq k 21 && (Nat.beq o 0 && Nat.beq s 8)) || Nat.beq k 26 || (Nat.beq k 27 && (Nat.beq s 2 || Nat.beq s 8)) || Nat.beq k 29 || Nat.beq k 38
theorem ZW_i {k o s : Nat} (h : ZW k o s = true) : k = 17 ∨ (k = 19 ∧ o = 0) ∨ (k = 21 ∧ o = 0 ∧ s = 8) ∨ k = 26 ∨ (k = 27 ∧ (s = 2 ∨ s = 8)) ∨ k = 29 ∨ k = 38 := by
  unfold ZW at h
  simp only [Bool.or_eq_true, Bool.and_eq_true, Nat.beq_eq] at h
  omega
theorem ZC2_t {k o s : Nat} (h : k = 17 ∨ (k = 19 ∧ o = 0) ∨ (k = 21 ∧ o = 0 ∧ s = 8) ∨ k = 26 ∨ (27 ≤ k ∧ k < 41)) : ZC2 k o s = true := by
  unfold ZC2
  simp only [Bool.or_eq_true, Bool.and_eq_true, Nat.beq_eq, Nat.ble_eq, Nat.blt_eq]
  omega
/-- what the reference's constructor leaves -/
theorem s_M2 {M0 X R : xM} {r1 r2 : Nat} (hK0 : KC M0) (hR : AZ M0 R cM1 fM1 ZM1 YC r1 r2) (hX : fz onMs X R) (hN : ∀ N, RT N Bz 170 0 → ∃ N1, m_M_parseSetup 0 N = rI (bz true) N1 ∧ fz onV8 N N1 ∧ ∃ b, wF b ∧ CP X 9 b ∧ RB N1 b) : ∃ W, b_M_init_84 0 16 0 R = rV W ∧ AZ M0 W cM1 fM1 ZW YC r1 r2 ∧ fz onMs X W ∧ (∃ b, wF b ∧ CP W 9 b ∧ RB W b) ∧ gi W 27 0 5 = zi 0 ∧ gi W 27 0 6 = zi (-1) ∧ gi W 27 0 4 = 0 := by
  have KR : KC R := KC_Cs hK0 hR.1
  obtain ⟨N, e1, f1, t1⟩ := s_M84 KR (fun k => hR.2.2.2.1 30 0 k rfl) (AZ_f hR (k := 27) (o := 0) (f := 3) (by decide +kernel))
  have KN : KC N := KC_fz KR f1 (fun k o s q => on30z_f (by omega))
  have bN := AZ_fz hR f1 (fun k o s hk => on30z_f (by omega))
  have g4 : fz (is3 27 0 4) N (xst N 27 0 4 (.int (zi ((170 : Nat) : Int)))) := fz_st (is3_t 27 0 4)
  have bN4 := AZ_fz bN g4 (fun k o s hk => is3_41 (by decide) hk)
  have KN4 : KC (xst N 27 0 4 (.int (zi ((170 : Nat) : Int)))) := KC_fz KN g4 (fun k o s q => is3_f (by omega))
  have bt : ∀ k, k < 600 → gi (xst N 27 0 4 (.int (zi ((170 : Nat) : Int)))) 30 0 k = zi (Bz k) := fun k hk => (gi_k (by decide)).trans (t1 k hk)
  obtain ⟨N5, e5, f5, hRT, g5, g6⟩ := r_begin (M := xst N 27 0 4 (.int (zi ((170 : Nat) : Int)))) (B := Bz) (n := 170) ⟨by decide, gi_h _ _ _ _ _, fun k hk => ⟨bt k (by omega), by have := Bz_bd (k := k) (by omega); omega, by have := Bz_bd (k := k) (by omega); omega⟩⟩ KN4 (fun k hk => ⟨bt k hk, by have := Bz_bd hk; omega, by have := Bz_bd hk; omega⟩)
  have b5 := AZ_fz bN4 f5 (fun k o s hk => onW_k (by omega))
  obtain ⟨N6, e6, f6, b, w1, w2, w3⟩ := hN N5 hRT
  have b6 := AZ_fz b5 f6 (fun k o s hk => V8_f (by omega))
  have g7 : fz (is3 27 0 4) N6 (xst N6 27 0 4 (.int 0)) := fz_st (is3_t 27 0 4)
  have b7 := AZ_fz b6 g7 (fun k o s hk => is3_41 (by decide) hk)
  have fX : fz onMs X (xst N6 27 0 4 (.int 0)) := fz_step (fz_trans (fz_trans (fz_step (fz_trans hX (fz_mono (fun k o s h => onMs_t (by have := on30z_i h; omega)) f1)) rfl) (fz_mono (fun k o s h => by
    have := kV (kW h)
    exact onMs_t (by omega)) f5)) (fz_mono (fun k o s h => by
    have := kV (by
      cases e : onV k o s with
      | true => rfl
      | false => exact absurd h (by
        unfold onV8 at h
        unfold onV onW at e
        rw [Bool.or_eq_false_iff] at e
        rw [e.2, Bool.or_false] at h
        exact absurd h (by
          intro h
          have e1 := e.1
          unfold onQ at h
          simp only [Bool.and_eq_true, Nat.beq_eq, Nat.ble_eq] at h
          obtain ⟨⟨rfl, rfl⟩, h1, h2⟩ := h
          rw [Nat.ble_eq_true_of_le h1, Nat.ble_eq_true_of_le h2] at e1
          exact nomatch e1)))
    exact onMs_t (by omega)) f6)) rfl
  have x3a : xgood (xsl 3) (xst N 27 0 4 (.int (zi ((170 : Nat) : Int)))) = true := xgood_AZ bN4 (by decide) (by decide +kernel)
  have x3b : xgood (xsl 3) N5 = true := xgood_AZ b5 (by decide) (by decide +kernel)
  refine ⟨xst N6 27 0 4 (.int 0), ?_, AZ_weak b7 (fun _ _ => rfl) (fun _ _ _ q => q) (fun k o s q => ?_) (fun k o s q => ?_) (Nat.le_refl _) (Nat.le_refl _), fX, ⟨b, w1, CP_fz w2 fX (fun k s h1 h2 => onMs_f (by omega)), fun k hk => (gi_k (by decide)).trans (w3 k hk)⟩, ?_, ?_, gi_h _ _ _ _ _⟩
  · have c16 : zi (cN 16 : Nat) = zi ((170 : Nat) : Int) := rfl
    rw [e1, e_b_M_init_84, xgd_t (by rw [xg4]; rfl), s_strlen KN (by decide), xret_I, xbI_r, c16, if_neg (zi_irr _), xgd_t (by rw [xg4]; rfl), s_strlen KN (by decide), xret_I, xbI_r, c16, xgd_t (by rw [x3a]; rfl), e5, xret_v, xbV_r, xgd_t (by rw [x3b]; rfl), e6, xret_v, xbI_r]
  · have w := ZW_i q
    have y1 : ZC2 k o s = true := ZC2_t (by omega)
    have y2 : is3 27 0 6 k o s = false := is3_f (by omega)
    have y3 : on30z k o s = false := on30z_f (by omega)
    have y4 : is3 27 0 4 k o s = false := is3_f (by omega)
    have y5 : onW k o s = false := onW_f2 (by omega)
    have y6 : onV8 k o s = false := V8_f (by omega)
    show ((((((ZC2 k o s && !is3 27 0 6 k o s) && !on30z k o s) && !is3 27 0 4 k o s) && !onW k o s) && !onV8 k o s) && !is3 27 0 4 k o s) = true
    rw [y1, y2, y3, y4, y5, y6]; rfl
  · have w := is3_i q
    have y3 : on30z k o s = false := on30z_f (by omega)
    have y4 : is3 27 0 4 k o s = false := is3_f (by omega)
    have y5 : onW k o s = false := onW_f2 (by omega)
    have y6 : onV8 k o s = false := V8_f (by omega)
    show (((((YC k o s && !on30z k o s) && !is3 27 0 4 k o s) && !onW k o s) && !onV8 k o s) && !is3 27 0 4 k o s) = true
    rw [q, y3, y4, y5, y6]; rfl
  · rw [gi_s (by decide), fz_gi f6 (V8_f (by omega))]; exact g5
  · rw [gi_s (by decide), fz_gi f6 (V8_f (by omega))]; exact g6
/-- where the law's loop begins -/
theorem s_start (L : Nat) (xs : Nat → Int32) : ∃ W, m_L_law 0 (xM0 L xs) = b_L_law_17 0 0 0 0 0 (zi ((0 : Nat) : Int)) W ∧ LX L W ∧ gn W 100 0 0 ≤ 400 ∧ gn W 100 0 1 ≤ 20000 := by
  have K0 := KC_0 L xs
  have lt : ∀ k, k < 41 → xc0 k = 0 := by decide
  have gz : ∀ k o s, ZC k o s = true → gi (xM0 L xs) k o s = 0 := fun k o s h => by
    have := ZC_i h
    have : k = 17 ∨ k = 19 ∨ k = 21 ∨ k = 26 ∨ k = 27 ∨ k = 28 ∨ k = 29 ∨ k = 30 ∨ k = 31 ∨ k = 32 ∨ k = 33 ∨ k = 34 ∨ k = 35 ∨ k = 36 ∨ k = 37 ∨ k = 38 ∨ k = 39 ∨ k = 40 := by omega
    rcases this with rfl | rfl | rfl | rfl | rfl | rfl | rfl | rfl | rfl | rfl | rfl | rfl | rfl | rfl | rfl | rfl | rfl | rfl <;> rfl
  have a0 : AZ (xM0 L xs) (xM0 L xs) (fun _ => 0) (fun _ _ _ => false) ZC (fun _ _ _ => false) 0 0 := ⟨fz_refl _, fun k hk => lt k hk, fun k o f h => absurd (show false = true from h) (by decide), gz, fun k o s h => absurd (show false = true from h) (by decide), Nat.le_refl _, Nat.le_refl _⟩
  obtain ⟨B, e1, b1, h8⟩ := s_C1 a0
  obtain ⟨A, e2, b2, h82⟩ := s_C41 b1
  obtain ⟨X, e3, b3, h83, hN⟩ := s_C2 K0 b2 (h82.trans h8)
  obtain ⟨R, e4, b4, m4⟩ := s_M1 b3
  obtain ⟨W, e5, b5, m5, ⟨b, w1, w2, w3⟩, w5, w6, w4⟩ := s_M2 K0 b4 m4 hN
  have b6 := AZ_new b5 39 1 (by decide)
  have b7 := AZ_new b6 40 1 (by decide)
  have c1 : gn (xM0 L xs) 101 1 0 = 0 := rfl
  have c27 : gn X 101 27 0 = 0 := (AZ_c b3 (k := 27) (by decide)).trans (by decide +kernel)
  have c39 : gn W 101 39 0 = 0 := (AZ_c b5 (k := 39) (by decide)).trans (by decide +kernel)
  have c40 : gn (xnew W 39 1) 101 40 0 = 0 := (AZ_c b6 (k := 40) (by decide)).trans (by decide +kernel)
  have v : ∀ k o s, k < 39 → (xnew (xnew W 39 1) 40 1) k o s = W k o s := fun k o s hk => (xnew_v (by omega) (by omega) (by omega)).trans (xnew_v (by omega) (by omega) (by omega))
  have vi : ∀ k o s, k < 39 → gi (xnew (xnew W 39 1) 40 1) k o s = gi W k o s := fun k o s hk => by unfold gi; rw [v k o s hk]
  have vn : ∀ k o s, k < 39 → gn (xnew (xnew W 39 1) 40 1) k o s = gn W k o s := fun k o s hk => by unfold gn; rw [v k o s hk]
  have fK : fz (fun k o s => Nat.ble 39 k) W (xnew (xnew W 39 1) 40 1) := fun k o s h => v k o s (by
    have h : Nat.ble 39 k = false := h
    cases e : Nat.ble 39 k with
    | true => rw [e] at h; exact nomatch h
    | false =>
      have : ¬ 39 ≤ k := fun q => by rw [Nat.ble_eq_true_of_le q] at e; exact nomatch e
      omega)
  have KE := KC_Cs K0 b7.1
  have z : ∀ k o s, ZW k o s = true → gi (xnew (xnew W 39 1) 40 1) k o s = 0 := b7.2.2.2.1
  have e8 : gn (xnew (xnew W 39 1) 40 1) 1 0 8 = 12 := by
    rw [vn 1 0 8 (by decide), fz_gn m5 (onMs_f (by decide))]; exact h83
  have hw8 := w1
  have ag : AG b (bk (xnew (xnew W 39 1) 40 1) 0) := AG_bk (i := 0) (fun k hk => by
    rw [vi 28 0 _ (by decide), Nat.mul_zero, Nat.zero_add]
    exact w3 k hk) w1
  have cp : CP (xnew (xnew W 39 1) 40 1) 9 b := CP_fz w2 fK (fun k s h1 h2 => by
    cases e : Nat.ble 39 k with
    | false => rfl
    | true => have := Nat.le_of_ble_eq_true e; omega)
  have kc := KE.1 12 (by decide)
  refine ⟨xnew (xnew W 39 1) 40 1, ?_, ⟨⟨xgood_AZ b7 (by decide) (by decide +kernel), fz_gn b7.1 (onCs_f (by decide)), ?_⟩, ?_⟩, ?_, ?_⟩
  · rw [e_m_L_law, c1, e1, e2, e3, xret_v, xbV_r, c27, e4, e5, xret_v, xbV_r, if_pos (by decide), if_pos (by decide), c39, c40]
    rfl
  · refine ⟨⟨wF_AG w1 ag, CP_AG cp ag⟩, ⟨0, 0, by decide, by decide, z 27 0 2 rfl, z 17 0 2 rfl, z 17 0 1 rfl, fun j hj => absurd hj (Nat.not_lt_zero j)⟩, fun s hs => ⟨false, z 26 0 s rfl, z 29 0 s rfl, fun q => nomatch q⟩, INP_0 (z 19 0 1 rfl) ((vi 27 0 4 (by decide)).trans w4), ⟨?_, ?_⟩, ⟨0, fun i => gi (xnew (xnew W 39 1) 40 1) 47 12 i, ⟨by decide, fun i hi => absurd hi (Nat.not_lt_zero i)⟩, ?_, z 27 0 8 rfl, fun i hi => absurd hi (Nat.not_lt_zero i)⟩, KE, fun i hi => ⟨⟨0, 0, z 38 0 _ rfl, z 38 0 _ rfl, by decide⟩, 0, 0, z 38 0 _ rfl, z 38 0 _ rfl, by decide⟩⟩
    · rw [z 21 0 8 rfl, vi 27 0 5 (by decide), w5]; rfl
    · rw [(b7.2.2.2.2.1 21 0 9 rfl).1, vi 27 0 6 (by decide), w6]
    · rw [e8]
      exact ⟨kc.1, kc.2.1, kc.2.2.1, fun i => rfl⟩
  · have n46 : gn (xnew (xnew W 39 1) 40 1) 101 46 0 = 18 := fz_gn b7.1 (onCs_f (by decide))
    have n47 : gn (xnew (xnew W 39 1) 40 1) 101 47 0 = 18 := fz_gn b7.1 (onCs_f (by decide))
    unfold CNs
    rw [n46, n47]
    exact ⟨rfl, Nat.le_refl _⟩
  · have := b7.2.2.2.2.2.1
    have z0 : gn (xM0 L xs) 100 0 0 = 0 := rfl
    omega
  · have := b7.2.2.2.2.2.2
    have z0 : gn (xM0 L xs) 100 0 1 = 0 := rfl
    omega
