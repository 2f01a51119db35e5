/-! the order of the tasks; names -/
theorem topT_s {b : Nat → Int} {M : xM} {k : Nat} (h : SP M b (topT b k) (fun t => if topT b k t = true then 0 else -1)) (hk : topO b k < nT b) : SP (xst M 35 0 (topO b k) (.int 0)) b (topT b (k + 1)) (fun t => if topT b (k + 1) t = true then 0 else -1) := fun t ht => by
  have e : topT b (k + 1) t = (topT b k t || (t == topO b k)) := rfl
  refine ⟨?_, fun q => ?_, fun q => ?_⟩
  · by_cases c : t = topO b k
    · subst c
      have : topT b (k + 1) (topO b k) = true := by rw [e, beq_self_eq_true, Bool.or_true]
      dsimp only
      rw [gi_h, this, if_pos rfl]; rfl
    · have : (t == topO b k) = false := by simp [c]
      dsimp only
      rw [gi_s c, (h t ht).1, e, this, Bool.or_false]
  · dsimp only; rw [q, if_pos rfl]; omega
  · dsimp only; rw [q, if_neg (by decide)]
theorem r_topo {M : xM} {b : Nat → Int} (h : RB M b) (hw : wS b) (hl : wL b) {k : Nat} (hk : k < nT b) : ∃ M', b_M_topologicalOrder_17 0 (zi k) 0 M = rI (zi (topO b k : Nat)) M' ∧ fz onB M M' := by
  have hn := wS_n hw
  have f35 : ∀ {A : xM} {s : Nat} {v : Value}, fz onB A (xst A 35 0 s v) := fz_st rfl
  refine lpM (B := fun i M' => b_M_topologicalOrder_17 0 (zi k) (zi (i : Nat)) M') (n := nT b) (fun i M' => fz onB M M' ∧ ∀ t, t < i → gi M' 35 0 t = zi (-1)) (fun r => ∃ M', r = rI (zi (topO b k : Nat)) M' ∧ fz onB M M') (fun i M1 hi ⟨f, g⟩ => ?_) (fun M1 ⟨f, g⟩ => ?_) 0 M (Nat.zero_le _) ⟨fz_refl M, fun t ht => absurd ht (Nat.not_lt_zero t)⟩
  · refine ⟨xst M1 35 0 i (.int (-1)), ⟨fz_trans f f35, fun t ht => ?_⟩, ?_⟩
    · by_cases e : t = i
      · subst e; rw [gi_h]; rfl
      · rw [gi_s e]; exact g t (by omega)
    · show b_M_topologicalOrder_17 0 (zi k) (zi (i : Nat)) M1 = _
      rw [e_b_M_topologicalOrder_17, xck_2, RB_T (RB_B h f) hw, if_pos (zi_ltn hi (by omega)), xck_n (by omega) (by decide), zix (by omega), zi_suc]
  · show ∃ M', b_M_topologicalOrder_17 0 (zi k) (zi (nT b : Nat)) M1 = _ ∧ _
    rw [e_b_M_topologicalOrder_17, xck_2, RB_T (RB_B h f) hw, if_neg (zi_irr _)]
    have s0 : SP M1 b (topT b 0) (fun t => if topT b 0 t = true then 0 else -1) := fun t ht => ⟨by
      show gi M1 35 0 t = zi (-1)
      exact g t ht, fun q => (nomatch q), fun q => rfl⟩
    -- one task after another
    have go : ∀ i, i ≤ k + 1 → ∃ M2, b_M_topologicalOrder_35 0 (zi k) (-1) 0 M1 = b_M_topologicalOrder_35 0 (zi k) (zi (if i = 0 then -1 else ((topO b (i - 1) : Nat) : Int))) (zi (i : Nat)) M2 ∧ fz onB M M2 ∧ SP M2 b (topT b i) (fun t => if topT b i t = true then 0 else -1) := by
      intro i
      induction i with
      | zero => intro _; exact ⟨M1, rfl, f, s0⟩
      | succ i ih =>
        intro hi
        obtain ⟨M2, e2, f2, s2⟩ := ih (by omega)
        have hB := RB_B h f2
        have tk := topO_ok hw (show i < nT b by omega)
        refine ⟨xst M2 35 0 (topO b i) (.int 0), ?_, fz_trans f2 f35, topT_s s2 tk.1⟩
        rw [e2, e_b_M_topologicalOrder_35, if_neg (fun q => by rw [zi_lt (by omega) (by omega) (by omega) (by omega)] at q; omega)]
        refine lp (B := fun j => b_M_topologicalOrder_41 0 (zi k) (zi (j : Nat)) (zi (i : Nat)) M2) (n := topO b i) (fun j hj => ?_) ?_ 0 (Nat.zero_le _)
        · show b_M_topologicalOrder_41 0 (zi k) (zi (j : Nat)) (zi (i : Nat)) M2 = _
          have no : elS b (topT b i) j = false := fstN_no j hj
          rw [e_b_M_topologicalOrder_41, r_elig hB hw hl s2 (by omega), xbI_r, no, ite_bf, zi_suc]
        · show b_M_topologicalOrder_41 0 (zi k) (zi (topO b i : Nat)) (zi (i : Nat)) M2 = _
          rw [e_b_M_topologicalOrder_41, r_elig hB hw hl s2 tk.1, xbI_r, tk.2, ite_bt, xck_n (by omega) (by decide), zix (by omega), zi_suc, if_neg (by omega : ¬ i + 1 = 0), Nat.add_sub_cancel]
    obtain ⟨M2, e2, f2, s2⟩ := go (k + 1) (Nat.le_refl _)
    refine ⟨M2, ?_, f2⟩
    rw [e2, e_b_M_topologicalOrder_35, if_pos (zi_ltn (by omega) (by omega)), if_neg (by omega : ¬ k + 1 = 0), Nat.add_sub_cancel]
theorem q_topologicalOrder {M : xM} (hI : Inv M) (x : Int32) : QR PT M (m_L_topologicalOrder 0 x 0 M) (m_M_topologicalOrder 0 x) := by
  obtain ⟨x, rfl, h1, h2⟩ := zi_ex x
  have hw := hI.1.1
  have hn := CP_n hI.1.2
  have hBb := RB_bmp (RB_bk M)
  by_cases c : 0 ≤ x ∧ x < nT (bk M 0)
  · obtain ⟨t, rfl⟩ : ∃ t : Nat, x = (t : Int) := ⟨x.toNat, by omega⟩
    have ht : t < nT (bk M 0) := by omega
    obtain ⟨M1, e1, f1, d1, c1⟩ := cls_D hI
    have hB := RB_out (v := .long (Int32.toInt64 (zi (topO (bk M 0) t : Nat)))) (RB_bk M) f1
    obtain ⟨M2, e2, f2⟩ := r_topo (RB_9 (v := .int 0) hB) hw.1 hw.2.1 ht
    refine QR_q (y := zi (topO (bk M 0) t : Nat)) (M2 := M2) hI f1 ?_ ?_ f2 trivial
    · rw [e_m_L_topologicalOrder, e_m_C_topologicalOrder, CP_T hI.1.2, zi_00, zif (by omega) (by omega) (by decide) (by decide), if_neg (by omega), zif (by omega) (by omega) (by omega) (by omega), if_pos (by omega), e1, xbR_r, xck_n (by omega) (by decide), zix (by omega), (d1.2 t ht).1, xhI_r, ← zi_00, xck_01]
      rfl
    · rw [e_m_M_topologicalOrder, r_isTask hB hw.1 h1 h2, xbI_r, decide_eq_true c, ite_bt, r_F0, e2]
  · refine QR_f (c := 1) (v := 0) hI (by decide) ?_ ?_ (fz_refl _)
    · rw [e_m_L_topologicalOrder, e_m_C_topologicalOrder, CP_T hI.1.2, zi_00, zif (by omega) (by omega) (by decide) (by decide), zif (by omega) (by omega) (by omega) (by omega)]
      by_cases q : x < 0
      · rw [if_pos q, xhI_e, if_pos rfl]
      · rw [if_neg q, if_neg (by omega), xhI_e, if_pos rfl]
    · rw [e_m_M_topologicalOrder, r_isTask hBb hw.1 h1 h2, xbI_r, decide_eq_false c, ite_bf, r_F1]
/-- a letter out of a packed name -/
theorem pkN_byte {g : Nat → Nat} {n : Nat} (h : ∀ i, i < n → g i < 256) : ∀ i, pkN g n / 256 ^ i % 256 = if i < n then g i else 0 := by
  induction n with
  | zero => intro i; show 0 / 256 ^ i % 256 = _; rw [Nat.zero_div, if_neg (by omega)]
  | succ n ih =>
    intro i
    show (pkN g n + g n * 256 ^ n) / 256 ^ i % 256 = _
    have lt := pkN_lt (fun k hk => h k (by omega) : ∀ k, k < n → g k < 256)
    have gn' := h n (by omega)
    by_cases c : i < n
    · rw [if_pos (by omega), ← (ih (fun k hk => h k (by omega)) i).trans (if_pos c)]
      have e : 256 ^ n = 256 ^ i * (256 * 256 ^ (n - i - 1)) := by
        rw [← Nat.pow_succ', ← Nat.pow_add]; congr 1; omega
      rw [e, ← Nat.mul_assoc (g n), Nat.mul_comm (g n), Nat.mul_assoc, Nat.add_mul_div_left _ _ (Nat.pow_pos (by decide)), ← Nat.mul_assoc, Nat.mul_comm (g n), Nat.mul_assoc, Nat.add_mul_mod_self_left]
    · by_cases c2 : i = n
      · subst c2
        rw [if_pos (by omega), Nat.add_mul_div_right _ _ (Nat.pow_pos (by decide)), Nat.div_eq_of_lt lt, Nat.zero_add]
        omega
      · rw [if_neg (by omega)]
        have : pkN g n + g n * 256 ^ n < 256 ^ i := by
          have l1 : pkN g n + g n * 256 ^ n < 256 ^ (n + 1) := pkN_lt (n := n + 1) (fun k hk => h k (by omega))
          exact Nat.lt_of_lt_of_le l1 (Nat.pow_le_pow_right (by decide) (by omega))
        rw [Nat.div_eq_of_lt this]
theorem shr_tab : (List.range 8).all (fun i => ((Int32.toInt64 ((8 : Int32) * zi ((i : Nat) : Int))) &&& 63 : Int64) == Int64.ofNat (8 * i)) = true := by decide +kernel
theorem smod_tab : (List.range 8).all (fun i => ((Int64.ofNat (8 * i)).toBitVec.smod 64).toNat == 8 * i) = true := by decide +kernel
theorem to32_tab : (List.range 256).all (fun i => Int64.toInt32 (Int64.ofNat i) == zi ((i : Nat) : Int)) = true := by decide +kernel
theorem pk_byte {N i : Nat} (hi : i < 8) (hN : N < 9223372036854775808) : Int64.toInt32 ((Int64.ofNat N >>> ((Int32.toInt64 ((8 : Int32) * zi ((i : Nat) : Int))) &&& 63) : Int64) &&& 255) = zi ((N / 256 ^ i % 256 : Nat) : Int) := by
  have h1 := List.all_eq_true.mp shr_tab i (List.mem_range.mpr hi)
  have h2 := List.all_eq_true.mp smod_tab i (List.mem_range.mpr hi)
  have h3 := List.all_eq_true.mp to32_tab (N / 256 ^ i % 256) (List.mem_range.mpr (Nat.mod_lt _ (by decide)))
  rw [eq_of_beq h1, ← eq_of_beq h3]
  congr 1
  apply Int64.toBitVec_inj.mp
  rw [Int64.toBitVec_and, Int64.toBitVec_shiftRight]
  have ms : (Int64.ofNat N).toBitVec.msb = false := by
    show (BitVec.ofNat 64 N).msb = false
    rw [BitVec.msb_eq_decide, BitVec.toNat_ofNat]
    exact decide_eq_false (by omega)
  rw [BitVec.sshiftRight_eq', eq_of_beq h2, BitVec.sshiftRight_eq_of_msb_false ms]
  apply BitVec.eq_of_toNat_eq
  rw [BitVec.toNat_and, BitVec.toNat_ushiftRight]
  show (BitVec.ofNat 64 N).toNat >>> (8 * i) &&& (BitVec.ofNat 64 255).toNat = (BitVec.ofNat 64 (N / 256 ^ i % 256)).toNat
  rw [BitVec.toNat_ofNat, BitVec.toNat_ofNat, BitVec.toNat_ofNat, Nat.mod_eq_of_lt (show N < 2 ^ 64 by omega), Nat.shiftRight_eq_div_pow, show 2 ^ (8 * i) = 256 ^ i by rw [Nat.pow_mul], show 255 % 2 ^ 64 = 2 ^ 8 - 1 by decide, Nat.and_two_pow_sub_one_eq_mod]
  have := Nat.mod_lt (N / 256 ^ i) (show 0 < 256 by decide)
  omega
theorem q_taskNameByte {M : xM} (hI : Inv M) (x y : Int32) : QR PT M (m_L_taskNameByte 0 x y 0 M) (m_M_taskNameByte 0 x y) := by
  obtain ⟨x, rfl, h1, h2⟩ := zi_ex x
  obtain ⟨y, rfl, h3, h4⟩ := zi_ex y
  have hw := hI.1.1
  have hn := CP_n hI.1.2
  have hBb := RB_bmp (RB_bk M)
  by_cases c : 0 ≤ x ∧ x < nT (bk M 0)
  · obtain ⟨t, rfl⟩ : ∃ t : Nat, x = (t : Int) := ⟨x.toNat, by omega⟩
    have ht : t < nT (bk M 0) := by omega
    obtain ⟨n1, n2⟩ := hw.2.2.1 t ht
    have rof : ∀ {N : xM}, RB N (bk M 0) → m_M_of 0 (zi t) 0 N = rI (zi (bk M 0 (28 + 12 * t))) N := fun hB => by
      have := r_of hB (t := t) (w := 0) (by omega) (by decide)
      exact this
    have rin : ∀ {N : xM}, m_M_in (zi y) 0 (zi (bk M 0 (28 + 12 * t)) - (1 : Int32)) N = rI (bz (decide (0 ≤ y ∧ y ≤ bk M 0 (28 + 12 * t) - 1))) N := fun {N} => by
      rw [zi_01, zi_sub]
      exact r_inr (a := 0) h3 h4 (by decide) (by decide) (by omega) (by omega)
    have lt : m_C_letterOf (pk (bk M 0) (28 + 12 * t)) (zi y) M = rI (zi (if 0 ≤ y ∧ y < bk M 0 (28 + 12 * t) then bk M 0 (28 + 12 * t + 1 + y.toNat) else 0)) M := by
      rw [e_m_C_letterOf, zi_00, zif h3 h4 (by decide) (by decide)]
      by_cases q : y < 0
      · rw [if_pos q, if_neg (by omega)]
      · rw [if_neg q, zi_06, zif h3 h4 (by decide) (by decide)]
        by_cases q2 : y < 6
        · have l8 : pkN (fun k => (bk M 0 (28 + 12 * t + 1 + k)).toNat) (bk M 0 (28 + 12 * t)).toNat < 9223372036854775808 := by
            have a1 := pkN_lt (g := fun k => (bk M 0 (28 + 12 * t + 1 + k)).toNat) (n := (bk M 0 (28 + 12 * t)).toNat) (fun k hk => by have := n2 k hk; omega)
            have a2 : 256 ^ (bk M 0 (28 + 12 * t)).toNat ≤ 256 ^ 6 := Nat.pow_le_pow_right (by decide) (by omega)
            have a3 : (256 : Nat) ^ 6 = 281474976710656 := by decide
            omega
          have key := pk_byte (i := y.toNat) (by omega) l8
          rw [pkN_byte (fun k hk => by have := n2 k hk; omega), show ((y.toNat : Nat) : Int) = y by omega] at key
          rw [if_pos q2]
          unfold pk
          rw [key]
          by_cases q3 : y < bk M 0 (28 + 12 * t)
          · have := n2 y.toNat (by omega)
            rw [if_pos (by omega), if_pos ⟨by omega, q3⟩]
            exact congrArg (fun z => rI (zi z) M) (by omega)
          · rw [if_neg (by omega), if_neg (by omega)]
            rfl
        · rw [if_neg q2, if_neg (by omega)]
    by_cases d : 0 ≤ y ∧ y < bk M 0 (28 + 12 * t)
    · have ly := n2 y.toNat (by omega)
      rw [if_pos d] at lt
      have hB := RB_out (v := .long (Int32.toInt64 (zi (bk M 0 (28 + 12 * t + 1 + y.toNat))))) (RB_bk M) (fr_refl M)
      refine QR_q (y := zi (bk M 0 (28 + 12 * t + 1 + y.toNat))) hI (fr_refl M) ?_ ?_ (fz_refl _) trivial
      · rw [e_m_L_taskNameByte, e_m_C_taskNameByte, s_reqT hI.1.2 h1 h2, if_pos c, xbV_r, xck_n (by omega) (by decide), zix (by omega), CP_N hI.1.2 ht, lt, xbI_r, if_neg (fun q => by rw [zi_00, zi_eq (by omega) (by omega) (by decide) (by decide)] at q; omega), xhI_r, xck_01]
        rfl
      · rw [e_m_M_taskNameByte, r_isTask hB hw.1 h1 h2, xbI_r, decide_eq_true c, ite_bt, r_isTask hB hw.1 h1 h2, xbI_r, decide_eq_true c, ite_bt, rof hB, xbI_r, rin, xbI_r, decide_eq_true (show 0 ≤ y ∧ y ≤ bk M 0 (28 + 12 * t) - 1 by omega), ite_bt, r_F0]
        have := r_of (RB_9 (v := .int 0) hB) (t := t) (w := 1 + y.toNat) (by omega) (by omega)
        rw [zi_01, zi_add, show (1 : Int) + y = ((1 + y.toNat : Nat) : Int) by omega, this, xbI_r, show 28 + 12 * t + (1 + y.toNat) = 28 + 12 * t + 1 + y.toNat by omega]
    · rw [if_neg d] at lt
      refine QR_f (c := 1) (v := 0) hI (by decide) ?_ ?_ (fz_refl _)
      · rw [e_m_L_taskNameByte, e_m_C_taskNameByte, s_reqT hI.1.2 h1 h2, if_pos c, xbV_r, xck_n (by omega) (by decide), zix (by omega), CP_N hI.1.2 ht, lt, xbI_r, if_pos (show zi 0 = (0 : Int32) from rfl), xhI_e, if_pos rfl]
      · rw [e_m_M_taskNameByte, r_isTask hBb hw.1 h1 h2, xbI_r, decide_eq_true c, ite_bt, r_isTask hBb hw.1 h1 h2, xbI_r, decide_eq_true c, ite_bt, rof hBb, xbI_r, rin, xbI_r, decide_eq_false (show ¬ (0 ≤ y ∧ y ≤ bk M 0 (28 + 12 * t) - 1) by omega), ite_bf, r_F1]
  · refine QR_f (c := 1) (v := 0) hI (by decide) ?_ ?_ (fz_refl _)
    · rw [e_m_L_taskNameByte, e_m_C_taskNameByte, s_reqT hI.1.2 h1 h2, if_neg c, xbV_e, xhI_e, if_pos rfl]
    · rw [e_m_M_taskNameByte, r_isTask hBb hw.1 h1 h2, xbI_r, decide_eq_false c, ite_bf, r_F1]
