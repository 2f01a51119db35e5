/-! the reference's schedule is the same -/
theorem sm_upd {f g : Nat → Int} {n t : Nat} (ht : t < n) (h : ∀ i, i < n → i ≠ t → g i = f i) : sm g n = sm f n - f t + g t := by
  induction n with
  | zero => omega
  | succ n ih =>
    show sm g n + g n = sm f n + f n - f t + g t
    by_cases e : t = n
    · subst e
      have : sm g t = sm f t := sm_congr (fun i hi => h i (by omega) (by omega))
      omega
    · have := ih (by omega) (fun i hi q => h i (by omega) q)
      have := h n (by omega) (fun q => e q.symm)
      omega
theorem ldS_add {b : Nat → Int} {P : Nat → Bool} {s : Nat → Int} {t : Nat} (ht : t < nT b) (hp : P t = false) (x : Int) (r : Nat) (d : Int) : ldS b (addP P t) (upI s t x) r d = ldS b P s r d + if x ≤ d ∧ d < x + bD b t then bU b t r else 0 := by
  have := sm_upd (f := ldU b P s r d) (g := ldU b (addP P t) (upI s t x) r d) ht (fun i hi q => by
    unfold ldU addP upI
    have : (i == t) = false := by simp [q]
    rw [this, Bool.or_false, if_neg q])
  have e1 : ldU b P s r d t = 0 := by unfold ldU; rw [hp]; rfl
  have e2 : ldU b (addP P t) (upI s t x) r d t = if x ≤ d ∧ d < x + bD b t then bU b t r else 0 := by
    unfold ldU addP upI
    rw [if_pos rfl, beq_self_eq_true, Bool.or_true, Bool.true_and]
    by_cases c : x ≤ d ∧ d < x + bD b t
    · rw [if_pos c, if_pos]
      rw [decide_eq_true c.1, decide_eq_true c.2]; rfl
    · rw [if_neg c, if_neg]
      intro q
      rw [Bool.and_eq_true, decide_eq_true_iff, decide_eq_true_iff] at q
      exact c q
  show sm _ _ = sm _ _ + _
  rw [this, e1, e2, Int.sub_zero]
theorem ldS_but {b : Nat → Int} {P : Nat → Bool} {s : Nat → Int} {t : Nat} (ht : t < nT b) (hp : P t = true) (r : Nat) (d : Int) : ldS b (but P t) s r d = ldS b P s r d - if s t ≤ d ∧ d < s t + bD b t then bU b t r else 0 := by
  have := sm_upd (f := ldU b P s r d) (g := ldU b (but P t) s r d) ht (fun i hi q => by
    unfold ldU but
    have : (i == t) = false := by simp [q]
    rw [this, Bool.not_false, Bool.and_true])
  have e1 : ldU b (but P t) s r d t = 0 := by
    unfold ldU but
    rw [beq_self_eq_true, Bool.not_true, Bool.and_false]; rfl
  have e2 : ldU b P s r d t = if s t ≤ d ∧ d < s t + bD b t then bU b t r else 0 := by
    unfold ldU
    rw [hp, Bool.true_and]
    by_cases c : s t ≤ d ∧ d < s t + bD b t
    · rw [if_pos c, if_pos]
      rw [decide_eq_true c.1, decide_eq_true c.2]; rfl
    · rw [if_neg c, if_neg]
      intro q
      rw [Bool.and_eq_true, decide_eq_true_iff, decide_eq_true_iff] at q
      exact c q
  show sm _ _ = sm _ _ - _
  rw [this, e1, e2, Int.add_zero]
theorem ldS_but0 {b : Nat → Int} {P : Nat → Bool} {s : Nat → Int} {t : Nat} (hp : P t = false) (r : Nat) (d : Int) : ldS b (but P t) s r d = ldS b P s r d := by
  refine sm_congr (fun i hi => ?_)
  unfold ldU but
  by_cases e : i = t
  · subst e; rw [hp]; rfl
  · have : (i == t) = false := by simp [e]
    rw [this, Bool.not_false, Bool.and_true]
theorem ldS_rg {b : Nat → Int} (hw : wS b) {r : Nat} (hr : r < nR b) (Q : Nat → Bool) (s : Nat → Int) (x : Int) : 0 ≤ ldS b Q s r x ∧ ldS b Q s r x ≤ 200 := by
  have hn := (wS_n hw).2.1
  obtain ⟨_, _, _, h4, _, h6, h7, _⟩ := hw
  have hc := h7 r hr
  constructor
  · refine sm_nn (fun i hi => ?_)
    unfold ldU
    have := h6 i r hi hr
    split <;> omega
  · have : ldS b Q s r x ≤ nT b * 10 := sm_le (fun i hi => by
      unfold ldU
      have := h6 i r hi hr
      split <;> omega)
    omega
/-- the reference's schedule is there -/
def RS (M : xM) (b : Nat → Int) : Prop := RD M b ∧ SP M b (allT b) (stB b) ∧ US M b (fun r d => ldS b (allT b) (stB b) r d)
theorem stB_480 {b : Nat → Int} (hw : wS b) {t : Nat} (ht : t < nT b) : stB b t + bD b t ≤ 459 := by
  have := (stB_ok hw ht).2
  have := mkB_ok hw
  omega
theorem r_build {M : xM} {b : Nat → Int} (h : RB M b) (hw : wS b) (hl : wL b) : ∃ M', m_M_build 0 M = rI (zi (mkB b)) M' ∧ fz onB M M' ∧ RS M' b := by
  have hn := wS_n hw
  have hr := wS_r hw
  obtain ⟨M1, e1, f1, d1⟩ := r_dates h hw hl
  have h1 := RB_E h f1
  rw [e_m_M_build, e1, xbV_r]
  refine lpM (B := fun i M' => b_M_build_5 0 (zi (i : Nat)) M') (n := 1440) (fun i M' => fz onZ M1 M' ∧ ∀ k, k < i → gi M' 36 0 k = zi 0) (fun r => ∃ M', r = rI (zi (mkB b)) M' ∧ fz onB M M' ∧ RS M' b) ?_ ?_ 0 M1 (Nat.zero_le _) ⟨fz_refl M1, fun k hk => absurd hk (Nat.not_lt_zero k)⟩
  · intro i M2 hi ⟨f2, g2⟩
    refine ⟨xst M2 36 0 i (.int (zi 0)), ⟨fz_step f2 rfl, fun k hk => ?_⟩, ?_⟩
    · by_cases e : k = i
      · subst e; rw [gi_h]
      · rw [gi_s e]; exact g2 k (by omega)
    · show b_M_build_5 0 (zi (i : Nat)) M2 = _
      rw [e_b_M_build_5, zi_1440, zif (by omega) (by omega) (by decide) (by decide), if_pos (by omega), xck_n hi (by decide), zix (by omega), zi_suc, zi_00]
  · intro M2 ⟨f2, g2⟩
    show ∃ M', b_M_build_5 0 (zi ((1440 : Nat) : Int)) M2 = _ ∧ _
    rw [e_b_M_build_5, zi_1440, zif (by decide) (by decide) (by decide) (by decide), if_neg (by decide)]
    have u2 : US M2 b (fun _ _ => 0) := fun r d hr2 hd => g2 _ (by omega)
    refine lpM (B := fun i M' => b_M_build_18 0 (zi (i : Nat)) M') (n := nT b) (fun i M' => fz onZ M1 M' ∧ US M' b (fun _ _ => 0) ∧ (∀ k, k < i → gi M' 35 0 k = zi (-1)) ∧ (∀ k, k < i → gi M' 37 0 k = zi (cnt (fun x => aft (nT b) (bL b) k x) (nT b) : Nat))) (fun r => ∃ M', r = rI (zi (mkB b)) M' ∧ fz onB M M' ∧ RS M' b) ?_ ?_ 0 M2 (Nat.zero_le _) ⟨f2, u2, fun k hk => absurd hk (Nat.not_lt_zero k), fun k hk => absurd hk (Nat.not_lt_zero k)⟩
    · intro i M3 hi ⟨f3, u3, s3, a3⟩
      have h3 := RB_Z h1 f3
      have f3a : fz onZ M1 (xst M3 35 0 i (.int (zi (-1)))) := fz_step f3 rfl
      obtain ⟨M4, e4, f4⟩ := r_followers (RB_Z h1 f3a) hw hl hi
      have f4a := fz_trans f3a (on32_Z f4)
      refine ⟨xst M4 37 0 i (.int (zi (cnt (fun x => aft (nT b) (bL b) i x) (nT b) : Nat))), ⟨fz_step f4a rfl, fun r d hr2 hd => ?_, fun k hk => ?_, fun k hk => ?_⟩, ?_⟩
      · rw [gi_k (by decide), fz_gi f4 rfl, gi_k (by decide)]; exact u3 r d hr2 hd
      · rw [gi_k (by decide), fz_gi f4 rfl]
        by_cases e : k = i
        · subst e; rw [gi_h]
        · rw [gi_s e]; exact s3 k (by omega)
      · by_cases e : k = i
        · subst e; rw [gi_h]
        · rw [gi_s e, fz_gi f4 rfl, gi_k (by decide)]; exact a3 k (by omega)
      · show b_M_build_18 0 (zi (i : Nat)) M3 = _
        rw [e_b_M_build_18, xck_2, RB_T h3 hw, if_pos (zi_ltn hi (by omega)), xck_n (by omega) (by decide), zix (by omega), zi_m1, e4, xbI_r, xck_n (by omega) (by decide), zi_suc]
    · intro M3 ⟨f3, u3, s3, a3⟩
      have h3 := RB_Z h1 f3
      show ∃ M', b_M_build_18 0 (zi (nT b : Nat)) M3 = _ ∧ _
      rw [e_b_M_build_18, xck_2, RB_T h3 hw, if_neg (zi_irr _)]
      refine lpM (B := fun i M' => b_M_build_43 0 (zi (spS b i)) (zi (i : Nat)) M') (n := nT b) (fun i M' => fz onZ M1 M' ∧ US M' b (fun r d => ldS b (scS b i).1 (scS b i).2 r d) ∧ SP M' b (scS b i).1 (scS b i).2 ∧ AH M' b) (fun r => ∃ M', r = rI (zi (mkB b)) M' ∧ fz onB M M' ∧ RS M' b) ?_ ?_ 0 M3 (Nat.zero_le _) ⟨f3, fun r d hr2 hd => ?_, fun t ht => ⟨s3 t ht, fun q => (nomatch q), fun _ => rfl⟩, a3⟩
      · intro i M4 hi ⟨f4, u4, p4, a4⟩
        have h4 := RB_Z h1 f4
        have d4 := RD_Z d1 f4
        have hin := scS_in hw i (by omega)
        obtain ⟨t, n1, n2, n3, n4, n5⟩ := scS_next hw hi
        have hin2 := scS_in hw (i + 1) (by omega)
        have n6 : (scS b (i + 1)).1 t = true := by rw [n5]; show (_ || (t == t)) = true; simp
        have n7 := hin2.2.1 t n2 n6
        have n8 := hw.2.2.2.1 t n2
        have n9 := spS_ok hw i (by omega)
        have new := elS_new n3
        have rdb := rdS_bd hw hin n2
        have re := (hw.2.2.2.2.1 t n2).1
        have nx := n4.1
        have hz : ∀ r, r < nR b → ∀ x : Int, (480 ≤ x → ldS b (but (scS b i).1 t) (scS b i).2 r x = 0) ∧ 0 ≤ ldS b (but (scS b i).1 t) (scS b i).2 r x ∧ ldS b (but (scS b i).1 t) (scS b i).2 r x ≤ 200 := fun r hr2 x => ⟨fun hx => by
            rw [ldS_but0 new]
            exact ldS_0 (fun y hy hp => by have := (hin.2.1 y hy hp).2.2; omega), ldS_rg hw hr2 _ _ _⟩
        have u4' : US M4 b (fun r d => ldS b (but (scS b i).1 t) (scS b i).2 r d) := fun r d hr2 hd => by
          rw [u4 r d hr2 hd]
          dsimp only
          rw [ldS_but0 new]
        have lk : ∀ f, f < nT b → bL b f t = true → (scS b i).1 f = true := fun f hf q => elS_pre n3 hf q
        generalize hx : (scS b (i + 1)).2 t = x at n4 n5 n7 nx
        -- the tasks as they are placed
        have p5 : SP (xst M4 35 0 t (.int (zi x))) b (scS b (i + 1)).1 (scS b (i + 1)).2 := fun y hy => by
          rw [n5]
          refine ⟨?_, fun q => ?_, fun q => ?_⟩
          · show _ = zi (upI _ _ _ y)
            unfold upI
            by_cases e : y = t
            · rw [if_pos e, e, gi_h]
            · rw [if_neg e, gi_s e]; exact (p4 y hy).1
          · show 0 ≤ upI _ _ _ y ∧ upI _ _ _ y ≤ 1000
            have q : ((scS b i).1 y || (y == t)) = true := q
            unfold upI
            by_cases e : y = t
            · rw [if_pos e]; omega
            · rw [if_neg e]
              have : (y == t) = false := by simp [e]
              rw [this, Bool.or_false] at q
              exact (p4 y hy).2.1 q
          · show upI _ _ _ y = -1
            have q : ((scS b i).1 y || (y == t)) = false := q
            rw [Bool.or_eq_false_iff] at q
            have e : ¬ y = t := by simpa using q.2
            unfold upI
            rw [if_neg e]
            exact (p4 y hy).2.2 q.1
        have h5 : RB (xst M4 35 0 t (.int (zi x))) b := fun k hk => (gi_k (by decide)).trans (h4 k hk)
        have u5 : US (xst M4 35 0 t (.int (zi x))) b (fun r d => ldS b (scS b i).1 (scS b i).2 r d) := fun r d hr2 hd => (gi_k (by decide)).trans (u4 r d hr2 hd)
        obtain ⟨M6, e6, f6, u6⟩ := r_occ h5 hw p5 n2 1 u5 (by rw [hx]; omega) (by rw [hx]; omega)
        have h6 := RB_36 h5 f6
        have p6 : SP M6 b (scS b (i + 1)).1 (scS b (i + 1)).2 := fun y hy => ⟨(fz_gi f6 rfl).trans (p5 y hy).1, (p5 y hy).2⟩
        have fn := r_fin h6 hw p6 n2
        rw [hx] at fn u6
        refine ⟨M6, ⟨fz_trans (fz_step f4 rfl) (on36_Z f6), fun r d hr2 hd => ?_, p6, fun y hy => ?_⟩, ?_⟩
        · rw [u6 r d hr2 hd, n5]
          show _ = zi (ldS b (addP (scS b i).1 t) (upI (scS b i).2 t x) r d)
          dsimp only
          rw [ldS_add n2 new x r d, Int.one_mul]
        · rw [fz_gi f6 rfl, gi_k (by decide)]; exact a4 y hy
        · show b_M_build_43 0 (zi (spS b i)) (zi (i : Nat)) M4 = _
          rw [e_b_M_build_43, xck_2, RB_T h4 hw, if_pos (zi_ltn hi (by omega)), r_select h4 hw hl d4 a4 p4, xbI_r, n1, r_ready h4 hw hl p4 n2 lk, xbI_r]
          have key := lp (B := fun j : Nat => b_M_build_57 0 (zi (spS b i)) (zi (i : Nat)) (zi (t : Nat)) (zi (rdS b (scS b i).2 t + (j : Nat))) M4) (n := (x - rdS b (scS b i).2 t).toNat) (R := b_M_build_43 0 (zi (spS b (i + 1))) (zi ((i + 1 : Nat) : Int)) M6) (fun j hj => ?_) ?_ 0 (Nat.zero_le _)
          · have key : b_M_build_57 0 (zi (spS b i)) (zi (i : Nat)) (zi (t : Nat)) (zi (rdS b (scS b i).2 t + ((0 : Nat) : Int))) M4 = _ := key
            rw [show rdS b (scS b i).2 t + ((0 : Nat) : Int) = rdS b (scS b i).2 t by omega] at key
            exact key
          · show b_M_build_57 0 (zi (spS b i)) (zi (i : Nat)) (zi (t : Nat)) (zi (rdS b (scS b i).2 t + (j : Nat))) M4 = b_M_build_57 0 (zi (spS b i)) (zi (i : Nat)) (zi (t : Nat)) (zi (rdS b (scS b i).2 t + ((j + 1 : Nat) : Int))) M4
            rw [e_b_M_build_57, r_fits h4 hw n2 u4' hz (by omega) (by omega), xbI_r, ite_b, n4.2.2 _ (by omega) (by omega), if_neg (by decide), zi_01, zi_add]
            rw [show rdS b (scS b i).2 t + (j : Int) + 1 = rdS b (scS b i).2 t + ((j + 1 : Nat) : Int) by omega]
          · show b_M_build_57 0 (zi (spS b i)) (zi (i : Nat)) (zi (t : Nat)) (zi (rdS b (scS b i).2 t + ((x - rdS b (scS b i).2 t).toNat : Nat))) M4 = _
            rw [show rdS b (scS b i).2 t + (((x - rdS b (scS b i).2 t).toNat : Nat) : Int) = x by omega]
            rw [e_b_M_build_57, r_fits h4 hw n2 u4' hz (by omega) (by omega), xbI_r, ite_b, n4.2.1, if_pos rfl, xck_n (by omega) (by decide), zix (by omega), zi_01, e6, xbV_r, fn, xbI_r, zif (by omega) (by omega) (by omega) (by omega), fn, xbI_r, ← zi_01, zi_suc, spS_step n1, hx]
            unfold imx
            by_cases c : spS b i < x + bD b t
            · rw [if_pos c, if_pos c]
            · rw [if_neg c, if_neg c]
      · intro M4 ⟨f4, u4, p4, a4⟩
        have h4 := RB_Z h1 f4
        refine ⟨M4, ?_, fz_trans (onE_B f1) (onZ_B f4), RD_Z d1 f4, fun t ht => ⟨(p4 t ht).1, fun q => (p4 t ht).2.1 (by rw [scS_all hw]; exact q), fun q => (p4 t ht).2.2 (by rw [scS_all hw]; exact q)⟩, fun r d hr2 hd => ?_⟩
        · show b_M_build_43 0 (zi (spS b (nT b))) (zi (nT b : Nat)) M4 = _
          rw [e_b_M_build_43, xck_2, RB_T h4 hw, if_neg (zi_irr _)]
          rfl
        · rw [u4 r d hr2 hd]
          have : (scS b (nT b)).1 = allT b := funext (fun t => scS_all hw)
          rw [this]
          rfl
      · rw [u3 r d hr2 hd]
        congr 1
        symm
        exact ldS_0 (fun t _ q => (nomatch q))
