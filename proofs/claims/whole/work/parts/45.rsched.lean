/-! the reference's schedule: what is looked up -/
def on36 (k o _ : Nat) : Bool := Nat.beq o 0 && Nat.beq k 36
def onZ (k o _ : Nat) : Bool := Nat.beq o 0 && (Nat.beq k 32 || (Nat.ble 35 k && Nat.ble k 37))
theorem on36_Z {M M' : xM} (f : fz on36 M M') : fz onZ M M' := fz_mono (fun k o s h => by
  obtain ⟨h1, h2⟩ := Bool.and_eq_true_iff.mp h
  obtain rfl := Nat.eq_of_beq_eq_true h1
  obtain rfl := Nat.eq_of_beq_eq_true h2
  rfl) f
theorem on32_Z {M M' : xM} (f : fz on32 M M') : fz onZ M M' := fz_mono (fun k o s h => by
  obtain ⟨h1, h2⟩ := Bool.and_eq_true_iff.mp h
  obtain rfl := Nat.eq_of_beq_eq_true h1
  obtain rfl := Nat.eq_of_beq_eq_true h2
  rfl) f
theorem onZ_B {M M' : xM} (f : fz onZ M M') : fz onB M M' := fz_mono (fun k o s h => by
  obtain ⟨h1, h2⟩ := Bool.and_eq_true_iff.mp h
  obtain rfl := Nat.eq_of_beq_eq_true h1
  rcases Bool.or_eq_true_iff.mp h2 with h2 | h2
  · obtain rfl := Nat.eq_of_beq_eq_true h2; rfl
  · obtain ⟨h3, h4⟩ := Bool.and_eq_true_iff.mp h2
    have h3 := Nat.le_of_ble_eq_true h3
    unfold onB
    rw [h4, Nat.ble_eq_true_of_le (show 32 ≤ k by omega), Bool.and_self, Bool.or_true]; rfl) f
theorem RB_Z {M M' : xM} {b : Nat → Int} (h : RB M b) (f : fz onZ M M') : RB M' b := RB_fz h f (fun _ => rfl)
theorem RB_36 {M M' : xM} {b : Nat → Int} (h : RB M b) (f : fz on36 M M') : RB M' b := RB_fz h f (fun _ => rfl)
theorem RD_Z {M M' : xM} {b : Nat → Int} (h : RD M b) (f : fz onZ M M') : RD M' b := ⟨(fz_gi f rfl).trans h.1, fun t ht => ⟨(fz_gi f rfl).trans (h.2 t ht).1, (fz_gi f rfl).trans (h.2 t ht).2⟩⟩
/-- where the tasks are placed -/
def SP (M : xM) (b : Nat → Int) (P : Nat → Bool) (s : Nat → Int) : Prop := ∀ t, t < nT b → gi M 35 0 t = zi (s t) ∧ (P t = true → 0 ≤ s t ∧ s t ≤ 1000) ∧ (P t = false → s t = -1)
theorem r_elig {M : xM} {b : Nat → Int} (h : RB M b) (hw : wS b) (hl : wL b) {P : Nat → Bool} {s : Nat → Int} (hp : SP M b P s) {t : Nat} (ht : t < nT b) : m_M_isEligible 0 (zi t) M = rI (bz (elS b P t)) M := by
  have hn := wS_n hw
  have key : ∀ f, f < nT b → (s f = -1) = (P f = false) := fun f hf => by
    have := hp f hf
    apply propext
    cases q : P f with
    | true => have := this.2.1 q; simp; omega
    | false => have := this.2.2 q; simp [this]
  have bd : ∀ f, f < nT b → -1 ≤ s f ∧ s f ≤ 1000 := fun f hf => by
    have := hp f hf
    cases q : P f with
    | true => have := this.2.1 q; omega
    | false => have := this.2.2 q; omega
  have bt := bd t ht
  rw [e_m_M_isEligible, xck_n (by omega) (by decide), zix (by omega), (hp t ht).1, zi_m1, zife (by omega) (by omega) (by omega) (by omega), xnar_0]
  unfold elS
  simp only [key t ht]
  cases q : P t with
  | true => rfl
  | false =>
    rw [if_pos rfl, Bool.not_false, Bool.true_and]
    have := lpa (B := fun f => b_M_isEligible_11 0 (zi t) (zi (f : Nat)) M) (n := nT b) (fun f => !bL b f t || P f) (R := rI (bz false) M) (R2 := rI (bz true) M) (fun f hf hok => ?_) (fun f hf hok => ?_) ?_
    · refine Eq.trans this ?_
      cases allN (nT b) (fun f => !bL b f t || P f) <;> rfl
    · show b_M_isEligible_11 0 (zi t) (zi (f : Nat)) M = _
      have bf := bd f hf
      rw [e_b_M_isEligible_11, xck_2, RB_T h hw, if_pos (zi_ltn hf (by omega)), r_link h hl (by omega) (by omega), xbI_r, ite_b, xck_n (by omega) (by decide), zix (by omega), (hp f hf).1, zi_m1, zife (by omega) (by omega) (by omega) (by omega), zi_suc]
      simp only [key f hf]
      cases hb : bL b f t with
      | false => rfl
      | true =>
        rw [hb] at hok
        have : P f = true := by simpa using hok
        rw [this]; rfl
    · show b_M_isEligible_11 0 (zi t) (zi (f : Nat)) M = _
      have bf := bd f hf
      have hok : bL b f t = true ∧ P f = false := by simpa using hok
      rw [e_b_M_isEligible_11, xck_2, RB_T h hw, if_pos (zi_ltn hf (by omega)), r_link h hl (by omega) (by omega), xbI_r, ite_b, xck_n (by omega) (by decide), zix (by omega), (hp f hf).1, zi_m1, zife (by omega) (by omega) (by omega) (by omega), hok.1, if_pos rfl, if_pos ((key f hf).mpr hok.2), xnar_0]
    · show b_M_isEligible_11 0 (zi t) (zi (nT b : Nat)) M = _
      rw [e_b_M_isEligible_11, xck_2, RB_T h hw, if_neg (zi_irr _), xnar_1]
def keyR (b : Nat → Int) (t : Nat) : Int := if b 0 = 0 then (t : Int) else if b 0 = 1 then lsB b t else if b 0 = 2 then - bD b t else - (cnt (fun x => aft (nT b) (bL b) t x) (nT b) : Nat)
theorem bst_R {b : Nat → Int} (hw : wS b) (el : Nat → Bool) (n : Nat) : bst el (keyR b) n = bst el (keyS b) n := by
  have h0 := hw.2.2.1
  by_cases c : b 0 = 0
  · have e1 : keyR b = fun t : Nat => (t : Int) := by
      funext t; unfold keyR; rw [if_pos c]
    have e2 : keyS b = fun _ => 0 := by
      funext t; unfold keyS; rw [if_neg (by omega), if_neg (by omega), if_neg (by omega)]
    rw [e1, e2]
    exact bst_num (fun i j h => by omega) n
  · have e1 : keyR b = keyS b := by
      funext t
      unfold keyR keyS
      rw [if_neg c]
      by_cases c1 : b 0 = 1
      · rw [if_pos c1, if_pos c1]
      · rw [if_neg c1, if_neg c1]
        by_cases c2 : b 0 = 2
        · rw [if_pos c2, if_pos c2]
        · rw [if_neg c2, if_neg c2, if_pos (by omega)]
    rw [e1]
/-- how many are behind a task -/
def AH (M : xM) (b : Nat → Int) : Prop := ∀ t, t < nT b → gi M 37 0 t = zi (cnt (fun x => aft (nT b) (bL b) t x) (nT b) : Nat)
theorem r_bad {M : xM} {b : Nat → Int} (h : RB M b) (hw : wS b) (hd : RD M b) (ha : AH M b) {t : Nat} (ht : t < nT b) : m_M_badness 0 (zi t) M = rI (zi (keyR b t)) M := by
  have hn := wS_n hw
  have h0 := hw.2.2.1
  rw [e_m_M_badness, xck_0, RB_0 h, zi_n 0, zi_n 1, zi_n 2, zife (by omega) (by omega) (by decide) (by decide), zife (by omega) (by omega) (by decide) (by decide), zife (by omega) (by omega) (by decide) (by decide), xck_n (by omega) (by decide), xck_n (by omega) (by decide), zix (by omega), (hd.2 t ht).2, ha t ht, r_D h (by omega), xbI_r, zi_neg, zi_neg]
  unfold keyR
  by_cases c0 : b 0 = 0
  · rw [if_pos (show b 0 = ((0 : Nat) : Int) from c0), if_pos c0]
  · rw [if_neg (show ¬ b 0 = ((0 : Nat) : Int) from c0), if_neg c0]
    by_cases c1 : b 0 = 1
    · rw [if_pos (show b 0 = ((1 : Nat) : Int) from c1), if_pos c1]
    · rw [if_neg (show ¬ b 0 = ((1 : Nat) : Int) from c1), if_neg c1]
      by_cases c2 : b 0 = 2
      · rw [if_pos (show b 0 = ((2 : Nat) : Int) from c2), if_pos c2]
      · rw [if_neg (show ¬ b 0 = ((2 : Nat) : Int) from c2), if_neg c2]
theorem keyR_bd {b : Nat → Int} (hw : wS b) {t : Nat} (ht : t < nT b) : -1000 ≤ keyR b t ∧ keyR b t ≤ 1000 := by
  have hn := wS_n hw
  have a1 := hw.2.2.2.1 t ht
  have a2 := lsB_lo hw ht
  have a3 := lsB_hi hw ht
  have a4 := esB_lo hw ht
  have a5 := etB_hi hw
  have a6 := cnt_le (fun x => aft (nT b) (bL b) t x) (nT b)
  unfold keyR
  split
  · omega
  · split
    · omega
    · split <;> omega
theorem r_select {M : xM} {b : Nat → Int} (h : RB M b) (hw : wS b) (hl : wL b) (hd : RD M b) (ha : AH M b) {P : Nat → Bool} {s : Nat → Int} (hp : SP M b P s) : m_M_selectNext 0 M = rI (zi (bst (elS b P) (keyS b) (nT b))) M := by
  have hn := wS_n hw
  rw [← bst_R hw, e_m_M_selectNext]
  refine lp (B := fun i => b_M_selectNext_5 0 (zi (bst (elS b P) (keyR b) i)) (zi (i : Nat)) M) (n := nT b) (fun i hi => ?_) ?_ 0 (Nat.zero_le _)
  · show b_M_selectNext_5 0 (zi (bst _ _ i)) (zi (i : Nat)) M = b_M_selectNext_5 0 (zi (if elS b P i && (decide (bst (elS b P) (keyR b) i = -1) || decide (keyR b i < keyR b (bst (elS b P) (keyR b) i).toNat)) then (i : Int) else bst (elS b P) (keyR b) i)) (zi ((i + 1 : Nat) : Int)) M
    rw [e_b_M_selectNext_5, xck_2, RB_T h hw, if_pos (zi_ltn hi (by omega)), r_elig h hw hl hp hi, xbI_r, ite_b, zi_suc]
    cases he : elS b P i with
    | false => simp only [Bool.false_and, Bool.false_eq_true, if_false]
    | true =>
      rw [if_pos rfl, Bool.true_and]
      rcases bst_ok (el := elS b P) (key := keyR b) (n := i) with ⟨h1, _⟩ | ⟨h1, h2, _⟩
      · rw [h1, if_pos zi_m1.symm]
        have e1 : (decide ((-1 : Int) = -1) || decide (keyR b i < keyR b (-1 : Int).toNat)) = true := rfl
        rw [e1, if_pos rfl]
      · have hj : (bst (elS b P) (keyR b) i).toNat < nT b := by omega
        have k1 := keyR_bd hw hi
        have k2 := keyR_bd hw hj
        have e2 : m_M_badness 0 (zi (bst (elS b P) (keyR b) i)) M = rI (zi (keyR b (bst (elS b P) (keyR b) i).toNat)) M := by
          have := r_bad h hw hd ha hj
          rw [show (((bst (elS b P) (keyR b) i).toNat : Nat) : Int) = bst (elS b P) (keyR b) i by omega] at this
          exact this
        rw [zi_m1, zife (by omega) (by omega) (by decide) (by decide), if_neg (by omega), r_bad h hw hd ha hi, xbI_r, e2, xbI_r, zif (by omega) (by omega) (by omega) (by omega), decide_eq_false (by omega : ¬ bst (elS b P) (keyR b) i = -1), Bool.false_or]
        by_cases c : keyR b i < keyR b (bst (elS b P) (keyR b) i).toNat
        · rw [if_pos c, decide_eq_true c, if_pos rfl]
        · rw [if_neg c, decide_eq_false c, if_neg (by decide)]
  · show b_M_selectNext_5 0 (zi (bst _ _ _)) (zi (nT b : Nat)) M = _
    rw [e_b_M_selectNext_5, xck_2, RB_T h hw, if_neg (zi_irr _)]
theorem r_fin {M : xM} {b : Nat → Int} (h : RB M b) (hw : wS b) {P : Nat → Bool} {s : Nat → Int} (hp : SP M b P s) {t : Nat} (ht : t < nT b) : m_M_finishOf 0 (zi t) M = rI (zi (s t + bD b t)) M := by
  have hn := wS_n hw
  rw [e_m_M_finishOf, xck_n (by omega) (by decide), r_D h (by omega), xbI_r, zix (by omega), (hp t ht).1, zi_add]
theorem r_ready {M : xM} {b : Nat → Int} (h : RB M b) (hw : wS b) (hl : wL b) {P : Nat → Bool} {s : Nat → Int} (hp : SP M b P s) {t : Nat} (ht : t < nT b) (hq : ∀ f, f < nT b → bL b f t = true → P f = true) : m_M_readyDay 0 (zi t) M = rI (zi (rdS b s t)) M := by
  have hn := wS_n hw
  have hd := hw.2.2.2.1
  have he := hw.2.2.2.2.1 t ht
  rw [e_m_M_readyDay, r_E h (by omega), xbI_r]
  refine lp (B := fun i => b_M_readyDay_8 0 (zi t) (zi (mxF (fun f => bL b f t) (fun f => s f + bD b f) (bE b t) i)) (zi (i : Nat)) M) (n := nT b) (fun i hi => ?_) ?_ 0 (Nat.zero_le _)
  · show b_M_readyDay_8 0 (zi t) (zi (mxF _ _ (bE b t) i)) (zi (i : Nat)) M = b_M_readyDay_8 0 (zi t) (zi (if bL b i t = true then imx (mxF (fun f => bL b f t) (fun f => s f + bD b f) (bE b t) i) (s i + bD b i) else mxF (fun f => bL b f t) (fun f => s f + bD b f) (bE b t) i)) (zi ((i + 1 : Nat) : Int)) M
    rw [e_b_M_readyDay_8, xck_2, RB_T h hw, if_pos (zi_ltn hi (by omega)), r_link h hl (by omega) (by omega), xbI_r, ite_b, zi_suc]
    cases hb : bL b i t with
    | false => simp only [Bool.false_eq_true, if_false]
    | true =>
      have g := (hp i hi).2.1 (hq i hi hb)
      have di := hd i hi
      have b1 : mxF (fun f => bL b f t) (fun f => s f + bD b f) (bE b t) i ≤ 2000 := mxF_le (by omega) (fun j hj q => by
        have := (hp j (by omega)).2.1 (hq j (by omega) q)
        have := hd j (by omega)
        omega)
      have b2 := mxF_a (fun f => bL b f t) (fun f => s f + bD b f) (bE b t) i
      rw [if_pos rfl, r_fin h hw hp hi, xbI_r, zif (by omega) (by omega) (by omega) (by omega), if_pos rfl]
      unfold imx
      by_cases c : mxF (fun f => bL b f t) (fun f => s f + bD b f) (bE b t) i < s i + bD b i
      · rw [if_pos c, if_pos c, r_fin h hw hp hi, xbI_r]
      · rw [if_neg c, if_neg c]
  · show b_M_readyDay_8 0 (zi t) (zi (mxF _ _ (bE b t) _)) (zi (nT b : Nat)) M = _
    rw [e_b_M_readyDay_8, xck_2, RB_T h hw, if_neg (zi_irr _)]
    rfl
/-- what is used -/
def US (M : xM) (b : Nat → Int) (F : Nat → Nat → Int) : Prop := ∀ r d, r < nR b → d < 480 → gi M 36 0 (480 * r + d) = zi (F r d)
theorem allN_comm {n m : Nat} {P : Nat → Nat → Bool} : allN n (fun i => allN m (fun j => P i j)) = allN m (fun j => allN n (fun i => P i j)) := by
  rw [Bool.eq_iff_iff, allN_iff, allN_iff]
  constructor
  · intro h j hj
    exact allN_iff.mpr (fun i hi => allN_iff.mp (h i hi) j hj)
  · intro h i hi
    exact allN_iff.mpr (fun j hj => allN_iff.mp (h j hj) i hi)
theorem r_fits {M : xM} {b : Nat → Int} (h : RB M b) (hw : wS b) {P : Nat → Bool} {s : Nat → Int} {t : Nat} (ht : t < nT b) (hu : US M b (fun r d => ldS b (but P t) s r d)) (hz : ∀ r, r < nR b → ∀ x : Int, (480 ≤ x → ldS b (but P t) s r x = 0) ∧ 0 ≤ ldS b (but P t) s r x ∧ ldS b (but P t) s r x ≤ 200) {x : Int} (h1 : 0 ≤ x) (h2 : x < 1000000) : m_M_fits 0 (zi t) (zi x) M = rI (bz (fitS b P s t x)) M := by
  have hn := wS_n hw
  have hr := wS_r hw
  have hd := hw.2.2.2.1 t ht
  rw [e_m_M_fits]
  have inn : ∀ r, r < nR b → b_M_fits_12 0 (zi t) (zi x) (zi (r : Nat)) (zi x) M = if allN (bD b t).toNat (fun j => decide (ldS b (but P t) s r (x + j) + bU b t r ≤ bC b r)) = true then b_M_fits_3 0 (zi t) (zi x) (zi ((r + 1 : Nat) : Int)) M else rI (bz false) M := fun r hr2 => by
    have u := hw.2.2.2.2.2.1 t r ht hr2
    have c := hw.2.2.2.2.2.2.1 r hr2
    have st : ∀ j : Nat, j < (bD b t).toNat → b_M_fits_12 0 (zi t) (zi x) (zi (r : Nat)) (zi (x + (j : Nat))) M = if bC b r < ldS b (but P t) s r (x + j) + bU b t r then rI (bz false) M else b_M_fits_12 0 (zi t) (zi x) (zi (r : Nat)) (zi (x + ((j + 1 : Nat) : Int))) M := fun j hj => by
      have z := hz r hr2 (x + j)
      have e3 : zi (x + (j : Int)) + (1 : Int32) = zi (x + ((j + 1 : Nat) : Int)) := by
        rw [zi_01, zi_add]; congr 1; omega
      rw [e_b_M_fits_12, xnar_0, r_D h (by omega), xbI_r, zi_add, zif (by omega) (by omega) (by omega) (by omega), if_pos (by omega), zi_480, zif (by omega) (by omega) (by decide) (by decide), e3]
      by_cases q : x + (j : Int) < 480
      · have u0 := hu r (x + (j : Int)).toNat hr2 (by omega)
        dsimp only at u0
        rw [show (((x + (j : Int)).toNat : Nat) : Int) = x + (j : Int) by omega] at u0
        rw [if_pos q, zi_mul, zi_add, xck_z (by omega) (by omega) (by decide), zixz (by omega) (by omega), show ((r : Int) * 480 + (x + (j : Int))).toNat = 480 * r + (x + (j : Int)).toNat by omega, r_U h (by omega) (by omega), xbI_r, r_cap h (by omega), xbI_r, u0, zi_add, zif (by omega) (by omega) (by omega) (by omega)]
      · rw [if_neg q, r_U h (by omega) (by omega), xbI_r, r_cap h (by omega), xbI_r, zi_00, zi_add, zif (by omega) (by omega) (by omega) (by omega), (hz r hr2 (x + j)).1 (by omega)]
    have := lpa (B := fun j => b_M_fits_12 0 (zi t) (zi x) (zi (r : Nat)) (zi (x + (j : Nat))) M) (n := (bD b t).toNat) (fun j => decide (ldS b (but P t) s r (x + j) + bU b t r ≤ bC b r)) (R := rI (bz false) M) (R2 := b_M_fits_3 0 (zi t) (zi x) (zi ((r + 1 : Nat) : Int)) M) (fun j hj hok => by
      have hok := of_decide_eq_true hok
      show b_M_fits_12 0 (zi t) (zi x) (zi (r : Nat)) (zi (x + (j : Nat))) M = _
      rw [st j hj, if_neg (by omega)]) (fun j hj hok => by
      have hok := of_decide_eq_false hok
      show b_M_fits_12 0 (zi t) (zi x) (zi (r : Nat)) (zi (x + (j : Nat))) M = _
      rw [st j hj, if_pos (by omega)]) (by
      show b_M_fits_12 0 (zi t) (zi x) (zi (r : Nat)) (zi (x + ((bD b t).toNat : Nat))) M = _
      rw [e_b_M_fits_12, r_D h (by omega), xbI_r, zi_add, zif (by omega) (by omega) (by omega) (by omega), if_neg (by omega), zi_suc])
    have this : b_M_fits_12 0 (zi t) (zi x) (zi (r : Nat)) (zi (x + ((0 : Nat) : Int))) M = _ := this
    rw [show x + ((0 : Nat) : Int) = x by omega] at this
    exact this
  have := lpa (B := fun r => b_M_fits_3 0 (zi t) (zi x) (zi (r : Nat)) M) (n := nR b) (fun r => allN (bD b t).toNat (fun j => decide (ldS b (but P t) s r (x + j) + bU b t r ≤ bC b r))) (R := rI (bz false) M) (R2 := rI (bz true) M) (fun r hr2 hok => by
    show b_M_fits_3 0 (zi t) (zi x) (zi (r : Nat)) M = _
    rw [e_b_M_fits_3, xck_1, RB_R h hw, if_pos (zi_ltn hr2 (by omega)), inn r hr2, if_pos hok]) (fun r hr2 hok => by
    show b_M_fits_3 0 (zi t) (zi x) (zi (r : Nat)) M = _
    rw [e_b_M_fits_3, xck_1, RB_R h hw, if_pos (zi_ltn hr2 (by omega)), inn r hr2, hok, if_neg (by decide)]) (by
    show b_M_fits_3 0 (zi t) (zi x) (zi (nR b : Nat)) M = _
    rw [e_b_M_fits_3, xck_1, RB_R h hw, if_neg (zi_irr _), xnar_1])
  refine Eq.trans this ?_
  rw [allN_comm]
  show _ = rI (bz (allN (bD b t).toNat (fun j => allN (nR b) (fun r => decide (ldS b (but P t) s r (x + j) + bU b t r ≤ bC b r))))) M
  cases allN (bD b t).toNat (fun j => allN (nR b) (fun r => decide (ldS b (but P t) s r (x + j) + bU b t r ≤ bC b r))) <;> rfl
theorem r_occ {M : xM} {b : Nat → Int} (h : RB M b) (hw : wS b) {P : Nat → Bool} {s : Nat → Int} (hp : SP M b P s) {t : Nat} (ht : t < nT b) (sg : Int) {F : Nat → Nat → Int} (hu : US M b F) (h1 : 0 ≤ s t) (h2 : s t + bD b t ≤ 480) : ∃ M', m_M_occupy 0 (zi t) (zi sg) M = rV M' ∧ fz on36 M M' ∧ US M' b (fun r d => F r d + if s t ≤ d ∧ d < s t + bD b t then sg * bU b t r else 0) := by
  have hn := wS_n hw
  have hr := wS_r hw
  have hd := hw.2.2.2.1 t ht
  have sp : ∀ {M' : xM}, fz on36 M M' → SP M' b P s := fun f t ht => ⟨(fz_gi f rfl).trans (hp t ht).1, (hp t ht).2⟩
  rw [e_m_M_occupy]
  refine lpM (B := fun r M' => b_M_occupy_3 0 (zi t) (zi sg) (zi (r : Nat)) M') (n := nR b) (fun r M' => fz on36 M M' ∧ US M' b (fun q d => F q d + if q < r ∧ s t ≤ d ∧ d < s t + bD b t then sg * bU b t q else 0)) (fun r => ∃ M', r = rV M' ∧ fz on36 M M' ∧ US M' b (fun r d => F r d + if s t ≤ d ∧ d < s t + bD b t then sg * bU b t r else 0)) ?_ ?_ 0 M (Nat.zero_le _) ⟨fz_refl M, fun q d hq hd2 => ?_⟩
  · intro r M1 hr2 ⟨f1, u1⟩
    have h1' := RB_36 h f1
    show ∃ s', _ ∧ b_M_occupy_3 0 (zi t) (zi sg) (zi (r : Nat)) M1 = b_M_occupy_3 0 (zi t) (zi sg) (zi ((r + 1 : Nat) : Int)) s'
    rw [e_b_M_occupy_3, xck_1, RB_R h1' hw, if_pos (zi_ltn hr2 (by omega)), xck_n (by omega) (by decide), zix (by omega), (sp f1 t ht).1]
    have key := lpM (B := fun j M' => b_M_occupy_15 0 (zi t) (zi sg) (zi (r : Nat)) (zi (s t + (j : Nat))) M') (n := (bD b t).toNat) (fun j M' => fz on36 M M' ∧ US M' b (fun q d => F q d + if (q < r ∨ (q = r ∧ d < s t + j)) ∧ s t ≤ d ∧ d < s t + bD b t then sg * bU b t q else 0)) (fun r0 => ∃ s', (fz on36 M s' ∧ US s' b (fun q d => F q d + if q < r + 1 ∧ s t ≤ d ∧ d < s t + bD b t then sg * bU b t q else 0)) ∧ r0 = b_M_occupy_3 0 (zi t) (zi sg) (zi ((r + 1 : Nat) : Int)) s') (fun j M2 hj ⟨f2, u2⟩ => ?_) (fun M2 ⟨f2, u2⟩ => ?_) 0 M1 (Nat.zero_le _) ⟨f1, fun q d hq hd2 => ?_⟩
    · have key : ∃ s', (fz on36 M s' ∧ US s' b (fun q d => F q d + if q < r + 1 ∧ s t ≤ d ∧ d < s t + bD b t then sg * bU b t q else 0)) ∧ b_M_occupy_15 0 (zi t) (zi sg) (zi (r : Nat)) (zi (s t + ((0 : Nat) : Int))) M1 = b_M_occupy_3 0 (zi t) (zi sg) (zi ((r + 1 : Nat) : Int)) s' := key
      rw [show s t + ((0 : Nat) : Int) = s t by omega] at key
      exact key
    · have h2' := RB_36 h f2
      have e1 : ((r : Int) * 480 + (s t + (j : Int))).toNat = 480 * r + (s t + (j : Int)).toNat := by omega
      have uu := u2 r (s t + (j : Int)).toNat hr2 (by omega)
      dsimp only at uu
      rw [if_neg (by omega), Int.add_zero] at uu
      refine ⟨xst M2 36 0 (480 * r + (s t + (j : Int)).toNat) (.int (zi (F r (s t + (j : Int)).toNat + sg * bU b t r))), ⟨fz_step f2 rfl, fun q d hq hd2 => ?_⟩, ?_⟩
      · by_cases e : 480 * q + d = 480 * r + (s t + (j : Int)).toNat
        · have eq : q = r := by omega
          have ed : d = (s t + (j : Int)).toNat := by omega
          subst eq
          rw [e, gi_h]
          dsimp only
          rw [← ed, if_pos (by omega)]
        · rw [gi_s e, u2 q d hq hd2]
          dsimp only
          congr 2
          by_cases c : (q < r ∨ (q = r ∧ (d : Int) < s t + j)) ∧ s t ≤ d ∧ (d : Int) < s t + bD b t
          · rw [if_pos c, if_pos (by omega)]
          · rw [if_neg c, if_neg (by omega)]
      · show b_M_occupy_15 0 (zi t) (zi sg) (zi (r : Nat)) (zi (s t + (j : Nat))) M2 = b_M_occupy_15 0 (zi t) (zi sg) (zi (r : Nat)) (zi (s t + ((j + 1 : Nat) : Int))) _
        rw [e_b_M_occupy_15, r_fin h2' hw (sp f2) ht, xbI_r, zif (by omega) (by omega) (by omega) (by omega), if_pos (by omega), zi_480, zi_mul, zi_add, xck_z (by omega) (by omega) (by decide), r_U h2' (by omega) (by omega), xbI_r, xck_z (by omega) (by omega) (by decide), zixz (by omega) (by omega), e1, uu, zi_mul, zi_add, zi_01, zi_add]
        rw [show s t + (j : Int) + 1 = s t + ((j + 1 : Nat) : Int) by omega]
    · have h2' := RB_36 h f2
      refine ⟨M2, ⟨f2, fun q d hq hd2 => ?_⟩, ?_⟩
      · rw [u2 q d hq hd2]
        dsimp only
        congr 2
        by_cases c : q < r + 1 ∧ s t ≤ d ∧ (d : Int) < s t + bD b t
        · rw [if_pos c, if_pos (by omega)]
        · rw [if_neg c, if_neg (by omega)]
      · show b_M_occupy_15 0 (zi t) (zi sg) (zi (r : Nat)) (zi (s t + ((bD b t).toNat : Nat))) M2 = _
        rw [e_b_M_occupy_15, r_fin h2' hw (sp f2) ht, xbI_r, zif (by omega) (by omega) (by omega) (by omega), if_neg (by omega), zi_suc]
    · rw [u1 q d hq hd2]
      dsimp only
      congr 2
      by_cases c : q < r ∧ s t ≤ d ∧ (d : Int) < s t + bD b t
      · rw [if_pos c, if_pos (by omega)]
      · rw [if_neg c, if_neg (by omega)]
  · intro M1 ⟨f1, u1⟩
    have h1' := RB_36 h f1
    refine ⟨M1, ?_, f1, fun q d hq hd2 => ?_⟩
    · show b_M_occupy_3 0 (zi t) (zi sg) (zi (nR b : Nat)) M1 = _
      rw [e_b_M_occupy_3, xck_1, RB_R h1' hw, if_neg (zi_irr _)]
    · rw [u1 q d hq hd2]
      dsimp only
      congr 2
      by_cases c : s t ≤ d ∧ (d : Int) < s t + bD b t
      · rw [if_pos c, if_pos (by omega)]
      · rw [if_neg c, if_neg (by omega)]
  · rw [hu q d hq hd2]
    dsimp only
    rw [if_neg (by omega), Int.add_zero]
