/-! the class's half of the part 40 of the proof of whole (wip/p65/mkhalf.py) -/
def onS : Nat → Nat → Bool := fun k o => (decide (10 ≤ k) && decide (k ≤ 16)) && Nat.beq o 0
theorem onS_k (k : Nat) (h : k < 10 ∨ 16 < k) (o : Nat) : onS k o = false := by
  unfold onS
  rcases h with h | h
  · rw [decide_eq_false (by omega : ¬ 10 ≤ k)]; rfl
  · rw [decide_eq_false (by omega : ¬ k ≤ 16), Bool.and_false]; rfl
theorem onD_S {M M' : xM} (f : fr onD M M') : fr onS M M' := fr_mono (fun k o h => by
  unfold onD at h
  rw [Bool.and_eq_true, Bool.and_eq_true] at h
  obtain ⟨⟨h1, h2⟩, h3⟩ := h
  have h1 := of_decide_eq_true h1
  have h2 := of_decide_eq_true h2
  unfold onS
  rw [decide_eq_true (by omega : 10 ≤ k), decide_eq_true (by omega : k ≤ 16), h3]; rfl) f
theorem CP_S0 {M M' : xM} {p : Nat} {b : Nat → Int} (h : CP M p b) (f : fr onS M M') : CP M' p b :=
  CP_fr h f (fun k hk => onS_k k (Or.inl (by have := kP_lt hk; omega)) p)
def on2 : Nat → Nat → Bool := fun k o => (decide (15 ≤ k) && decide (k ≤ 16)) && Nat.beq o 0
theorem on2_k (k : Nat) (h : k < 15 ∨ 16 < k) (o : Nat) : on2 k o = false := by
  unfold on2
  rcases h with h | h
  · rw [decide_eq_false (by omega : ¬ 15 ≤ k)]; rfl
  · rw [decide_eq_false (by omega : ¬ k ≤ 16), Bool.and_false]; rfl
theorem on2_S {M M' : xM} (f : fr on2 M M') : fr onS M M' := fr_mono (fun k o h => by
  unfold on2 at h
  rw [Bool.and_eq_true, Bool.and_eq_true] at h
  obtain ⟨⟨h1, h2⟩, h3⟩ := h
  have h1 := of_decide_eq_true h1
  have h2 := of_decide_eq_true h2
  unfold onS
  rw [decide_eq_true (by omega : 10 ≤ k), decide_eq_true (by omega : k ≤ 16), h3]; rfl) f
theorem DT_fr {K : Nat → Nat → Bool} {M M' : xM} {b : Nat → Int} (h : DT M b) (f : fr K M M') (hK : ∀ k, 10 ≤ k → k ≤ 14 → K k 0 = false) : DT M' b := by
  refine ⟨by rw [fr_gi f (hK 10 (by omega) (by omega))]; exact h.1, fun k hk => ⟨?_, ?_, ?_, ?_⟩⟩
  · rw [fr_gi f (hK 11 (by omega) (by omega))]; exact (h.2 k hk).1
  · rw [fr_gi f (hK 12 (by omega) (by omega))]; exact (h.2 k hk).2.1
  · rw [fr_gi f (hK 13 (by omega) (by omega))]; exact (h.2 k hk).2.2.1
  · rw [fr_gi f (hK 14 (by omega) (by omega))]; exact (h.2 k hk).2.2.2
theorem DT_2 {M M' : xM} {b : Nat → Int} (h : DT M b) (f : fr on2 M M') : DT M' b := DT_fr h f (fun k h1 h2 => on2_k k (Or.inl (by omega)) 0)
theorem s_followers {M : xM} {p : Nat} {b : Nat → Int} (h : CP M p b) (hd : DT M b) {t : Nat} (ht : t < nT b) : m_D_countFollowers 0 p (zi t) M = rI (zi (cnt (fun x => aft (nT b) (bL b) t x) (nT b) : Nat)) M := by
  have hn := CP_n h
  rw [e_m_D_countFollowers]
  refine lp (B := fun i => b_D_countFollowers_5 0 p (zi t) (zi (cnt (fun x => aft (nT b) (bL b) t x) i : Nat)) (zi (i : Nat)) M) (n := nT b) (fun i hi => ?_) ?_ 0 (Nat.zero_le _)
  · show b_D_countFollowers_5 0 p (zi t) (zi (cnt _ i : Nat)) (zi (i : Nat)) M = b_D_countFollowers_5 0 p (zi t) (zi ((cnt (fun x => aft (nT b) (bL b) t x) i + (if aft (nT b) (bL b) t i then 1 else 0) : Nat))) (zi ((i + 1 : Nat) : Int)) M
    rw [e_b_D_countFollowers_5, CP_T h, if_pos (zi_ltn hi (by omega)), xck_n (by omega) (by decide), zix (by omega), (hd.2 i hi).2.1, s_contains _ (by omega), xret_I, xbI_r, ite_b, zi_suc, zi_suc]
    cases aft (nT b) (bL b) t i <;> rfl
  · show b_D_countFollowers_5 0 p (zi t) (zi (cnt _ _ : Nat)) (zi (nT b : Nat)) M = _
    rw [e_b_D_countFollowers_5, CP_T h, if_neg (zi_irr _)]
theorem s_rank {M : xM} {p : Nat} {b : Nat → Int} (h : CP M p b) (hd : DT M b) {t : Nat} (ht : t < nT b) (hw : wS b) : m_S_rankOf 0 p (zi t) M = rI (zi (- keyS b t)) M := by
  have hn := CP_n h
  have h0 := hw.2.2.1
  rw [e_m_S_rankOf, CP_0 h]
  unfold keyS
  show (if zi (b 0) = zi 1 then _ else if zi (b 0) = zi 2 then _ else if zi (b 0) = zi 3 then _ else _) = _
  rw [zife (by omega) (by omega) (by omega) (by omega), zife (by omega) (by omega) (by omega) (by omega), zife (by omega) (by omega) (by omega) (by omega), xck_n (by omega) (by decide), xck_n (by omega) (by decide), zix (by omega), (hd.2 t ht).2.2.2, CP_D h ht, zi_neg, s_followers h hd ht, xbI_r]
  by_cases c1 : b 0 = 1
  · rw [if_pos c1, if_pos c1]
  · rw [if_neg c1, if_neg c1]
    by_cases c2 : b 0 = 2
    · rw [if_pos c2, if_pos c2, Int.neg_neg]
    · rw [if_neg c2, if_neg c2]
      by_cases c3 : b 0 = 3
      · rw [if_pos c3, if_pos c3, Int.neg_neg]
      · rw [if_neg c3, if_neg c3]; rfl
theorem s_best {M : xM} {p : Nat} {b : Nat → Int} (h : CP M p b) (hd : DT M b) (hw : wS b) (hl : wL b) {P : Nat → Bool} (hp : gi M 15 0 2 = mk P) : m_S_bestReady 0 p M = rI (zi (bst (elS b P) (keyS b) (nT b))) M := by
  have hn := CP_n h
  have kb : ∀ t, t < nT b → -1000 ≤ keyS b t ∧ keyS b t ≤ 1000 := fun t ht => by
    have a1 := hw.2.2.2.1 t ht
    have a2 := lsB_lo hw ht
    have a3 := lsB_hi hw ht
    have a4 := esB_lo hw ht
    have a5 := etB_hi hw
    have a6 := cnt_le (fun x => aft (nT b) (bL b) t x) (nT b)
    unfold keyS
    split
    · omega
    · split
      · omega
      · split <;> omega
  rw [e_m_S_bestReady]
  refine lp (B := fun i => b_S_bestReady_7 0 p (zi (bst (elS b P) (keyS b) i)) (zi (if bst (elS b P) (keyS b) i = -1 then 0 else - keyS b (bst (elS b P) (keyS b) i).toNat)) (zi (i : Nat)) M) (n := nT b) (fun i hi => ?_) ?_ 0 (Nat.zero_le _)
  · show b_S_bestReady_7 0 p (zi (bst _ _ i)) (zi _) (zi (i : Nat)) M = b_S_bestReady_7 0 p (zi (if elS b P i && (decide (bst (elS b P) (keyS b) i = -1) || decide (keyS b i < keyS b (bst (elS b P) (keyS b) i).toNat)) then (i : Int) else bst (elS b P) (keyS b) i)) (zi (if (if elS b P i && (decide (bst (elS b P) (keyS b) i = -1) || decide (keyS b i < keyS b (bst (elS b P) (keyS b) i).toNat)) then (i : Int) else bst (elS b P) (keyS b) i) = -1 then 0 else - keyS b (if elS b P i && (decide (bst (elS b P) (keyS b) i = -1) || decide (keyS b i < keyS b (bst (elS b P) (keyS b) i).toNat)) then (i : Int) else bst (elS b P) (keyS b) i).toNat)) (zi ((i + 1 : Nat) : Int)) M
    rw [e_b_S_bestReady_7, CP_T h, if_pos (zi_ltn hi (by omega)), hp, s_isReady' h hl hi, xbI_r, ite_b, zi_suc]
    cases he : elS b P i with
    | false => simp only [Bool.false_and, Bool.false_eq_true, if_false]
    | true =>
      rw [if_pos rfl, s_rank h hd hi hw, xbI_r, Bool.true_and]
      have ki := kb i hi
      rcases bst_ok (el := elS b P) (key := keyS b) (n := i) with ⟨h1, _⟩ | ⟨h1, h2, _⟩
      · rw [h1, if_pos zi_m1.symm]
        have e1 : (decide ((-1 : Int) = -1) || decide (keyS b i < keyS b (-1 : Int).toNat)) = true := rfl
        rw [e1, if_pos rfl, if_neg (by omega), Int.toNat_natCast]
      · have kb2 := kb (bst (elS b P) (keyS b) i).toNat (by omega)
        rw [zi_m1, zife (by omega) (by omega) (by omega) (by omega), if_neg (by omega), if_neg (by omega : ¬ bst (elS b P) (keyS b) i = -1), zif (by omega) (by omega) (by omega) (by omega), decide_eq_false (by omega : ¬ bst (elS b P) (keyS b) i = -1), Bool.false_or]
        by_cases c : keyS b i < keyS b (bst (elS b P) (keyS b) i).toNat
        · rw [if_pos (by omega), decide_eq_true c, if_pos rfl, if_neg (by omega), Int.toNat_natCast]
        · rw [if_neg (by omega), decide_eq_false c, if_neg (by decide), if_neg (by omega)]
  · show b_S_bestReady_7 0 p (zi (bst _ _ _)) (zi _) (zi (nT b : Nat)) M = _
    rw [e_b_S_bestReady_7, CP_T h, if_neg (zi_irr _)]
/-- what is placed, and where -/
def PL (M : xM) (b : Nat → Int) (P : Nat → Bool) (s : Nat → Int) : Prop := gi M 15 0 2 = mk P ∧ ∀ t, t < nT b → P t = true → gi M 16 0 t = zi (s t) ∧ 0 ≤ s t ∧ s t ≤ 500
theorem ldS_bd {M : xM} {p : Nat} {b : Nat → Int} (h : CP M p b) (hw : wS b) {s : Nat → Int} {r : Nat} (hr : r < nR b) (Q : Nat → Bool) (x : Int) : 0 ≤ ldS b Q s r x ∧ ldS b Q s r x ≤ 200 := by
  have hn := CP_n h
  obtain ⟨_, _, _, h4, _, h6, h7, _⟩ := hw
  have hc := h7 r hr
  constructor
  · refine sm_nn (fun i hi => ?_)
    unfold ldU
    have := h6 i r hi hr
    split <;> omega
  · have : ldS b Q s r x ≤ nT b * 10 := sm_le (fun i hi => by
      unfold ldU
      have := h6 i r hi hr
      split <;> omega)
    omega
theorem s_room {M : xM} {p : Nat} {b : Nat → Int} (h : CP M p b) (hw : wS b) {P : Nat → Bool} {s : Nat → Int} (hp : PL M b P s) {t : Nat} (ht : t < nT b) {x : Int} (h3 : -1000000 ≤ x) (h4 : x < 1000000) : m_S_hasRoomOn 0 p (zi t) (zi x) M = rI (bz (freeS b P s t x)) M := by
  have hn := CP_n h
  have hr := CP_r h
  have h7 := hw.2.2.2.2.2.2.1
  have h6 := hw.2.2.2.2.2.1
  rw [e_m_S_hasRoomOn, hp.1, mk_del _ (by omega)]
  show b_S_hasRoomOn_12 0 p (zi t) (zi x) (mk (but P t)) 0 M = _
  have st : ∀ r, r < nR b → b_S_hasRoomOn_12 0 p (zi t) (zi x) (mk (but P t)) (zi (r : Nat)) M = if bC b r < ldS b (but P t) s r x + bU b t r then rI (bz false) M else b_S_hasRoomOn_12 0 p (zi t) (zi x) (mk (but P t)) (zi ((r + 1 : Nat) : Int)) M := fun r hr2 => by
    have lb := ldS_bd h hw hr2 (s := s) (but P t) x
    have a1 := h7 r hr2
    have a2 := h6 t r ht hr2
    rw [e_b_S_hasRoomOn_12, CP_R h, if_pos (zi_ltn hr2 (by omega)), s_loadOn h rfl rfl (fun i hi q => by
        have q : P i = true := by
          unfold but at q
          rw [Bool.and_eq_true] at q
          exact q.1
        have := hp.2 i hi q
        exact ⟨this.1, by omega, by omega⟩) (fun i hi => by have := hw.2.2.2.1 i hi; omega) hr2 h3 h4, xbI_r, s_demandOf h ht hr2, xbI_r, xck_n (by omega) (by decide), zix (by omega), CP_C h hr2, zi_add, zif (by omega) (by omega) (by omega) (by omega), zi_suc]
    rfl
  have := lpa (B := fun r => b_S_hasRoomOn_12 0 p (zi t) (zi x) (mk (but P t)) (zi (r : Nat)) M) (n := nR b) (fun r => decide (ldS b (but P t) s r x + bU b t r ≤ bC b r)) (R := rI (bz false) M) (R2 := rI (bz true) M) (fun r hr2 hok => by
      have hok := of_decide_eq_true hok
      show b_S_hasRoomOn_12 0 p (zi t) (zi x) (mk (but P t)) (zi (r : Nat)) M = _
      rw [st r hr2, if_neg (by omega)]) (fun r hr2 hok => by
      have hok := of_decide_eq_false hok
      show b_S_hasRoomOn_12 0 p (zi t) (zi x) (mk (but P t)) (zi (r : Nat)) M = _
      rw [st r hr2, if_pos (by omega)]) (by
      show b_S_hasRoomOn_12 0 p (zi t) (zi x) (mk (but P t)) (zi (nR b : Nat)) M = _
      rw [e_b_S_hasRoomOn_12, CP_R h, if_neg (zi_irr _), xnar_1])
  refine Eq.trans this ?_
  show _ = rI (bz (allN _ _)) M
  cases allN (nR b) (fun r => decide (ldS b (but P t) s r x + bU b t r ≤ bC b r)) <;> rfl
theorem s_pfin {M : xM} {p : Nat} {b : Nat → Int} (h : CP M p b) (hw : wS b) {P : Nat → Bool} {s : Nat → Int} (hp : PL M b P s) {t : Nat} (ht : t < nT b) (hq : ∀ f, f < nT b → bL b f t = true → P f = true) : m_S_predecessorsFinish 0 p (zi t) M = rI (zi (mxF (fun f => bL b f t) (fun f => s f + bD b f) 0 (nT b))) M := by
  have hn := CP_n h
  have hd := hw.2.2.2.1
  rw [e_m_S_predecessorsFinish]
  refine lp (B := fun i => b_S_predecessorsFinish_5 0 p (zi t) (zi (mxF (fun f => bL b f t) (fun f => s f + bD b f) 0 i)) (zi (i : Nat)) M) (n := nT b) (fun i hi => ?_) ?_ 0 (Nat.zero_le _)
  · show b_S_predecessorsFinish_5 0 p (zi t) (zi (mxF _ _ 0 i)) (zi (i : Nat)) M = b_S_predecessorsFinish_5 0 p (zi t) (zi (if bL b i t = true then imx (mxF (fun f => bL b f t) (fun f => s f + bD b f) 0 i) (s i + bD b i) else mxF (fun f => bL b f t) (fun f => s f + bD b f) 0 i)) (zi ((i + 1 : Nat) : Int)) M
    rw [e_b_S_predecessorsFinish_5, CP_T h, if_pos (zi_ltn hi (by omega)), s_isLinked h (by omega) ht, xbI_r, ite_b, zi_suc]
    cases hb : bL b i t with
    | false => simp only [Bool.false_eq_true, if_false]
    | true =>
      obtain ⟨g1, g2, g3⟩ := hp.2 i hi (hq i hi hb)
      have b1 : mxF (fun f => bL b f t) (fun f => s f + bD b f) 0 i ≤ 1000 := mxF_le (by decide) (fun j hj q => by
        have := hp.2 j (by omega) (hq j (by omega) q)
        have := hd j (by omega)
        omega)
      have b2 := mxF_a (fun f => bL b f t) (fun f => s f + bD b f) 0 i
      have b3 := hd i hi
      rw [if_pos rfl, xck_n (by omega) (by decide), xck_n (by omega) (by decide), zix (by omega), g1, CP_D h hi, zi_add, s_max _ _ (by omega) (by omega) (by omega) (by omega), xret_I, xbI_r, if_pos rfl]
  · show b_S_predecessorsFinish_5 0 p (zi t) (zi (mxF _ _ 0 _)) (zi (nT b : Nat)) M = _
    rw [e_b_S_predecessorsFinish_5, CP_T h, if_neg (zi_irr _)]
theorem s_first {M : xM} {p : Nat} {b : Nat → Int} (h : CP M p b) (hw : wS b) {P : Nat → Bool} {s : Nat → Int} (hp : PL M b P s) {t : Nat} (ht : t < nT b) (hq : ∀ f, f < nT b → bL b f t = true → P f = true) {x : Int} (hx : isL (fitS b P s t) (rdS b s t) x) (hx2 : x ≤ 500) : m_S_firstFreeDay 0 p (zi t) M = rI (zi x) M := by
  have hn := CP_n h
  have hd := hw.2.2.2.1 t ht
  have he := hw.2.2.2.2.1 t ht
  have b1 : mxF (fun f => bL b f t) (fun f => s f + bD b f) 0 (nT b) ≤ 1000 := mxF_le (by decide) (fun j hj q => by
    have := hp.2 j (by omega) (hq j (by omega) q)
    have := hw.2.2.2.1 j (by omega)
    omega)
  have b2 := mxF_a (fun f => bL b f t) (fun f => s f + bD b f) 0 (nT b)
  have b3 : 0 ≤ rdS b s t := Int.le_trans he.1 (mxF_a _ _ _ _)
  have b4 := hx.1
  rw [e_m_S_firstFreeDay, xck_n (by omega) (by decide), s_pfin h hw hp ht hq, xbI_r, zix (by omega), CP_E h ht, s_max _ _ (by omega) (by omega) (by omega) (by omega), xret_I, xbI_r, mxF_imx he.1]
  have lo : ∀ k : Nat, (∀ i : Nat, i < k → rdS b s t + i < stF (freeS b P s t) (rdS b s t) i + bD b t) → stF (freeS b P s t) (rdS b s t) k ≤ x := fun k hk => by
    by_cases c : stF (freeS b P s t) (rdS b s t) k ≤ x
    · exact c
    · obtain ⟨y, y1, y2, y3⟩ := stF_bad k hk x b4 (by omega)
      have h1 := allN_iff.mp hx.2.1 (y - x).toNat (by omega)
      rw [show x + (((y - x).toNat : Nat) : Int) = y by omega, y3] at h1
      cases h1
  have key : ∀ j k : Nat, rdS b s t + k + j = x + bD b t → (∀ i : Nat, i < k → rdS b s t + i < stF (freeS b P s t) (rdS b s t) i + bD b t) → b_S_firstFreeDay_13 0 p (zi t) (zi (stF (freeS b P s t) (rdS b s t) k)) (zi (rdS b s t + k)) M = rI (zi x) M := by
    intro j
    induction j with
    | zero =>
      intro k hk hc
      have h1 := lo k hc
      have h2 := stF_bd (freeS b P s t) (rdS b s t) k
      have fin : ¬ rdS b s t + k < stF (freeS b P s t) (rdS b s t) k + bD b t := by omega
      have e : stF (freeS b P s t) (rdS b s t) k = x := by
        refine isL_uniq (F := fitS b P s t) (x := rdS b s t) ⟨h2.1, allN_iff.mpr (fun i hi => stF_free (F := freeS b P s t) (x := rdS b s t) k _ (by omega) (by omega)), fun z z1 z2 => ?_⟩ hx
        obtain ⟨y, y1, y2, y3⟩ := stF_bad k hc z z1 z2
        cases e : fitS b P s t z with
        | false => rfl
        | true =>
          have h1 := allN_iff.mp e (y - z).toNat (by omega)
          rw [show z + (((y - z).toNat : Nat) : Int) = y by omega, y3] at h1
          cases h1
      rw [e_b_S_firstFreeDay_13, zi_999, zif (by omega) (by omega) (by omega) (by omega), if_neg (by omega), xck_n (by omega) (by decide), zix (by omega), CP_D h ht, zi_add, zif (by omega) (by omega) (by omega) (by omega), if_neg fin, e]
    | succ j ih =>
      intro k hk hc
      have h1 := lo k hc
      have h2 := stF_bd (freeS b P s t) (rdS b s t) k
      by_cases go : rdS b s t + k < stF (freeS b P s t) (rdS b s t) k + bD b t
      · have nx := ih (k + 1) (by omega) (fun i hi => by
          by_cases e : i = k
          · subst e; exact go
          · exact hc i (by omega))
        have e2 : stF (freeS b P s t) (rdS b s t) (k + 1) = if freeS b P s t (rdS b s t + k) = true then stF (freeS b P s t) (rdS b s t) k else rdS b s t + k + 1 := rfl
        rw [e2] at nx
        rw [e_b_S_firstFreeDay_13, zi_999, zif (by omega) (by omega) (by omega) (by omega), if_neg (by omega), xck_n (by omega) (by decide), zix (by omega), CP_D h ht, zi_add, zif (by omega) (by omega) (by omega) (by omega), if_pos go, s_room h hw hp ht (by omega) (by omega), xbI_r, ite_b, zi_01, zi_add]
        rw [show rdS b s t + ((k + 1 : Nat) : Int) = rdS b s t + k + 1 by omega] at nx
        by_cases c : freeS b P s t (rdS b s t + k) = true
        · rw [if_pos c] at nx ⊢; exact nx
        · rw [if_neg c] at nx ⊢; exact nx
      · have e : stF (freeS b P s t) (rdS b s t) k = x := by
          refine isL_uniq (F := fitS b P s t) (x := rdS b s t) ⟨h2.1, allN_iff.mpr (fun i hi => stF_free (F := freeS b P s t) (x := rdS b s t) k _ (by omega) (by omega)), fun z z1 z2 => ?_⟩ hx
          obtain ⟨y, y1, y2, y3⟩ := stF_bad k hc z z1 z2
          cases e : fitS b P s t z with
          | false => rfl
          | true =>
            have h1 := allN_iff.mp e (y - z).toNat (by omega)
            rw [show z + (((y - z).toNat : Nat) : Int) = y by omega, y3] at h1
            cases h1
        rw [e_b_S_firstFreeDay_13, zi_999, zif (by omega) (by omega) (by omega) (by omega), if_neg (by omega), xck_n (by omega) (by decide), zix (by omega), CP_D h ht, zi_add, zif (by omega) (by omega) (by omega) (by omega), if_neg go, e]
  have := key (x + bD b t - rdS b s t).toNat 0 (by omega) (fun i hi => absurd hi (Nat.not_lt_zero i))
  rw [show rdS b s t + ((0 : Nat) : Int) = rdS b s t by omega] at this
  exact this
/-- the schedule of a plan is there -/
def SD (M : xM) (b : Nat → Int) : Prop := DT M b ∧ gi M 15 0 2 = mk (fun t => decide (t < nT b)) ∧ (∀ t, t < nT b → gi M 16 0 t = zi (stB b t)) ∧ gi M 15 0 3 = zi (mkB b)
theorem SD_PL {M : xM} {b : Nat → Int} (h : SD M b) (hw : wS b) : PL M b (fun t => decide (t < nT b)) (stB b) := ⟨h.2.1, fun t ht _ => ⟨h.2.2.1 t ht, (stB_ok hw ht).1, by
  have := (stB_ok hw ht).2
  have := mkB_ok hw
  have := hw.2.2.2.1 t ht
  omega⟩⟩
theorem s_build {M : xM} {p : Nat} {b : Nat → Int} (h : CP M p b) (hw : wS b) (hl : wL b) : ∃ M', m_S_build 0 p M = rV M' ∧ fr onS M M' ∧ SD M' b := by
  have hn := CP_n h
  obtain ⟨M1, h1, f1, d1⟩ := s_dates h hw hl
  rw [e_m_S_build, h1, xbV_r]
  have f2 : fr on2 M1 (xst (xst M1 15 0 2 (.int 0)) 15 0 3 (.int 0)) := fr_step (fr_st rfl) rfl
  refine lpM (B := fun i M' => b_S_build_13 0 p (zi (i : Nat)) M') (n := nT b) (fun i M' => fr on2 M1 M' ∧ gi M' 15 0 2 = mk (scS b i).1 ∧ (∀ t, t < nT b → (scS b i).1 t = true → gi M' 16 0 t = zi ((scS b i).2 t)) ∧ gi M' 15 0 3 = zi (spS b i)) (fun r => ∃ M', r = rV M' ∧ fr onS M M' ∧ SD M' b) ?_ ?_ 0 _ (Nat.zero_le _) ⟨f2, by rw [gi_s (by decide), gi_h]; exact mk_0, fun t _ hp => (nomatch hp), by rw [gi_h]; rfl⟩
  · intro i M' hi ⟨f, g1, g2, g3⟩
    have h' := CP_S0 h (fr_trans (onD_S f1) (on2_S f))
    have d' := DT_2 d1 f
    have hin := scS_in hw i (by omega)
    obtain ⟨t, n1, n2, n3, n4, n5⟩ := scS_next hw hi
    have hin2 := scS_in hw (i + 1) (by omega)
    have n6 : (scS b (i + 1)).1 t = true := by rw [n5]; show (_ || (t == t)) = true; simp
    have n7 := hin2.2.1 t n2 n6
    have n8 := hw.2.2.2.1 t n2
    have n9 := spS_ok hw i (by omega)
    have hPL : PL M' b (scS b i).1 (scS b i).2 := ⟨g1, fun x hx hp => ⟨g2 x hx hp, (hin.2.1 x hx hp).1, by
      have := (hin.2.1 x hx hp).2.2
      have := hw.2.2.2.1 x hx
      omega⟩⟩
    refine ⟨_, ?_, by
      show b_S_build_13 0 p (zi (i : Nat)) M' = _
      rw [e_b_S_build_13, CP_T h', if_pos (zi_ltn hi (by omega)), s_best h' d' hw hl g1, xbI_r, n1, zi_m1, zife (by omega) (by omega) (by omega) (by omega), if_neg (by omega), s_first h' hw hPL n2 (fun f hf hlk => elS_pre n3 hf hlk) n4 (by omega), xbI_r, xck_n (by omega) (by decide), xck_n (by omega) (by decide), xck_n (by omega) (by decide), zix (by omega), gi_s (by decide), gi_k (by decide), g3, gi_h, CP_D h' n2, zi_add, s_max _ _ (by omega) (by omega) (by omega) (by omega), xret_I, xbI_r, zi_suc]⟩
    refine ⟨fr_step (fr_step (fr_step f rfl) rfl) rfl, ?_, fun x hx hp => ?_, ?_⟩
    · rw [gi_s (by decide), gi_h, g1, mk_shl (by omega), mk_or, n5]
      rfl
    · rw [gi_k (by decide), gi_k (by decide)]
      have e3 : (scS b (i + 1)).2 x = if x = t then (scS b (i + 1)).2 t else (scS b i).2 x := congrFun (congrArg Prod.snd n5) x
      have e4 : (scS b (i + 1)).1 x = ((scS b i).1 x || (x == t)) := congrFun (congrArg Prod.fst n5) x
      rw [e4] at hp
      rw [e3]
      by_cases e : x = t
      · rw [if_pos e, e, gi_h]
      · have : (x == t) = false := by simp [e]
        rw [this, Bool.or_false] at hp
        rw [gi_s e, if_neg e]; exact g2 x hx hp
    · rw [gi_h, spS_step n1]
  · intro M' ⟨f, g1, g2, g3⟩
    have h' := CP_S0 h (fr_trans (onD_S f1) (on2_S f))
    have d' := DT_2 d1 f
    refine ⟨M', ?_, fr_trans (onD_S f1) (on2_S f), d', ?_, fun t ht => ?_, g3⟩
    · show b_S_build_13 0 p (zi (nT b : Nat)) M' = _
      rw [e_b_S_build_13, CP_T h', if_neg (zi_irr _)]
    · rw [g1]
      exact mk_ext (fun t _ => scS_all hw)
    · exact g2 t ht (by rw [scS_all hw, decide_eq_true ht])
