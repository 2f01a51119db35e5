/-! what the schedule keeps: links, capacities, the least length -/
theorem stg {b : Nat → Int} (h : wS b) : ∀ k, k ≤ nT b → (∀ f t, f < nT b → t < nT b → (scS b k).1 t = true → bL b f t = true → (scS b k).1 f = true ∧ (scS b k).2 f + bD b f ≤ (scS b k).2 t) ∧ ∀ r x, r < nR b → ldS b (scS b k).1 (scS b k).2 r x ≤ bC b r := by
  intro k
  induction k with
  | zero =>
    intro _
    refine ⟨fun f t _ _ q => (nomatch q), fun r x hr => ?_⟩
    have e : ldS b (scS b 0).1 (scS b 0).2 r x = 0 := ldS_0 (fun t _ q => (nomatch q))
    have := h.2.2.2.2.2.2.1 r hr
    omega
  | succ k ih =>
    intro hk
    obtain ⟨i1, i2⟩ := ih (by omega)
    obtain ⟨t, h1, h2, h3, h4, h5⟩ := scS_next h (show k < nT b by omega)
    obtain ⟨x, hx⟩ : ∃ x, x = (scS b (k + 1)).2 t := ⟨_, rfl⟩
    rw [← hx] at h4 h5
    rw [h5]
    have tn := elS_new h3
    have eP : ∀ i, addP (scS b k).1 t i = ((scS b k).1 i || (i == t)) := fun i => rfl
    have ne : ∀ i, (scS b k).1 i = true → i ≠ t := fun i q e => by rw [e, tn] at q; cases q
    constructor
    · intro f y hf hy q hl
      show addP (scS b k).1 t f = true ∧ upI (scS b k).2 t x f + bD b f ≤ upI (scS b k).2 t x y
      have q : addP (scS b k).1 t y = true := q
      by_cases e : y = t
      · subst e
        have pf := elS_pre h3 hf hl
        have fn := ne f pf
        have g : (scS b k).2 f + bD b f ≤ rdS b (scS b k).2 y := mxF_g (P := fun f => bL b f y) (g := fun f => (scS b k).2 f + bD b f) hf hl
        refine ⟨by rw [eP, pf]; rfl, ?_⟩
        unfold upI
        rw [if_neg fn, if_pos rfl]
        exact Int.le_trans g h4.1
      · have py : (scS b k).1 y = true := by
          rw [eP] at q
          have : (y == t) = false := by simp [e]
          rw [this, Bool.or_false] at q
          exact q
        obtain ⟨pf, g⟩ := i1 f y hf hy py hl
        have fn := ne f pf
        refine ⟨by rw [eP, pf]; rfl, ?_⟩
        unfold upI
        rw [if_neg fn, if_neg e]
        exact g
    · intro r d hr
      show ldS b (addP (scS b k).1 t) (upI (scS b k).2 t x) r d ≤ bC b r
      rw [ldS_add h2 tn]
      by_cases c : x ≤ d ∧ d < x + bD b t
      · rw [if_pos c]
        have f1 := allN_iff.mp h4.2.1 (d - x).toNat (by omega)
        have f1 : freeS b (scS b k).1 (scS b k).2 t (x + (((d - x).toNat : Nat) : Int)) = true := f1
        rw [show x + (((d - x).toNat : Nat) : Int) = d by omega] at f1
        have f2 := of_decide_eq_true (allN_iff.mp f1 r hr)
        rw [ldS_but0 tn] at f2
        exact f2
      · rw [if_neg c]
        have := i2 r d hr
        omega
theorem stB_link {b : Nat → Int} (h : wS b) {f t : Nat} (hf : f < nT b) (ht : t < nT b) (hl : bL b f t = true) : stB b f + bD b f ≤ stB b t :=
  ((stg h (nT b) (Nat.le_refl _)).1 f t hf ht (by rw [scS_all h, decide_eq_true ht]) hl).2
theorem stB_cap {b : Nat → Int} (h : wS b) {r : Nat} (hr : r < nR b) (x : Int) : ldS b (allT b) (stB b) r x ≤ bC b r := by
  have := (stg h (nT b) (Nat.le_refl _)).2 r x hr
  rw [show (scS b (nT b)).1 = allT b from funext (fun t => scS_all h)] at this
  exact this
theorem stB_rel {b : Nat → Int} (h : wS b) {t : Nat} (ht : t < nT b) : bE b t ≤ stB b t :=
  ((scS_in h (nT b) (Nat.le_refl _)).2.1 t ht (by rw [scS_all h, decide_eq_true ht])).2.1
theorem es_st {b : Nat → Int} (h : wS b) : ∀ {t : Nat}, t < nT b → esB b t ≤ stB b t := by
  obtain ⟨rk, r1, r2⟩ := h.2.2.2.2.2.2.2
  have key : ∀ k t, rk t < k → t < nT b → esB b t ≤ stB b t := by
    intro k
    induction k with
    | zero => intro t q; omega
    | succ k ih =>
      intro t q ht
      have e : mxF (fun f => bL b f t) (fun f => esB b f + bD b f) (bE b t) (nT b) = esB b t := eS_eq h.2.2.2.2.2.2.2 ht
      rw [← e]
      refine mxF_le (stB_rel h ht) (fun f hf hl => ?_)
      have a1 := r2 f t hf ht hl
      have a2 := ih f (by omega) hf
      have a3 := stB_link h hf ht hl
      omega
  exact fun {t} ht => key (rk t + 1) t (by omega) ht
theorem et_mk {b : Nat → Int} (h : wS b) : etB b ≤ mkB b := mxF_le (mkB_ok h).1 (fun t ht _ => by
  have a1 := es_st h ht
  have a2 := (stB_ok h ht).2
  have e : esB b t = eS (nT b) (bL b) (bD b) (bE b) t := rfl
  omega)
theorem sm_swap (g : Nat → Nat → Int) (n : Nat) : ∀ N, sm (fun x => sm (g x) n) N = sm (fun t => sm (fun x => g x t) N) n := by
  intro N
  induction N with
  | zero =>
    have : ∀ n, sm (fun _ : Nat => (0 : Int)) n = 0 := by
      intro n
      induction n with
      | zero => rfl
      | succ n ih => show sm _ n + 0 = 0; rw [ih]; rfl
    exact (this n).symm
  | succ N ih =>
    have add : ∀ n, sm (fun t => sm (fun x => g x t) N) n + sm (g N) n = sm (fun t => sm (fun x => g x t) N + g N t) n := by
      intro n
      induction n with
      | zero => rfl
      | succ n ih2 =>
        show (sm (fun t => sm (fun x => g x t) N) n + sm (fun x => g x n) N) + (sm (g N) n + g N n) = sm (fun t => sm (fun x => g x t) N + g N t) n + (sm (fun x => g x n) N + g N n)
        rw [← ih2]
        omega
    show sm (fun x => sm (g x) n) N + sm (g N) n = sm (fun t => sm (fun x => g x t) N + g N t) n
    rw [ih, add]
theorem sm_win {s d u : Int} (h0 : 0 ≤ s) (hd : 0 ≤ d) : ∀ N : Nat, sm (fun x => if (decide (s ≤ (x : Int)) && decide ((x : Int) < s + d)) = true then u else 0) N = if (N : Int) ≤ s then 0 else if (N : Int) ≤ s + d then u * ((N : Int) - s) else u * d := by
  intro N
  induction N with
  | zero => rw [if_pos (by omega)]; rfl
  | succ N ih =>
    show sm _ N + (if (decide (s ≤ (N : Int)) && decide ((N : Int) < s + d)) = true then u else 0) = _
    rw [ih]
    have e : ((N + 1 : Nat) : Int) = (N : Int) + 1 := by omega
    rw [e]
    by_cases c1 : (N : Int) < s
    · rw [if_pos (show (N : Int) ≤ s by omega), decide_eq_false (by omega), Bool.false_and, if_neg (by decide), if_pos (show (N : Int) + 1 ≤ s by omega)]
      rfl
    · rw [decide_eq_true (show s ≤ (N : Int) by omega), Bool.true_and, if_neg (show ¬ (N : Int) + 1 ≤ s by omega)]
      by_cases c2 : (N : Int) < s + d
      · rw [decide_eq_true c2, if_pos rfl, if_pos (show (N : Int) + 1 ≤ s + d by omega), show (N : Int) + 1 - s = ((N : Int) - s) + 1 by omega, Int.mul_add, Int.mul_one]
        by_cases c3 : (N : Int) ≤ s
        · rw [if_pos c3, show (N : Int) - s = 0 by omega, Int.mul_zero]
        · rw [if_neg c3, if_pos (by omega)]
      · rw [decide_eq_false c2, show (if false = true then u else (0 : Int)) = 0 from rfl, if_neg (show ¬ (N : Int) + 1 ≤ s + d by omega), Int.add_zero]
        by_cases c3 : (N : Int) ≤ s
        · rw [if_pos c3, show d = 0 by omega, Int.mul_zero]
        · rw [if_neg c3]
          by_cases c4 : (N : Int) ≤ s + d
          · rw [if_pos c4, show (N : Int) - s = d by omega]
          · rw [if_neg c4]
theorem wk_mk {b : Nat → Int} (h : wS b) {r : Nat} (hr : r < nR b) : wkB b r ≤ mkB b * bC b r := by
  have m := mkB_ok h
  have hC := h.2.2.2.2.2.2.1 r hr
  have e : sm (fun x : Nat => ldS b (allT b) (stB b) r x) (mkB b).toNat = wkB b r := by
    show sm (fun x : Nat => sm (ldU b (allT b) (stB b) r x) (nT b)) (mkB b).toNat = _
    rw [sm_swap (fun x t => ldU b (allT b) (stB b) r x t)]
    refine sm_congr (fun t ht => ?_)
    have s1 := stB_ok h ht
    have s2 := h.2.2.2.1 t ht
    have e1 : sm (fun x : Nat => ldU b (allT b) (stB b) r x t) (mkB b).toNat = sm (fun x : Nat => if (decide (stB b t ≤ (x : Int)) && decide ((x : Int) < stB b t + bD b t)) = true then bU b t r else 0) (mkB b).toNat := sm_congr (fun x _ => by
      unfold ldU
      rw [show allT b t = true from decide_eq_true ht, Bool.true_and])
    rw [e1, sm_win s1.1 (by omega), if_neg (by omega)]
    by_cases c : (((mkB b).toNat : Nat) : Int) ≤ stB b t + bD b t
    · rw [if_pos c, show (((mkB b).toNat : Nat) : Int) - stB b t = bD b t by omega]
    · rw [if_neg c]
  rw [← e]
  have := sm_le (f := fun x : Nat => ldS b (allT b) (stB b) r x) (n := (mkB b).toNat) (c := bC b r) (fun x _ => stB_cap h hr x)
  rw [show (((mkB b).toNat : Nat) : Int) = mkB b by omega] at this
  exact this
theorem lb_mk {b : Nat → Int} (h : wS b) : lbB b ≤ mkB b := mxF_le (et_mk h) (fun r hr _ => by
  have m := mkB_ok h
  have hC := h.2.2.2.2.2.2.1 r hr
  have w := wk_mk h hr
  have : dwB b r < mkB b + 1 := by
    unfold dwB
    refine Int.ediv_lt_of_lt_mul (by omega) ?_
    rw [Int.add_mul, Int.one_mul]
    omega
  omega)
theorem cnt_ff {P : Nat → Bool} {n : Nat} (h : ∀ i, i < n → P i = false) : cnt P n = 0 := by
  have e : cnt P n = cnt (fun _ => false) n := cnt_congr h
  rw [e]
  have : ∀ n, cnt (fun _ => false) n = 0 := by
    intro n
    induction n with
    | zero => rfl
    | succ n ih => show cnt _ n + 0 = 0; rw [ih]
  exact this n
theorem br_0 {b : Nat → Int} (h : wS b) : brB b = 0 := by
  have e : brB b = sm (fun _ => 0) (nT b) := sm_congr (fun f hf => by
    rw [cnt_ff (fun t ht => ?_)]; rfl
    cases hl : bL b f t with
    | false => rfl
    | true => rw [decide_eq_false (by have := stB_link h hf ht hl; omega)]; rfl)
  rw [e]
  have : ∀ n, sm (fun _ : Nat => (0 : Int)) n = 0 := by
    intro n
    induction n with
    | zero => rfl
    | succ n ih => show sm _ n + 0 = 0; rw [ih]; rfl
  exact this _
theorem ou_0 {b : Nat → Int} (h : wS b) : ouB b = 0 := cnt_ff (fun r hr => decide_eq_false (by
  have : pkB b r ≤ bC b r := mxF_le (by have := h.2.2.2.2.2.2.1 r hr; omega) (fun x _ _ => stB_cap h hr x)
  omega))
theorem pk_day {b : Nat → Int} (h : wS b) {r : Nat} (hr : r < nR b) : mxF (fun _ => true) (fun x : Nat => ldS b (allT b) (stB b) r x) 0 ((mkB b).toNat + 1) = pkB b r := by
  have m := mkB_ok h
  have e : ldS b (allT b) (stB b) r ((mkB b).toNat : Nat) = 0 := ldS_0 (fun t ht _ => by have := (stB_ok h ht).2; omega)
  have p0 : 0 ≤ pkB b r := mxF_a _ _ _ _
  show (if true = true then imx (mxF (fun _ => true) (fun x : Nat => ldS b (allT b) (stB b) r x) 0 (mkB b).toNat) (ldS b (allT b) (stB b) r ((mkB b).toNat : Nat)) else _) = _
  rw [if_pos rfl, e]
  show imx (pkB b r) 0 = pkB b r
  unfold imx
  rw [if_neg (by omega)]
