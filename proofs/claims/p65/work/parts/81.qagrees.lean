/-! a plan of the law is made; it agrees -/
theorem QS_27 {M : xM} {o : Nat} {b : Nat → Int} {v : Value} (h : QS M o b) : QS (xst M 27 o 3 v) o b :=
  ⟨CI_Z h.1 (fz_st rfl), ⟨(gn_k (by decide)).trans h.2.1.1, (gn_k (by decide)).trans h.2.1.2⟩, (gi_s (by decide)).trans h.2.2.1, h.2.2.2⟩
theorem xnew_ne {M : xM} {kk n k o s : Nat} (h1 : k ≠ 100) (h2 : k ≠ 101 ∨ o ≠ kk) (h3 : k ≠ kk) (h4 : k ≠ 200 + kk) : xnew M kk n k o s = M k o s := by
  unfold xnew xbump xst xclr
  rw [if_neg (by omega), if_neg (by omega), if_neg (by omega), if_neg (by omega)]
theorem q_init {N : xM} {b : Nat → Int} (h : CI N b) (h8 : nT b ≤ 8) (hc : gn N 101 28 0 = gn N 101 27 0) : ∃ M1, m_Q_init (gn N 101 27 0) 0 (xnew N 27 4) = rV M1 ∧ fz onLw N M1 ∧ RO N M1 2 16 ∧ QL M1 (gn N 101 27 0) b ∧ gn M1 101 27 0 = gn N 101 27 0 + 1 ∧ gn M1 101 28 0 = gn N 101 28 0 + 1 ∧ (∀ k o s, k < 100 ∨ (102 ≤ k ∧ k < 227) → k ≠ 27 → k ≠ 28 → M1 k o s = N k o s) := by
  have hw := h.1.1
  have hn := CI_n h
  generalize ho : gn N 101 27 0 = o at hc ⊢
  have d27 : ∀ f, gi (xnew N 27 4) 27 o f = 0 := fun f => by rw [← ho]; exact (xnew_def (M := N) (k := 27) (n := 4) (f := f) (by decide)).1
  have c28 : gn (xnew N 27 4) 101 28 0 = o := by rw [gn_xnew_cnt (by rfl), if_neg (by decide)]; exact hc
  have c27 : gn (xnew N 27 4) 101 27 0 = o + 1 := by rw [gn_xnew_cnt (by rfl), if_pos rfl, ho]
  have z1 : fz onLw N (xnew N 27 4) := fun k o' s q => by
    have := onLw_is q
    exact xnew_ne (by omega) (by omega) (by omega) (by omega)
  have z2 : fz onLw N (xnew (xnew N 27 4) 28 12) := fz_trans z1 (fun k o' s q => by
    have := onLw_is q
    exact xnew_ne (by omega) (by omega) (by omega) (by omega))
  have n2 : ∀ k o' s, k < 100 ∨ (102 ≤ k ∧ k < 227) → k ≠ 27 → k ≠ 28 → xnew (xnew N 27 4) 28 12 k o' s = N k o' s := fun k o' s q q1 q2 => by
    rw [xnew_ne (by omega) (by omega) (by omega) (by omega), xnew_ne (by omega) (by omega) (by omega) (by omega)]
  generalize hA : xnew (xnew N 27 4) 28 12 = A at z2 n2
  have gA : ∀ f, gi A 27 o f = 0 := fun f => by
    rw [← hA]
    unfold gi
    rw [xnew_at (by decide)]
    unfold xclr
    rw [if_neg (by omega)]
    exact d27 f
  have cA27 : gn A 101 27 0 = o + 1 := by rw [← hA, gn_xnew_cnt (by rfl), if_neg (by decide)]; exact c27
  have cA28 : gn A 101 28 0 = o + 1 := by rw [← hA, gn_xnew_cnt (by rfl), if_pos rfl, c28]
  have rA : RO N A 2 16 := by
    rw [← hA]
    exact RO_trans (RO_new (M := N) (k := 27) (n := 4) (by decide)) (RO_new (M := xnew N 27 4) (k := 28) (n := 12) (by decide))
  have z3 : fz onLw N (xst (xst A 227 o 2 (.ref 1)) 227 o 0 (.ref 1)) := fz_step (fz_step z2 rfl) rfl
  have hCI := CI_Z h z3
  have hQS : QS (xst (xst (xst A 227 o 2 (.ref 1)) 227 o 0 (.ref 1)) 27 o 1 (.int (zi (nT b)))) o b :=
    ⟨CI_Z hCI (fz_st rfl), ⟨(gn_k (by decide)).trans (gn_h _ _ _ _ _), (gn_k (by decide)).trans ((gn_s (by decide)).trans (gn_h _ _ _ _ _))⟩, gi_h _ _ _ _ _, h8⟩
  rw [e_m_Q_init, if_pos (by rfl), c28, if_pos rfl, if_pos rfl, hA, gdc hCI xain0, c_tc hCI, xret_I, xbI_r]
  refine lpM (B := fun i X => b_Q_init_16 o 0 (zi (i : Nat)) X) (n := nT b) (fun i X => QS X o b ∧ gi X 27 o 3 = zi (mxF (fun _ => true) (fun t => esB b t + bD b t) 0 i) ∧ ∀ k o' s, ¬ (k = 27 ∧ o' = o) → X k o' s = xst (xst A 227 o 2 (.ref 1)) 227 o 0 (.ref 1) k o' s) (fun r => ∃ M1, r = rV M1 ∧ fz onLw N M1 ∧ RO N M1 2 16 ∧ QL M1 o b ∧ gn M1 101 27 0 = o + 1 ∧ gn M1 101 28 0 = gn N 101 28 0 + 1 ∧ (∀ k o s, k < 100 ∨ (102 ≤ k ∧ k < 227) → k ≠ 27 → k ≠ 28 → M1 k o s = N k o s)) (fun i X hi V => ?_) (fun X V => ?_) 0 _ (Nat.zero_le _) ⟨hQS, ?_, fun k o' s q => xst_ne (fun e => q ⟨e.1, e.2.1⟩)⟩
  · obtain ⟨hX, g, f⟩ := V
    have hX : QS X o b := hX
    have g : gi X 27 o 3 = zi (mxF (fun _ => true) (fun t => esB b t + bD b t) 0 i) := g
    have m1 := mxF_a (fun _ => true) (fun t => esB b t + bD b t) 0 i
    have m2 : mxF (fun _ => true) (fun t => esB b t + bD b t) 0 i ≤ 489 := mxF_le (by omega) (fun q hq _ => by
      have := esB_hi hw (show q < nT b by omega)
      have := hw.2.2.2.1 q (by omega)
      omega)
    have e1 := esB_lo hw hi
    have e2 := esB_hi hw hi
    have e3 := hw.2.2.2.1 i hi
    refine ⟨xst X 27 o 3 (.int (zi (mxF (fun _ => true) (fun t => esB b t + bD b t) 0 (i + 1)))), ⟨QS_27 hX, gi_h _ _ _ _ _, fun k o' s q => (xst_ne (fun e => q ⟨e.1, e.2.1⟩)).trans (f k o' s q)⟩, ?_⟩
    show b_Q_init_16 o 0 (zi (i : Nat)) X = b_Q_init_16 o 0 (zi ((i + 1 : Nat) : Int)) (xst X 27 o 3 (.int (zi (if true = true then imx (mxF (fun _ => true) (fun t => esB b t + bD b t) 0 i) (esB b i + bD b i) else _))))
    rw [if_pos rfl, e_b_Q_init_16, hX.2.2.1, if_pos (zi_ltn hi (by omega)), q_early hX hi, xret_I, xbI_r, gdc hX.1 (xain1 _), c_dur hX.1 hi, xret_I, xbI_r, zi_add, g, gd4 (xain4 _ _), s_max _ _ (by omega) (by omega) (by omega) (by omega), xret_I, xbI_r, zi_suc]
  · obtain ⟨hX, g, f⟩ := V
    have hX : QS X o b := hX
    have f : ∀ k o' s, ¬ (k = 27 ∧ o' = o) → X k o' s = xst (xst A 227 o 2 (.ref 1)) 227 o 0 (.ref 1) k o' s := f
    have fA : ∀ k o' s, k < 200 → k ≠ 27 → X k o' s = A k o' s := fun k o' s q1 q2 => by rw [f k o' s (fun e => q2 e.1), xst_ne (by omega), xst_ne (by omega)]
    have fN : ∀ k o' s, k < 200 → k ≠ 27 → gn X k o' s = gn A k o' s := fun k o' s q1 q2 => by unfold gn; rw [fA k o' s q1 q2]
    refine ⟨X, ?_, fun k o' s q => ?_, ⟨?_, ?_⟩, ⟨hX, g⟩, ?_, ?_, fun k o' s q q1 q2 => ?_⟩
    · show b_Q_init_16 o 0 (zi (nT b : Nat)) X = _
      rw [e_b_Q_init_16, hX.2.2.1, if_neg (zi_irr _)]
    · have := onLw_is q
      rw [f k o' s (by omega)]
      exact z3 k o' s q
    · rw [fN 100 0 0 (by decide) (by decide)]; exact rA.1
    · rw [fN 100 0 1 (by decide) (by decide)]; exact rA.2
    · rw [fN 101 27 0 (by decide) (by decide)]; exact cA27
    · rw [fN 101 28 0 (by decide) (by decide), hc]; exact cA28
    · rw [f k o' s (fun e => q1 e.1), xst_ne (by omega), xst_ne (by omega)]
      exact n2 k o' s q q1 q2
  · show gi (xst (xst (xst A 227 o 2 (.ref 1)) 227 o 0 (.ref 1)) 27 o 1 (.int (zi (nT b)))) 27 o 3 = 0
    rw [gi_s (by decide), gi_k (by decide), gi_k (by decide)]
    exact gA 3
/-- between two questions of the comparison -/
def onV (a k o s : Nat) : Bool := onBq a k o s || onYc k o
theorem V_B {a : Nat} {M M' : xM} (f : fz (onBq a) M M') : fz (onV a) M M' := fz_mono (fun k o s h => by unfold onV; rw [h]; rfl) f
theorem V_Y {a : Nat} {M M' : xM} (f : fr onYc M M') : fz (onV a) M M' := fz_mono (fun k o s h => by
  have h : onYc k o = true := h
  unfold onV; rw [h, Bool.or_true]) (fr_fz f)
theorem V_no {a k o s : Nat} (h1 : onBq a k o s = false) (h2 : onYc k o = false) : onV a k o s = false := by unfold onV; rw [h1, h2]; rfl
theorem QS_Y {M M' : xM} {o : Nat} {b : Nat → Int} (h : QS M o b) (f : fr onYc M M') : QS M' o b :=
  ⟨CI_Yc h.1 f, ⟨(fr_gn f (Yc_no (by omega)) 0).trans h.2.1.1, (fr_gn f (Yc_no (by omega)) 2).trans h.2.1.2⟩, (fr_gi f (Yc_no (by omega)) 1).trans h.2.2.1, h.2.2.2⟩
theorem QL_Y {M M' : xM} {o : Nat} {b : Nat → Int} (h : QL M o b) (f : fr onYc M M') : QL M' o b := ⟨QS_Y h.1 f, (fr_gi f (Yc_no (by omega)) 3).trans h.2⟩
theorem QP_Y {M M' : xM} {o : Nat} {b : Nat → Int} {P : Nat → Bool} {s : Nat → Int} (h : QP M o b P s) (f : fr onYc M M') : QP M' o b P s := fun t ht => ⟨(fr_gi f (Yc_no (by omega)) t).trans (h t ht).1, (h t ht).2⟩
def AG (M N : xM) (o : Nat) (b : Nat → Int) : Prop := QL N o b ∧ QP N o b (allT b) (stB b) ∧ fz (onV o) M N ∧ RO M N 128 1536
theorem AG_Y {M N N' : xM} {o : Nat} {b : Nat → Int} (h : AG M N o b) (f : fr onYc N N') : AG M N' o b :=
  ⟨QL_Y h.1 f, QP_Y h.2.1 f, fz_trans h.2.2.1 (V_Y f), RO_le (RO_trans h.2.2.2 (RO_fr f (Yc_no (by omega)))) (by decide) (by decide)⟩
theorem upI_self (b : Nat → Int) (k : Nat) : upI b k (b k) = b := by
  funext i
  unfold upI
  split
  · next e => rw [e]
  · rfl
