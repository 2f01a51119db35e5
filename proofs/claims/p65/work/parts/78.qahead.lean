/-! which task goes ahead: the arrays that are made on the way -/
theorem xgdF_lt {M M' : xM} {k : Nat} (h : ∀ o f, gn M' (200 + k) o f = gn M (200 + k) o f) (o : Nat) : ∀ (L : List (Nat × Nat × Nat)) (f : Nat), xgdF M' k o L f = xgdF M k o L f := by
  intro L
  induction L with
  | nil => intro f; rfl
  | cons q r ih =>
    intro f
    obtain ⟨t, q2⟩ := q
    unfold xgdF
    rw [ih (f + 1), h o f]
theorem xgdA_lt {M M' : xM} {k : Nat} (h : ∀ o f, gn M' (200 + k) o f = gn M (200 + k) o f) (o : Nat) : ∀ n, xgdA M' k o n = xgdA M k o n := by
  intro n
  induction n with
  | zero => rfl
  | succ n ih =>
    unfold xgdA
    rw [ih, h o n]
def onA (k o _s : Nat) : Bool := (Nat.beq k 29 || Nat.beq k 229) || ((Nat.beq k 101 && Nat.beq o 29) || Nat.beq k 100)
theorem onA_no {k o s : Nat} (h1 : k ≠ 29) (h2 : k ≠ 229) (h3 : k ≠ 101 ∨ o ≠ 29) (h4 : k ≠ 100) : onA k o s = false := by
  unfold onA
  rw [beq_ff h1, beq_ff h2, beq_ff h4]
  rcases h3 with h3 | h3
  · rw [beq_ff h3]; rfl
  · rw [beq_ff h3, Bool.and_false]; rfl
theorem onA_is {k o s : Nat} (h : onA k o s = false) : k ≠ 29 ∧ k ≠ 229 ∧ ¬ (k = 101 ∧ o = 29) ∧ k ≠ 100 := by
  refine ⟨fun e => ?_, fun e => ?_, fun e => ?_, fun e => ?_⟩
  · subst e; exact nomatch (show true = false from h)
  · subst e; exact nomatch (show true = false from h)
  · obtain ⟨rfl, rfl⟩ := e; exact nomatch (show true = false from h)
  · subst e; exact nomatch (show true = false from h)
theorem A_new (M : xM) (n : Nat) : fz onA M (xnew M 29 n) := fun k o s q => by
  obtain ⟨h1, h2, h3, h4⟩ := onA_is q
  unfold xnew xbump xst xclr
  rw [if_neg (fun e => h4 e.1), if_neg (fun e => h4 e.1), if_neg (fun e => h3 ⟨e.1, e.2.1⟩), if_neg (fun e => e.1.elim h1 h2)]
theorem A_N {a : Nat} {M M' : xM} (f : fr (onN a) M M') : fz onA M M' := fun k o s q => by
  refine f k o s (onN_no (onA_is q).1)
theorem good_A {M M' : xM} (f : fz onA M M') (h : xgood (xsl 0) M = true) : xgood (xsl 0) M' = true := by
  have hL : (xsl 0).all (fun q => Nat.blt q.1 27) = true := by decide +kernel
  unfold xgood at h ⊢
  refine List.all_eq_true.mpr (fun q hq => ?_)
  have g1 := List.all_eq_true.mp h q hq
  have l : q.1 < 27 := Nat.le_of_ble_eq_true (List.all_eq_true.mp hL q hq)
  have e1 : gn M' 101 q.1 0 = gn M 101 q.1 0 := fz_gn f (onA_no (by decide) (by decide) (Or.inr (by omega)) (by decide))
  have e2 : ∀ o f', gn M' (200 + q.1) o f' = gn M (200 + q.1) o f' := fun o f' => fz_gn f (onA_no (by omega) (by omega) (Or.inl (by omega)) (by omega))
  rw [e1, xgdF_lt e2, xgdA_lt e2]
  exact g1
theorem CI_A {M M' : xM} {b : Nat → Int} (h : CI M b) (f : fz onA M M') : CI M' b := by
  obtain ⟨h1, h2, h3, c, w, h4, h5, h6, h7⟩ := h
  exact ⟨h1, CP_fz h2 f (fun k s a d => onA_no (by omega) (by omega) (Or.inl (by omega)) (by omega)), good_A f h3, c, w, h4, h5, (fz_gi f rfl).trans h6, (fz_gi f rfl).trans h7⟩
theorem QS_A {M M' : xM} {o : Nat} {b : Nat → Int} (h : QS M o b) (f : fz onA M M') : QS M' o b := ⟨CI_A h.1 f, ⟨(fz_gn f (onA_no (by decide) (by decide) (Or.inl (by decide)) (by decide))).trans h.2.1.1, (fz_gn f (onA_no (by decide) (by decide) (Or.inl (by decide)) (by decide))).trans h.2.1.2⟩, (fz_gi f (onA_no (by decide) (by decide) (Or.inl (by decide)) (by decide))).trans h.2.2.1, h.2.2.2⟩
theorem QL_A {M M' : xM} {o : Nat} {b : Nat → Int} (h : QL M o b) (f : fz onA M M') : QL M' o b := ⟨QS_A h.1 f, (fz_gi f (onA_no (by decide) (by decide) (Or.inl (by decide)) (by decide))).trans h.2⟩
theorem QP_A {M M' : xM} {o : Nat} {b : Nat → Int} {P : Nat → Bool} {s : Nat → Int} (h : QP M o b P s) (f : fz onA M M') : QP M' o b P s := fun t ht => ⟨(fz_gi f (onA_no (by decide) (by decide) (Or.inl (by decide)) (by decide))).trans (h t ht).1, (h t ht).2⟩
/-- how much room went -/
def RO (M M1 : xM) (α β : Nat) : Prop := gn M1 100 0 0 ≤ gn M 100 0 0 + α ∧ gn M1 100 0 1 ≤ gn M 100 0 1 + β
theorem RO_refl (M : xM) : RO M M 0 0 := ⟨Nat.le_refl _, Nat.le_refl _⟩
theorem RO_trans {M M1 M2 : xM} {a c a2 c2 : Nat} (h : RO M M1 a c) (h2 : RO M1 M2 a2 c2) : RO M M2 (a + a2) (c + c2) := ⟨by have := h.1; have := h2.1; omega, by have := h.2; have := h2.2; omega⟩
theorem RO_le {M M1 : xM} {a c a2 c2 : Nat} (h : RO M M1 a c) (h1 : a ≤ a2) (h2 : c ≤ c2) : RO M M1 a2 c2 := ⟨by have := h.1; omega, by have := h.2; omega⟩
theorem RO_fr {K : Nat → Nat → Bool} {M M1 : xM} (f : fr K M M1) (hK : K 100 0 = false) : RO M M1 0 0 := ⟨Nat.le_of_eq (fr_gn f hK 0), Nat.le_of_eq (fr_gn f hK 1)⟩
theorem RO_new {M : xM} {k n : Nat} (hk : k < 60) : RO M (xnew M k n) 1 n := ⟨Nat.le_of_eq (xnew_cells hk), Nat.le_of_eq (xnew_slots hk)⟩
theorem SE_new (M : xM) : SE (xnew M 29 12) (gn M 101 29 0) (fun _ => false) := fun k _ => (xnew_def (M := M) (k := 29) (n := 12) (f := k) (by decide)).1
/-! another rule -/
theorem r0_T (b : Nat → Int) (v : Int) : nT (upI b 0 v) = nT b := by unfold nT; rw [upI_n (by decide)]
theorem r0_R (b : Nat → Int) (v : Int) : nR (upI b 0 v) = nR b := by unfold nR; rw [upI_n (by decide)]
theorem r0_D (b : Nat → Int) (v : Int) : bD (upI b 0 v) = bD b := by funext t; unfold bD; rw [upI_n (by omega)]
theorem r0_E (b : Nat → Int) (v : Int) : bE (upI b 0 v) = bE b := by funext t; unfold bE; rw [upI_n (by omega)]
theorem r0_U (b : Nat → Int) (v : Int) : bU (upI b 0 v) = bU b := by funext t r; unfold bU; rw [upI_n (by omega)]
theorem r0_C (b : Nat → Int) (v : Int) : bC (upI b 0 v) = bC b := by funext r; unfold bC; rw [upI_n (by omega)]
theorem r0_L (b : Nat → Int) (v : Int) : bL (upI b 0 v) = bL b := by funext f t; unfold bL; rw [upI_n (by omega)]
theorem r0_ls (b : Nat → Int) (v : Int) : lsB (upI b 0 v) = lsB b := by funext t; unfold lsB etB; rw [r0_T, r0_L, r0_D, r0_E]
theorem r0_el (b : Nat → Int) (v : Int) : elS (upI b 0 v) = elS b := by funext P t; unfold elS; rw [r0_T, r0_L]
theorem r0_rd (b : Nat → Int) (v : Int) : rdS (upI b 0 v) = rdS b := by funext s t; unfold rdS; rw [r0_T, r0_L, r0_D, r0_E]
theorem r0_fit (b : Nat → Int) (v : Int) : fitS (upI b 0 v) = fitS b := by
  funext P s t x
  unfold fitS freeS ldS
  have : ∀ r, ldU (upI b 0 v) (but P t) s r = ldU b (but P t) s r := fun r => by
    funext x y
    unfold ldU
    rw [r0_D, r0_U]
  simp only [r0_T, r0_R, r0_D, r0_U, r0_C, this]
theorem keyS_0 {b : Nat → Int} {v : Int} : keyS (upI b 0 v) = fun t => if v = 1 then lsB b t else if v = 2 then - bD b t else if v = 3 then - (cnt (fun x => aft (nT b) (bL b) t x) (nT b) : Nat) else 0 := by
  funext t
  unfold keyS
  rw [upI_h, r0_ls, r0_D, r0_T, r0_L]
theorem q_isAhead {M : xM} {o : Nat} {b : Nat → Int} {v : Int} (h : QL M o b) (hv : 0 ≤ v ∧ v ≤ 3) {k l : Nat} (hk : k < nT b) (hl : l < nT b) : ∃ M1, m_Q_isAhead o (zi v) (zi (k : Nat)) (zi (l : Nat)) M = rI (bz (decide (keyS (upI b 0 v) k < keyS (upI b 0 v) l))) M1 ∧ fz onA M M1 ∧ RO M M1 2 24 := by
  have hw := h.1.1.1.1
  have hn := CI_n h.1.1
  have t2 := etB_hi hw
  rw [e_m_Q_isAhead, keyS_0]
  have v4 : v = 0 ∨ v = 1 ∨ v = 2 ∨ v = 3 := by omega
  rcases v4 with rfl | rfl | rfl | rfl
  · refine ⟨M, ?_, fz_refl M, RO_le (RO_refl M) (by decide) (by decide)⟩
    rw [if_neg (by decide), if_neg (by decide), if_neg (by decide), xnar_0]
    rfl
  · have a1 := esB_lo hw hk
    have a2 := lsB_lo hw hk
    have a3 := lsB_hi hw hk
    have a4 := hw.2.2.2.1 k hk
    have b1 := esB_lo hw hl
    have b2 := lsB_lo hw hl
    have b3 := lsB_hi hw hl
    have b4 := hw.2.2.2.1 l hl
    refine ⟨M, ?_, fz_refl M, RO_le (RO_refl M) (by decide) (by decide)⟩
    rw [if_pos (by rfl), q_late h hk, xret_I, xbI_r, q_late h hl, xret_I, xbI_r, zif (by omega) (by omega) (by omega) (by omega), xnar_1, xnar_0]
    show _ = rI (bz (decide (lsB b k < lsB b l))) M
    by_cases c : lsB b k < lsB b l
    · rw [if_pos c, decide_eq_true c]
    · rw [if_neg c, decide_eq_false c]
  · have a4 := hw.2.2.2.1 k hk
    have b4 := hw.2.2.2.1 l hl
    refine ⟨M, ?_, fz_refl M, RO_le (RO_refl M) (by decide) (by decide)⟩
    rw [if_neg (by decide), if_pos (by rfl), if_pos h.1.2.1.1, gdc h.1.1 (xain1 _), c_dur h.1.1 hk, xret_I, xbI_r, if_pos h.1.2.1.1, gdc h.1.1 (xain1 _), c_dur h.1.1 hl, xret_I, xbI_r, zif (by omega) (by omega) (by omega) (by omega), xnar_1, xnar_0]
    show _ = rI (bz (decide (- bD b k < - bD b l))) M
    by_cases c : bD b l < bD b k
    · rw [if_pos c, decide_eq_true (by omega)]
    · rw [if_neg c, decide_eq_false (by omega)]
  · have c1 := cnt_le (fun x => aft (nT b) (bL b) k x) (nT b)
    have c2 := cnt_le (fun x => aft (nT b) (bL b) l x) (nT b)
    obtain ⟨M1, e1, f1⟩ := q_after (QS_A h.1 (A_new M 12)) hk (SE_new M)
    have g1 : fz onA M M1 := fz_trans (A_new M 12) (A_N f1)
    obtain ⟨M2, e2, f2⟩ := q_after (QS_A h.1 (fz_trans g1 (A_new M1 12))) hl (SE_new M1)
    have r1 := RO_trans (RO_new (M := M) (k := 29) (n := 12) (by decide)) (RO_fr f1 (onN_no (by decide)))
    have r2 := RO_trans (RO_new (M := M1) (k := 29) (n := 12) (by decide)) (RO_fr f2 (onN_no (by decide)))
    refine ⟨M2, ?_, fz_trans g1 (fz_trans (A_new M1 12) (A_N f2)), RO_trans r1 r2⟩
    rw [if_neg (by decide), if_neg (by decide), if_pos (by rfl), if_pos (by rfl), e1, xret_I, xbI_r, if_pos (by rfl), e2, xret_I, xbI_r, zif (by omega) (by omega) (by omega) (by omega), xnar_1, xnar_0]
    show _ = rI (bz (decide (- ((cnt (fun x => aft (nT b) (bL b) k x) (nT b) : Nat) : Int) < - ((cnt (fun x => aft (nT b) (bL b) l x) (nT b) : Nat) : Int)))) M2
    by_cases c : ((cnt (fun x => aft (nT b) (bL b) l x) (nT b) : Nat) : Int) < ((cnt (fun x => aft (nT b) (bL b) k x) (nT b) : Nat) : Int)
    · rw [if_pos c, decide_eq_true (by omega)]
    · rw [if_neg c, decide_eq_false (by omega)]
