/-! writing the schedule: the text, as the reference writes it -/
abbrev Wx := Nat × (Nat → Int32)
def wx0 : Wx := (0, fun _ => 0)
def wxp (T : Wx) (x : Int32) : Wx := (T.1 + 1, fun i => if i = T.1 then x else T.2 i)
def wxd (T : Wx) (x : Nat) : Wx := if x < 10 then wxp T (zi ((48 + x % 10 : Nat) : Int)) else if x < 100 then wxp (wxp T (zi ((48 + x / 10 % 10 : Nat) : Int))) (zi ((48 + x % 10 : Nat) : Int)) else wxp (wxp (wxp T (zi ((48 + x / 100 % 10 : Nat) : Int))) (zi ((48 + x / 10 % 10 : Nat) : Int))) (zi ((48 + x % 10 : Nat) : Int))
def wxn (b : Nat → Int) (a : Nat) (T : Wx) (n : Nat) : Wx := match n with
  | 0 => T
  | n + 1 => wxp (wxn b a T n) (zi (b (a + 1 + n)))
def wxb (T : Wx) : Wx := if T.1 = 0 then T else wxp T 32
def wxt (b : Nat → Int) (T : Wx) (t : Nat) : Wx := wxn b (28 + 12 * t) (wxb T) (b (28 + 12 * t)).toNat
def wxe (b : Nat → Int) (T : Wx) (t : Nat) : Wx := wxd (wxp (wxd (wxp T 58) (stB b t).toNat) 45) (stB b t + bD b t).toNat
def wxk (b : Nat → Int) (T : Wx) (t : Nat) : Wx := if lsB b t = esB b t then wxp (wxe b (wxt b T t) t) 42 else wxe b (wxt b T t) t
def wxr (b : Nat → Int) (d : Nat) (T : Wx) (k : Nat) : Wx := match k with
  | 0 => T
  | k + 1 => if stB b k = (d : Int) then wxk b (wxr b d T k) k else wxr b d T k
def wxy (b : Nat → Int) (d : Nat) : Wx := match d with
  | 0 => wx0
  | d + 1 => wxr b d (wxy b d) (nT b)
theorem wxd_len (T : Wx) (x : Nat) : T.1 + 1 ≤ (wxd T x).1 ∧ (wxd T x).1 ≤ T.1 + 3 := by
  unfold wxd
  by_cases c : x < 10
  · rw [if_pos c]; exact ⟨Nat.le_refl _, by show T.1 + 1 ≤ _; omega⟩
  · rw [if_neg c]
    by_cases d : x < 100
    · rw [if_pos d]; exact ⟨by show _ ≤ T.1 + 1 + 1; omega, by show T.1 + 1 + 1 ≤ _; omega⟩
    · rw [if_neg d]; exact ⟨by show _ ≤ T.1 + 1 + 1 + 1; omega, by show T.1 + 1 + 1 + 1 ≤ _; omega⟩
theorem wxn_len (b : Nat → Int) (a : Nat) (T : Wx) (n : Nat) : (wxn b a T n).1 = T.1 + n := by
  induction n with
  | zero => rfl
  | succ n ih => show (wxn b a T n).1 + 1 = _; omega
theorem wxb_len (T : Wx) : T.1 ≤ (wxb T).1 ∧ (wxb T).1 ≤ T.1 + 1 := by
  unfold wxb
  by_cases c : T.1 = 0
  · rw [if_pos c]; omega
  · rw [if_neg c]; exact ⟨by show _ ≤ T.1 + 1; omega, Nat.le_refl _⟩
theorem wxt_len {b : Nat → Int} (T : Wx) {t : Nat} (h : nmB b (28 + 12 * t)) : T.1 ≤ (wxt b T t).1 ∧ (wxt b T t).1 ≤ T.1 + 7 := by
  have a := wxb_len T
  have c := wxn_len b (28 + 12 * t) (wxb T) (b (28 + 12 * t)).toNat
  have := h.1
  unfold wxt
  omega
theorem wxe_len (b : Nat → Int) (T : Wx) (t : Nat) : T.1 ≤ (wxe b T t).1 ∧ (wxe b T t).1 ≤ T.1 + 8 := by
  have a := wxd_len (wxp T 58) (stB b t).toNat
  have c := wxd_len (wxp (wxd (wxp T 58) (stB b t).toNat) 45) (stB b t + bD b t).toNat
  have e1 : (wxp T 58).1 = T.1 + 1 := rfl
  have e2 : (wxp (wxd (wxp T 58) (stB b t).toNat) 45).1 = (wxd (wxp T 58) (stB b t).toNat).1 + 1 := rfl
  unfold wxe
  omega
theorem wxk_len {b : Nat → Int} (T : Wx) {t : Nat} (h : nmB b (28 + 12 * t)) : T.1 ≤ (wxk b T t).1 ∧ (wxk b T t).1 ≤ T.1 + 16 := by
  have a := wxt_len T h
  have c := wxe_len b (wxt b T t) t
  unfold wxk
  by_cases e : lsB b t = esB b t
  · rw [if_pos e]
    have : (wxp (wxe b (wxt b T t) t) 42).1 = (wxe b (wxt b T t) t).1 + 1 := rfl
    omega
  · rw [if_neg e]; omega
def wxP (b : Nat → Int) (d k : Nat) : Nat → Bool := fun t => decide (stB b t < (d : Int)) || (decide (stB b t = (d : Int)) && decide (t < k))
theorem wxP_s {b : Nat → Int} {d k : Nat} (hk : k < nT b) : cnt (wxP b d k) (nT b) + (if stB b k = (d : Int) then 1 else 0) ≤ cnt (wxP b d (k + 1)) (nT b) := by
  have mono : ∀ i, wxP b d k i = true → wxP b d (k + 1) i = true := fun i h => by
    unfold wxP at h ⊢
    rw [Bool.or_eq_true, Bool.and_eq_true, decide_eq_true_iff, decide_eq_true_iff, decide_eq_true_iff] at h ⊢
    omega
  by_cases c : stB b k = (d : Int)
  · rw [if_pos c]
    refine cnt_lt (j := k) (fun i _ h => mono i h) hk ?_ ?_
    · unfold wxP
      rw [decide_eq_false (by omega), decide_eq_false (show ¬ k < k by omega), Bool.and_false]; rfl
    · unfold wxP
      rw [decide_eq_true c, decide_eq_true (show k < k + 1 by omega), Bool.and_true, Bool.or_true]
  · rw [if_neg c]
    exact cnt_mono (fun i _ h => mono i h)
theorem wxP_d {b : Nat → Int} {d : Nat} : cnt (wxP b d (nT b)) (nT b) ≤ cnt (wxP b (d + 1) 0) (nT b) := cnt_mono (fun i hi h => by
  unfold wxP at h ⊢
  rw [Bool.or_eq_true, Bool.and_eq_true, decide_eq_true_iff, decide_eq_true_iff, decide_eq_true_iff] at h ⊢
  omega)
theorem wxr_len {b : Nat → Int} (hm : ∀ t, t < nT b → nmB b (28 + 12 * t)) {d : Nat} {T : Wx} (h0 : T.1 ≤ 16 * cnt (wxP b d 0) (nT b)) : ∀ k, k ≤ nT b → (wxr b d T k).1 ≤ 16 * cnt (wxP b d k) (nT b) := by
  intro k
  induction k with
  | zero => intro _; exact h0
  | succ k ih =>
    intro hk
    have i1 := ih (by omega)
    have i2 := wxP_s (b := b) (d := d) (k := k) (by omega)
    have i3 := wxk_len (wxr b d T k) (hm k (by omega))
    unfold wxr
    by_cases c : stB b k = (d : Int)
    · rw [if_pos c] at i2 ⊢; omega
    · rw [if_neg c] at i2 ⊢; omega
theorem wxy_len {b : Nat → Int} (hm : ∀ t, t < nT b → nmB b (28 + 12 * t)) : ∀ d, (wxy b d).1 ≤ 16 * cnt (wxP b d 0) (nT b) := by
  intro d
  induction d with
  | zero => exact Nat.zero_le _
  | succ d ih =>
    have a := wxr_len hm ih (nT b) (Nat.le_refl _)
    have c := wxP_d (b := b) (d := d)
    show (wxr b d (wxy b d) (nT b)).1 ≤ _
    omega
theorem wx_bd {b : Nat → Int} (hm : ∀ t, t < nT b → nmB b (28 + 12 * t)) (hn : nT b ≤ 12) (d k : Nat) (hk : k < nT b) : (wxr b d (wxy b d) k).1 + (if stB b k = (d : Int) then 16 else 0) ≤ 192 := by
  have a := wxr_len hm (wxy_len hm d) k (by omega)
  have c := wxP_s (b := b) (d := d) (k := k) hk
  have e := cnt_le (wxP b d (k + 1)) (nT b)
  by_cases q : stB b k = (d : Int)
  · rw [if_pos q] at c ⊢; omega
  · rw [if_neg q] at c ⊢; omega
theorem wx_all {b : Nat → Int} (hm : ∀ t, t < nT b → nmB b (28 + 12 * t)) (hn : nT b ≤ 12) (d : Nat) : (wxy b d).1 ≤ 192 := by
  have a := wxy_len hm d
  have e := cnt_le (wxP b d 0) (nT b)
  omega
/-! the reference -/
def onWt (k o s : Nat) : Bool := Nat.beq o 0 && (Nat.beq k 31 || (Nat.beq k 27 && Nat.beq s 8))
def RWx (N : xM) (T : Wx) : Prop := gi N 27 0 8 = zi (T.1 : Nat) ∧ ∀ i, i < T.1 → gi N 31 0 i = T.2 i
theorem r_ptc {N : xM} {T : Wx} (h : RWx N T) (hl : T.1 < 220) (x : Int32) : ∃ N', m_M_put 0 x N = rV N' ∧ fz onWt N N' ∧ RWx N' (wxp T x) := by
  refine ⟨xst (xst N 31 0 T.1 (.int x)) 27 0 8 (.int (zi ((T.1 + 1 : Nat) : Int))), ?_, fz_step (fz_st rfl) rfl, gi_h _ _ _ _ _, fun i hi => ?_⟩
  · rw [e_m_M_put, h.1, xck_n hl (by decide), zix (by omega), zi_suc]
  · show gi (xst (xst N 31 0 T.1 (.int x)) 27 0 8 (.int (zi ((T.1 + 1 : Nat) : Int)))) 31 0 i = if i = T.1 then x else T.2 i
    rw [gi_k (by decide)]
    by_cases c : i = T.1
    · subst c; rw [if_pos rfl, gi_h]
    · rw [if_neg c, gi_s c]
      exact h.2 i (by have : i < T.1 + 1 := hi; omega)
theorem dgq {x v : Nat} (hx : x < 1000) (hv : 0 < v) (hv2 : v < 10000) : zi (x : Nat) / zi (v : Nat) = zi ((x / v : Nat) : Int) := by
  rw [zi_div (by omega) (by omega) (by omega) (by omega)]
  exact congrArg zi rfl
theorem dg {x v : Nat} (hx : x < 1000) (hv : 0 < v) (hv2 : v < 10000) : (48 : Int32) + ((zi (x : Nat) / zi (v : Nat)) - (zi (x : Nat) / zi (v : Nat)) / 10 * 10) = zi ((48 + x / v % 10 : Nat) : Int) := by
  have hq : x / v ≤ x := Nat.div_le_self x v
  rw [dgq hx hv hv2]
  generalize x / v = y at hq ⊢
  rw [zi_10, zi_div (by omega) (by omega) (by decide) (by decide), zi_mul, zi_sub, show (48 : Int32) = zi 48 from rfl, zi_add]
  exact congrArg zi (by omega)
theorem pn14 {N : xM} {T : Wx} (h : RWx N T) (hl : T.1 < 220) {x v : Nat} (hx : x < 1000) (hv : 0 < v) (hv2 : v < 10000) : ∃ N', b_M_putNumber_14 0 (zi (x : Nat)) (zi (v : Nat)) N = b_M_putNumber_14 0 (zi (x : Nat)) (zi ((v / 10 : Nat) : Int)) N' ∧ fz onWt N N' ∧ RWx N' (wxp T (zi ((48 + x / v % 10 : Nat) : Int))) := by
  obtain ⟨N', e, f, r⟩ := r_ptc h hl (zi ((48 + x / v % 10 : Nat) : Int))
  refine ⟨N', ?_, f, r⟩
  rw [e_b_M_putNumber_14, zi_00, if_pos (zi_ltz (x := 0) (y := (v : Int)) (by omega) (by decide) (by omega)), if_neg (fun q => by rw [zi_eq (by omega) (by omega) (by decide) (by decide)] at q; omega), if_neg (by decide), dg hx hv hv2, e, xbV_r, if_neg (by decide), zi_10, zi_div (by omega) (by omega) (by decide) (by decide)]
  exact congrArg (fun z => b_M_putNumber_14 0 (zi (x : Nat)) (zi z) N') rfl
theorem pn0 (x : Int32) (N : xM) : b_M_putNumber_14 0 x (zi ((0 : Nat) : Int)) N = rV N := by
  rw [e_b_M_putNumber_14, if_neg (show ¬ (0 : Int32) < zi ((0 : Nat) : Int) from zi_irr 0)]
theorem pn3 {N : xM} {x v : Nat} (hx : x < 1000) (hv : 0 < v) (hv2 : v < 1000) : b_M_putNumber_3 0 (zi (x : Nat)) (zi (v : Nat)) N = if x / v < 10 then b_M_putNumber_14 0 (zi (x : Nat)) (zi (v : Nat)) N else b_M_putNumber_3 0 (zi (x : Nat)) (zi ((v * 10 : Nat) : Int)) N := by
  have hq : x / v ≤ x := Nat.div_le_self x v
  rw [e_b_M_putNumber_3, zi_00, if_neg (fun q => by rw [zi_eq (by omega) (by omega) (by decide) (by decide)] at q; omega), dgq hx hv (by omega)]
  generalize x / v = y at hq ⊢
  rw [zi_10, zif (by omega) (by omega) (by decide) (by decide), zi_mul]
  by_cases c : y < 10
  · rw [if_pos c, if_pos (by omega)]
  · rw [if_neg c, if_neg (by omega)]
    exact congrArg (fun z => b_M_putNumber_3 0 (zi (x : Nat)) (zi z) N) (by omega)
theorem r_num {N : xM} {T : Wx} (h : RWx N T) (hl : T.1 + 3 ≤ 220) {x : Nat} (hx : x < 1000) : ∃ N', m_M_putNumber 0 (zi (x : Nat)) N = rV N' ∧ fz onWt N N' ∧ RWx N' (wxd T x) := by
  have s1 : b_M_putNumber_3 0 (zi (x : Nat)) 1 N = _ := pn3 (N := N) (v := 1) hx (by decide) (by decide)
  have s2 := pn3 (N := N) (v := 1 * 10) hx (by decide) (by decide)
  have s3 := pn3 (N := N) (v := 1 * 10 * 10) hx (by decide) (by decide)
  rw [e_m_M_putNumber, s1]
  unfold wxd
  by_cases c : x < 10
  · rw [if_pos (show x / 1 < 10 by omega), if_pos c]
    obtain ⟨N1, e1, f1, r1⟩ := pn14 h (by omega) (v := 1) hx (by decide) (by decide)
    rw [e1]
    refine ⟨N1, pn0 _ _, f1, ?_⟩
    rw [Nat.div_one] at r1
    exact r1
  · rw [if_neg (show ¬ x / 1 < 10 by omega), if_neg c, s2]
    by_cases d : x < 100
    · rw [if_pos (show x / (1 * 10) < 10 by omega), if_pos d]
      obtain ⟨N1, e1, f1, r1⟩ := pn14 h (by omega) (v := 10) hx (by decide) (by decide)
      obtain ⟨N2, e2, f2, r2⟩ := pn14 r1 (by show T.1 + 1 < 220; omega) (v := 1) hx (by decide) (by decide)
      rw [Nat.div_one] at r2
      exact ⟨N2, (e1.trans e2).trans (pn0 _ _), fz_trans f1 f2, r2⟩
    · rw [if_neg (show ¬ x / (1 * 10) < 10 by omega), if_neg d, s3, if_pos (show x / (1 * 10 * 10) < 10 by omega)]
      obtain ⟨N1, e1, f1, r1⟩ := pn14 h (by omega) (v := 100) hx (by decide) (by decide)
      obtain ⟨N2, e2, f2, r2⟩ := pn14 r1 (by show T.1 + 1 < 220; omega) (v := 10) hx (by decide) (by decide)
      obtain ⟨N3, e3, f3, r3⟩ := pn14 r2 (by show T.1 + 1 + 1 < 220; omega) (v := 1) hx (by decide) (by decide)
      rw [Nat.div_one] at r3
      exact ⟨N3, ((e1.trans e2).trans e3).trans (pn0 _ _), fz_trans (fz_trans f1 f2) f3, r3⟩
/-- what the reference reads while it writes -/
def RWs (N : xM) (b : Nat → Int) : Prop := RB N b ∧ RD N b ∧ SP N b (allT b) (stB b)
theorem RWs_f {N N' : xM} {b : Nat → Int} (h : RWs N b) (f : fz onWt N N') : RWs N' b := ⟨RB_fz h.1 f (fun _ => rfl), ⟨(fz_gi f rfl).trans h.2.1.1, fun t ht => ⟨(fz_gi f rfl).trans (h.2.1.2 t ht).1, (fz_gi f rfl).trans (h.2.1.2 t ht).2⟩⟩, fun t ht => ⟨(fz_gi f rfl).trans (h.2.2 t ht).1, (h.2.2 t ht).2⟩⟩
theorem r_task {N : xM} {b : Nat → Int} {T : Wx} (h : RWs N b) (hw : wF b) {t : Nat} (ht : t < nT b) (r : RWx N T) (hl : T.1 + 16 ≤ 220) : ∃ N', m_M_putTask 0 (zi (t : Nat)) N = rV N' ∧ fz onWt N N' ∧ RWx N' (wxk b T t) := by
  have hn := wS_n hw.1
  have nm := hw.2.2.1 t ht
  obtain ⟨n1, n2⟩ := nm
  have sb := stB_ok hw.1 ht
  have mk := (mkB_ok hw.1).2
  have bd := hw.1.2.2.2.1 t ht
  have wb := wxb_len T
  -- the blank
  have A : ∃ N1, m_M_putTask 0 (zi (t : Nat)) N = b_M_putTask_9 0 (zi (t : Nat)) 0 N1 ∧ fz onWt N N1 ∧ RWx N1 (wxb T) := by
    rw [e_m_M_putTask, r.1, zi_00]
    unfold wxb
    by_cases c : T.1 = 0
    · rw [if_neg (fun q => by rw [zi_lt (by omega) (by omega) (by omega) (by omega)] at q; omega), if_pos c]
      exact ⟨N, rfl, fz_refl N, r⟩
    · rw [if_pos (zi_ltz (x := 0) (by omega) (by decide) (by omega)), if_neg c]
      obtain ⟨N1, e1, f1, r1⟩ := r_ptc r (by omega) 32
      exact ⟨N1, by rw [e1, xbV_r], f1, r1⟩
  obtain ⟨N1, e1, f1, r1⟩ := A
  rw [e1]
  refine lpM (B := fun i N' => b_M_putTask_9 0 (zi (t : Nat)) (zi (i : Nat)) N') (n := (b (28 + 12 * t)).toNat) (fun i N' => fz onWt N N' ∧ RWx N' (wxn b (28 + 12 * t) (wxb T) i)) (fun q => ∃ N', q = rV N' ∧ fz onWt N N' ∧ RWx N' (wxk b T t)) (fun i N' hi ⟨f, g⟩ => ?_) (fun N' ⟨f, g⟩ => ?_) 0 N1 (Nat.zero_le _) ⟨f1, r1⟩
  · have hS := RWs_f h f
    have ln := wxn_len b (28 + 12 * t) (wxb T) i
    obtain ⟨N2, e2, f2, r2⟩ := r_ptc g (by omega) (zi (b (28 + 12 * t + 1 + i)))
    refine ⟨N2, ⟨fz_trans f f2, r2⟩, ?_⟩
    show b_M_putTask_9 0 (zi (t : Nat)) (zi (i : Nat)) N' = b_M_putTask_9 0 (zi (t : Nat)) (zi ((i + 1 : Nat) : Int)) N2
    have o0 := r_of hS.1 (t := t) (w := 0) (by omega) (by decide)
    have o1 := r_of hS.1 (t := t) (w := 1 + i) (by omega) (by omega)
    rw [e_b_M_putTask_9, zi_00, show (0 : Int) = ((0 : Nat) : Int) from rfl, o0, xbI_r, Nat.add_zero, zif (by omega) (by omega) (by omega) (by omega), if_pos (by omega), zi_01, zi_add, show (1 : Int) + (i : Int) = ((1 + i : Nat) : Int) by omega, o1, xbI_r, show 28 + 12 * t + (1 + i) = 28 + 12 * t + 1 + i by omega, e2, xbV_r, show ((i + 1 : Nat) : Int) = (i : Int) + 1 by omega, ← zi_add]
  · have g : RWx N' (wxt b T t) := g
    have wt := wxt_len T (hw.2.2.1 t ht)
    have hS := RWs_f h f
    have e0 : ((b (28 + 12 * t)).toNat : Int) = b (28 + 12 * t) := by omega
    have o0 := r_of hS.1 (t := t) (w := 0) (by omega) (by decide)
    have st : (stB b t : Int) = (((stB b t).toNat : Nat) : Int) := by omega
    have fn : (stB b t + bD b t : Int) = (((stB b t + bD b t).toNat : Nat) : Int) := by omega
    obtain ⟨X1, x1, g1, p1⟩ := r_ptc g (by omega) 58
    have l1 : (wxp (wxt b T t) 58).1 = (wxt b T t).1 + 1 := rfl
    obtain ⟨X2, x2, g2, p2⟩ := r_num p1 (by omega) (x := (stB b t).toNat) (by omega)
    have l2 := wxd_len (wxp (wxt b T t) 58) (stB b t).toNat
    obtain ⟨X3, x3, g3, p3⟩ := r_ptc p2 (by omega) 45
    have l3 : (wxp (wxd (wxp (wxt b T t) 58) (stB b t).toNat) 45).1 = (wxd (wxp (wxt b T t) 58) (stB b t).toNat).1 + 1 := rfl
    obtain ⟨X4, x4, g4, p4⟩ := r_num p3 (by omega) (x := (stB b t + bD b t).toNat) (by omega)
    have p4 : RWx X4 (wxe b (wxt b T t) t) := p4
    have l4 := wxe_len b (wxt b T t) t
    have S1 := RWs_f hS g1
    have S3 := RWs_f (RWs_f S1 g2) g3
    have S4 := RWs_f S3 g4
    have F : fz onWt N X4 := fz_trans (fz_trans (fz_trans (fz_trans f g1) g2) g3) g4
    have el := esB_lo hw.1 ht
    have eh := esB_hi hw.1 ht
    have ll := lsB_lo hw.1 ht
    have lh := lsB_hi hw.1 ht
    have eh2 := etB_hi hw.1
    have hd : b_M_putTask_9 0 (zi (t : Nat)) (zi ((b (28 + 12 * t)).toNat : Nat)) N' = if gi X4 34 0 (ix (zi (t : Nat))) = gi X4 33 0 (ix (zi (t : Nat))) then xbV (m_M_put 0 42 X4) (fun M9 => rV M9) else rV X4 := by
      rw [e_b_M_putTask_9, zi_00, show (0 : Int) = ((0 : Nat) : Int) from rfl, o0, xbI_r, Nat.add_zero, e0, if_neg (zi_irr _), x1, xbV_r, xck_n (by omega) (by decide), zix (by omega), (S1.2.2 t ht).1, st, x2, xbV_r, x3, xbV_r, r_fin S3.1 hw.1 S3.2.2 ht, xbI_r, fn, x4, xbV_r, xck_n (by omega) (by decide), xck_n (by omega) (by decide)]
    show ∃ N2, b_M_putTask_9 0 (zi (t : Nat)) (zi ((b (28 + 12 * t)).toNat : Nat)) N' = rV N2 ∧ fz onWt N N2 ∧ RWx N2 (wxk b T t)
    rw [hd, zix (by omega), (S4.2.1.2 t ht).1, (S4.2.1.2 t ht).2]
    unfold wxk
    by_cases c : lsB b t = esB b t
    · obtain ⟨X5, x5, g5, p5⟩ := r_ptc p4 (by omega) 42
      rw [if_pos c, if_pos (by rw [c]), x5, xbV_r]
      exact ⟨X5, rfl, fz_trans F g5, p5⟩
    · rw [if_neg c, if_neg (fun q => by rw [zi_eq (by omega) (by omega) (by omega) (by omega)] at q; exact c q)]
      exact ⟨X4, rfl, F, p4⟩
theorem r_write {N : xM} {b : Nat → Int} (h : RWs N b) (hw : wF b) (r : RWx N wx0) : ∃ N', b_M_writeSchedule_12 0 (zi (mkB b)) 0 N = rI (zi ((wxy b (mkB b).toNat).1 : Nat)) N' ∧ fz onWt N N' ∧ RWx N' (wxy b (mkB b).toNat) := by
  have hn := wS_n hw.1
  have mk := mkB_ok hw.1
  have em : ((mkB b).toNat : Int) = mkB b := by omega
  refine lpM (B := fun d N' => b_M_writeSchedule_12 0 (zi (mkB b)) (zi (d : Nat)) N') (n := (mkB b).toNat) (fun d N' => fz onWt N N' ∧ RWx N' (wxy b d)) (fun q => ∃ N', q = rI (zi ((wxy b (mkB b).toNat).1 : Nat)) N' ∧ fz onWt N N' ∧ RWx N' (wxy b (mkB b).toNat)) (fun d N' hd ⟨f, g⟩ => ?_) (fun N' ⟨f, g⟩ => ?_) 0 N (Nat.zero_le _) ⟨fz_refl N, r⟩
  · show ∃ N2, (fz onWt N N2 ∧ RWx N2 (wxy b (d + 1))) ∧ b_M_writeSchedule_12 0 (zi (mkB b)) (zi (d : Nat)) N' = b_M_writeSchedule_12 0 (zi (mkB b)) (zi ((d + 1 : Nat) : Int)) N2
    rw [e_b_M_writeSchedule_12, zif (by omega) (by omega) (by omega) (by omega), if_pos (by omega)]
    refine lpM (B := fun k N' => b_M_writeSchedule_18 0 (zi (mkB b)) (zi (d : Nat)) (zi (k : Nat)) N') (n := nT b) (fun k N' => fz onWt N N' ∧ RWx N' (wxr b d (wxy b d) k)) (fun q => ∃ N2, (fz onWt N N2 ∧ RWx N2 (wxy b (d + 1))) ∧ q = b_M_writeSchedule_12 0 (zi (mkB b)) (zi ((d + 1 : Nat) : Int)) N2) (fun k N1 hk ⟨f1, g1⟩ => ?_) (fun N1 ⟨f1, g1⟩ => ?_) 0 N' (Nat.zero_le _) ⟨f, g⟩
    · have hS := RWs_f h f1
      have bd := wx_bd hw.2.2.1 hn.2.1 d k hk
      have sk := stB_ok hw.1 hk
      show ∃ N2, (fz onWt N N2 ∧ RWx N2 (wxr b d (wxy b d) (k + 1))) ∧ b_M_writeSchedule_18 0 (zi (mkB b)) (zi (d : Nat)) (zi (k : Nat)) N1 = b_M_writeSchedule_18 0 (zi (mkB b)) (zi (d : Nat)) (zi ((k + 1 : Nat) : Int)) N2
      have bD := hw.1.2.2.2.1 k hk
      rw [e_b_M_writeSchedule_18, xck_2, RB_T hS.1 hw.1, if_pos (zi_ltn hk (by omega)), xck_n (by omega) (by decide), zix (by omega), (hS.2.2 k hk).1]
      unfold wxr
      by_cases c : stB b k = (d : Int)
      · rw [if_pos c] at bd
        obtain ⟨N2, e2, f2, r2⟩ := r_task hS hw hk g1 (by omega)
        rw [if_pos c, if_pos (show zi (stB b k) = zi (d : Nat) by rw [c]), e2, xbV_r, zi_suc k]
        exact ⟨N2, ⟨fz_trans f1 f2, r2⟩, rfl⟩
      · rw [if_neg c, if_neg (fun q : zi (stB b k) = zi (d : Nat) => by rw [zi_eq (by omega) (by omega) (by omega) (by omega)] at q; exact c q), zi_suc k]
        exact ⟨N1, ⟨f1, g1⟩, rfl⟩
    · have hS := RWs_f h f1
      show ∃ N2, (fz onWt N N2 ∧ RWx N2 (wxy b (d + 1))) ∧ b_M_writeSchedule_18 0 (zi (mkB b)) (zi (d : Nat)) (zi (nT b : Nat)) N1 = b_M_writeSchedule_12 0 (zi (mkB b)) (zi ((d + 1 : Nat) : Int)) N2
      rw [e_b_M_writeSchedule_18, xck_2, RB_T hS.1 hw.1, if_neg (zi_irr _), zi_suc d]
      exact ⟨N1, ⟨f1, g1⟩, rfl⟩
  · show ∃ N2, b_M_writeSchedule_12 0 (zi (mkB b)) (zi ((mkB b).toNat : Nat)) N' = _ ∧ _
    rw [e_b_M_writeSchedule_12, em, if_neg (zi_irr _), g.1]
    exact ⟨N', rfl, f, g⟩
