/-! the class's half of the part 46 of the proof of whole (wip/p65/mkhalf.py) -/
theorem sm_upd {f g : Nat → Int} {n t : Nat} (ht : t < n) (h : ∀ i, i < n → i ≠ t → g i = f i) : sm g n = sm f n - f t + g t := by
  induction n with
  | zero => omega
  | succ n ih =>
    show sm g n + g n = sm f n + f n - f t + g t
    by_cases e : t = n
    · subst e
      have : sm g t = sm f t := sm_congr (fun i hi => h i (by omega) (by omega))
      omega
    · have := ih (by omega) (fun i hi q => h i (by omega) q)
      have := h n (by omega) (fun q => e q.symm)
      omega
theorem ldS_add {b : Nat → Int} {P : Nat → Bool} {s : Nat → Int} {t : Nat} (ht : t < nT b) (hp : P t = false) (x : Int) (r : Nat) (d : Int) : ldS b (addP P t) (upI s t x) r d = ldS b P s r d + if x ≤ d ∧ d < x + bD b t then bU b t r else 0 := by
  have := sm_upd (f := ldU b P s r d) (g := ldU b (addP P t) (upI s t x) r d) ht (fun i hi q => by
    unfold ldU addP upI
    have : (i == t) = false := by simp [q]
    rw [this, Bool.or_false, if_neg q])
  have e1 : ldU b P s r d t = 0 := by unfold ldU; rw [hp]; rfl
  have e2 : ldU b (addP P t) (upI s t x) r d t = if x ≤ d ∧ d < x + bD b t then bU b t r else 0 := by
    unfold ldU addP upI
    rw [if_pos rfl, beq_self_eq_true, Bool.or_true, Bool.true_and]
    by_cases c : x ≤ d ∧ d < x + bD b t
    · rw [if_pos c, if_pos]
      rw [decide_eq_true c.1, decide_eq_true c.2]; rfl
    · rw [if_neg c, if_neg]
      intro q
      rw [Bool.and_eq_true, decide_eq_true_iff, decide_eq_true_iff] at q
      exact c q
  show sm _ _ = sm _ _ + _
  rw [this, e1, e2, Int.sub_zero]
theorem ldS_but {b : Nat → Int} {P : Nat → Bool} {s : Nat → Int} {t : Nat} (ht : t < nT b) (hp : P t = true) (r : Nat) (d : Int) : ldS b (but P t) s r d = ldS b P s r d - if s t ≤ d ∧ d < s t + bD b t then bU b t r else 0 := by
  have := sm_upd (f := ldU b P s r d) (g := ldU b (but P t) s r d) ht (fun i hi q => by
    unfold ldU but
    have : (i == t) = false := by simp [q]
    rw [this, Bool.not_false, Bool.and_true])
  have e1 : ldU b (but P t) s r d t = 0 := by
    unfold ldU but
    rw [beq_self_eq_true, Bool.not_true, Bool.and_false]; rfl
  have e2 : ldU b P s r d t = if s t ≤ d ∧ d < s t + bD b t then bU b t r else 0 := by
    unfold ldU
    rw [hp, Bool.true_and]
    by_cases c : s t ≤ d ∧ d < s t + bD b t
    · rw [if_pos c, if_pos]
      rw [decide_eq_true c.1, decide_eq_true c.2]; rfl
    · rw [if_neg c, if_neg]
      intro q
      rw [Bool.and_eq_true, decide_eq_true_iff, decide_eq_true_iff] at q
      exact c q
  show sm _ _ = sm _ _ - _
  rw [this, e1, e2, Int.add_zero]
theorem ldS_but0 {b : Nat → Int} {P : Nat → Bool} {s : Nat → Int} {t : Nat} (hp : P t = false) (r : Nat) (d : Int) : ldS b (but P t) s r d = ldS b P s r d := by
  refine sm_congr (fun i hi => ?_)
  unfold ldU but
  by_cases e : i = t
  · subst e; rw [hp]; rfl
  · have : (i == t) = false := by simp [e]
    rw [this, Bool.not_false, Bool.and_true]
theorem ldS_rg {b : Nat → Int} (hw : wS b) {r : Nat} (hr : r < nR b) (Q : Nat → Bool) (s : Nat → Int) (x : Int) : 0 ≤ ldS b Q s r x ∧ ldS b Q s r x ≤ 200 := by
  have hn := (wS_n hw).2.1
  obtain ⟨_, _, _, h4, _, h6, h7, _⟩ := hw
  have hc := h7 r hr
  constructor
  · refine sm_nn (fun i hi => ?_)
    unfold ldU
    have := h6 i r hi hr
    split <;> omega
  · have : ldS b Q s r x ≤ nT b * 10 := sm_le (fun i hi => by
      unfold ldU
      have := h6 i r hi hr
      split <;> omega)
    omega
/-- the reference's schedule is there -/
def RS (M : xM) (b : Nat → Int) : Prop := RD M b ∧ SP M b (allT b) (stB b) ∧ US M b (fun r d => ldS b (allT b) (stB b) r d)
theorem stB_480 {b : Nat → Int} (hw : wS b) {t : Nat} (ht : t < nT b) : stB b t + bD b t ≤ 459 := by
  have := (stB_ok hw ht).2
  have := mkB_ok hw
  omega
