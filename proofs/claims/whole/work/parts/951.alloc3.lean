/-! the beginning: the class up to its texts -/
def ZC (k o s : Nat) : Bool := Nat.beq k 17 || Nat.beq k 19 || (Nat.beq k 21 && (Nat.beq o 0 && Nat.beq s 8)) || Nat.beq k 26 || (Nat.ble 27 k && Nat.blt k 41)
theorem ZC_i {k o s : Nat} (h : ZC k o s = true) : k = 17 ∨ k = 19 ∨ (k = 21 ∧ o = 0 ∧ s = 8) ∨ k = 26 ∨ (27 ≤ k ∧ k < 41) := by
  unfold ZC at h
  simp only [Bool.or_eq_true, Bool.and_eq_true, Nat.beq_eq, Nat.ble_eq, Nat.blt_eq] at h
  omega
def YC (k o s : Nat) : Bool := is3 21 0 9 k o s
theorem rng10 {c : Nat → Nat} {v : Nat} (h : (List.range 10).all (fun j => Nat.blt j 2 || Nat.beq (c j) v) = true) : ∀ j, 2 ≤ j → j ≤ 9 → c j = v := fun j h1 h2 => by
  have := List.all_eq_true.mp h j (List.mem_range.mpr (by omega))
  rw [Bool.or_eq_true, Nat.blt_eq, Nat.beq_eq] at this
  omega
theorem rng41 {c c' : Nat → Nat} (h : (List.range 41).all (fun j => Nat.beq (c' j) (c j)) = true) : ∀ j, j < 41 → c' j = c j := fun j h1 => Nat.eq_of_beq_eq_true (List.all_eq_true.mp h j (List.mem_range.mpr h1))
def cB1 (j : Nat) : Nat := xnth [0, 1, 7, 7, 7, 7, 7, 7, 7, 7, 1, 1, 1, 1, 1, 1, 1, 1, 1, 1, 1, 1, 1, 1, 30, 1, 1] j
def fB1 (k o f : Nat) : Bool := false || fP 0 k o f || is3 1 0 1 k o f || fH 6 k o f || is3 1 0 2 k o f || is3 1 0 3 k o f || is3 1 0 4 k o f || fT 0 k o f || is3 1 0 5 k o f || fR 30 k o f || is3 1 0 6 k o f || fS k o f || is3 1 0 7 k o f || is3 1 0 8 k o f
theorem s_C1 {M0 M : xM} (h : AZ M0 M (fun _ => 0) (fun _ _ _ => false) ZC (fun _ _ _ => false) 0 0) : ∃ B, m_C_init 0 (xnew M 1 9) = b_C_init_41 0 0 B ∧ AZ M0 B cB1 fB1 ZC YC 200 2000 ∧ gn B 1 0 8 = 12 := by
  have a0 := AZ_new h 1 9 (by decide)
  obtain ⟨A1, e1, g1, b1⟩ := s_newP a0 (p := 0) (rng10 (by decide +kernel))
  have b2 := AZ_flag b1 1 201 0 1 (by decide) rfl (by decide +kernel)
  have b3 := AZ_new b2 17 3 (by decide)
  obtain ⟨A2, e2, b4⟩ := s_Hinit b3 (rng10 (by decide +kernel)) (by decide +kernel) (by decide +kernel)
  have b5 := AZ_flag b4 1 201 0 2 (by decide) rfl (by decide +kernel)
  have b6 := AZ_new b5 25 2 (by decide)
  have b7 := AZ_flag b6 1 201 0 3 (by decide) rfl (by decide +kernel)
  have b8 := AZ_new b7 26 2 (by decide)
  have b9 := AZ_flag b8 1 201 0 4 (by decide) rfl (by decide +kernel)
  have b10 := AZ_new b9 21 10 (by decide)
  obtain ⟨A3, e3, b11⟩ := s_Tinit b10 (o := 0) (by decide +kernel) (by decide +kernel) (by decide +kernel) (fun _ => rfl)
  have b12 := AZ_flag b11 1 201 0 5 (by decide) rfl (by decide +kernel)
  have b13 := AZ_new b12 22 2 (by decide)
  obtain ⟨A4, e4, b14⟩ := s_Rinit b13 (by decide +kernel) (by decide +kernel) (by decide +kernel) (fun _ _ => rfl)
  have b15 := AZ_flag b14 1 201 0 6 (by decide) rfl (by decide +kernel)
  have b16 := AZ_new b15 15 4 (by decide)
  obtain ⟨A5, e5, b17⟩ := s_Sinit b16 (by decide +kernel) (by decide +kernel) (by decide +kernel) (by decide +kernel) (by decide +kernel) (by decide +kernel) (by decide +kernel)
  have b18 := AZ_flag b17 1 201 0 7 (by decide) rfl (by decide +kernel)
  have b19 := AZ_ref b18 1 0 8 12 (by decide) rfl
  have b20 := AZ_flag b19 1 201 0 8 (by decide) rfl (by decide +kernel)
  have c17 : gn A1 101 17 0 = 0 := (AZ_c b1 (by decide)).trans (by decide +kernel)
  have c25 : gn A2 101 25 0 = 0 := (AZ_c b4 (by decide)).trans (by decide +kernel)
  have c26 : gn (xnew (xst A2 201 0 2 (.ref 1)) 25 2) 101 26 0 = 0 := (AZ_c b6 (by decide)).trans (by decide +kernel)
  have c21 : gn (xnew (xst (xnew (xst A2 201 0 2 (.ref 1)) 25 2) 201 0 3 (.ref 1)) 26 2) 101 21 0 = 0 := (AZ_c b8 (by decide)).trans (by decide +kernel)
  have c22 : gn A3 101 22 0 = 0 := (AZ_c b11 (by decide)).trans (by decide +kernel)
  have c15 : gn A4 101 15 0 = 0 := (AZ_c b14 (by decide)).trans (by decide +kernel)
  refine ⟨_, ?_, AZ_weak b20 (rng41 (by decide +kernel)) (fun k o f q => ?_) (fun k o s q => ?_) (fun k o s q => ?_) (by decide) (by decide), ?_⟩
  · rw [e_m_C_init, e1, xret_v, xbV_r, g1, if_pos rfl, c17, e2, xret_v, xbV_r, if_pos rfl, if_pos (by decide), c25, if_pos rfl, if_pos (by decide), c26, if_pos rfl, c21, e3, xret_v, xbV_r, if_pos rfl, c22, e4, xret_v, xbV_r, if_pos rfl, c15, e5, xret_v, xbV_r, if_pos rfl]
  · exact q
  · show (ZC k o s && !is3 21 0 9 k o s) = true
    rw [q, Bool.true_and]
    cases e : is3 21 0 9 k o s with
    | false => rfl
    | true =>
      have := is3_i e
      have := ZC_i q
      omega
  · show (false || is3 21 0 9 k o s) = true
    exact q
  · rw [gn_k (by decide), gn_h]
def cB2 (j : Nat) : Nat := xnth [0, 1, 9, 9, 9, 9, 9, 9, 9, 9, 1, 1, 1, 1, 1, 1, 1, 1, 1, 1, 1, 1, 1, 1, 30, 1, 1] j
def fB2 (k o f : Nat) : Bool := fB1 k o f || fP 7 k o f || is3 25 0 0 k o f || fP 8 k o f || is3 25 0 1 k o f
/-- the first thing stays as it is -/
theorem sndE {x y : Option xV ⊕ Nat} {a b : xM} (h : (some (x, a) : xR) = some (y, b)) : a = b := congrArg Prod.snd (Option.some.inj h)
theorem ch1 {N : xM} {k n p f o s k' : Nat} {v : Value} (hk : 3 ≤ k ∧ k ≤ 9) (h : k' = 1 ∨ (10 ≤ k' ∧ k' < 60)) : (xst (xnew N k n) 202 p f v) k' o s = N k' o s := (if_neg (fun q => by omega)).trans (xnew_v (by omega) (by omega) (by omega))
theorem Pinit_1 {p : Nat} {M M' : xM} (h : m_P_init p M = rV M') {k : Nat} (hk : k = 1 ∨ (10 ≤ k ∧ k < 60)) (o s : Nat) : M' k o s = M k o s := by
  have no : ∀ {c : Prop} [Decidable c] {a : xR}, (if c then a else none) = rV M' → a = rV M' := fun {c} _ {a} e => by
    by_cases q : c
    · rw [if_pos q] at e; exact e
    · rw [if_neg q] at e; exact nomatch e
  rw [e_m_P_init] at h
  have h := no (no (no (no (no (no (no (no (no (no (no (no (no (no h)))))))))))))
  have h := sndE h
  have e := congrFun (congrFun (congrFun h k) o) s
  rw [← e]
  refine (ch1 (by decide) hk).trans ?_
  refine (ch1 (by decide) hk).trans ?_
  refine (ch1 (by decide) hk).trans ?_
  refine (ch1 (by decide) hk).trans ?_
  refine (ch1 (by decide) hk).trans ?_
  refine (ch1 (by decide) hk).trans ?_
  exact ch1 (by decide) hk
theorem newP_1 {p : Nat} {M M' : xM} (h : m_P_init p (xnew M 2 10) = rV M') : gn M' 1 0 8 = gn M 1 0 8 := by
  unfold gn
  rw [Pinit_1 h (Or.inl rfl), xnew_v (by decide) (by omega) (by omega)]
theorem Tinit_1 {t : Nat} {M M' : xM} (h : m_T_init t (xnew M 21 10) = rV M') : gn M' 1 0 8 = gn M 1 0 8 := by
  have no : ∀ {c : Prop} [Decidable c] {a : xR} {N : xM}, (if c then a else none) = rV N → a = rV N := fun {c} _ {a} {N} e => by
    by_cases q : c
    · rw [if_pos q] at e; exact e
    · rw [if_neg q] at e; exact nomatch e
  rw [e_m_T_init, e_m_I_init] at h
  generalize hN : xnew M 21 10 = N at h
  generalize hP : xnew N 19 2 = P at h
  by_cases c1 : (600 : Int32) = Int32.ofNat 600
  · rw [if_pos c1] at h
    by_cases c2 : gn P 101 20 0 = gn N 101 19 0
    · rw [if_pos c2, xret_v, xbV_r] at h
      have h := sndE (no h)
      have e := congrFun (congrFun (congrFun h 1) 0) 8
      unfold gn
      rw [← e]
      have k1 : (xst (xst (xst (xst (xst (xnew P 20 600) 219 (gn N 101 19 0) 0 (.ref 1)) 221 t 0 (.ref 1)) 21 t 3 (.ref 4)) 221 t 3 (.ref 1)) 21 t 9 (.int (-1))) 1 0 8 = M 1 0 8 := (if_neg (fun q => by omega)).trans ((if_neg (fun q => by omega)).trans ((if_neg (fun q => by omega)).trans ((if_neg (fun q => by omega)).trans ((if_neg (fun q => by omega)).trans ((xnew_v (by decide) (by omega) (by omega)).trans (by
        rw [← hP, ← hN, xnew_v (by decide) (by omega) (by omega), xnew_v (by decide) (by omega) (by omega)]))))))
      rw [k1]
    · rw [if_neg c2] at h; exact nomatch h
  · exact absurd (by decide) c1
theorem s_C41 {M0 B : xM} {r1 r2 : Nat} (h : AZ M0 B cB1 fB1 ZC YC r1 r2) : ∃ A, b_C_init_41 0 0 B = b_C_init_41 0 2 A ∧ AZ M0 A cB2 fB2 ZC YC (r1 + 16) (r2 + 200) ∧ gn A 1 0 8 = gn B 1 0 8 := by
  have w1 : ∀ {N : xM} {c : Nat → Nat} {F : Nat → Nat → Nat → Bool} {s1 s2 : Nat}, AZ M0 N c F ZC YC s1 s2 → F 1 0 3 = true → gn N 201 0 3 = 1 := fun a q => AZ_f a (k := 1) (o := 0) (f := 3) q
  obtain ⟨A1, e1, g1, b1⟩ := s_newP h (p := 7) (rng10 (by decide +kernel))
  have b2 := AZ_flag b1 25 225 0 0 (by decide) rfl (by decide +kernel)
  obtain ⟨A2, e2, g2, b3⟩ := s_newP b2 (p := 8) (rng10 (by decide +kernel))
  have b4 := AZ_flag b3 25 225 0 1 (by decide) rfl (by decide +kernel)
  have x0 : ∀ k, xck 0 2 k = k := fun k => if_neg (by decide)
  have x1 : ∀ k, xck (0 + 1) 2 k = k := fun k => if_neg (by decide)
  have i1 : ix (0 + 1) = 1 := rfl
  refine ⟨_, ?_, AZ_weak b4 (rng41 (by decide +kernel)) (fun k o f q => q) (fun _ _ _ q => q) (fun _ _ _ q => q) (by omega) (by omega), ?_⟩
  · rw [e_b_C_init_41, if_pos (by decide), if_pos (w1 h rfl), e1, xret_v, xbV_r, x0, g1, ix_0, if_pos (by decide), e_b_C_init_41, if_pos (by decide), if_pos (w1 b2 rfl), e2, xret_v, xbV_r, x1, g2, i1, if_pos (by decide)]
    rfl
  · rw [g1] at e1
    rw [g2] at e2
    rw [gn_k (by decide), newP_1 e2, gn_k (by decide), newP_1 e1]
