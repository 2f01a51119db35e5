/-! MAX AND MIN OF MATH; THE CALL'S INSTRUCTION; THE FRAME AS A WHOLE. -/
theorem xmx_n1 {k : Nat} {w : Value} (h : ∀ x, w ≠ .int x) (tl : List xV) (M : xM) : xEv xtab xml T_JM_max T_JM_max ((k, w) :: tl) [] M = none := by
  cases w with
  | int x => exact absurd rfl (h x)
  | _ => exact (xEv_unf 3 xtab xml _ _ _ _ M).trans rfl
theorem xmx_n2 {k0 k : Nat} {x : Int32} {w : Value} (h : ∀ x, w ≠ .int x) (tl : List xV) (M : xM) : xEv xtab xml T_JM_max T_JM_max ((k0, .int x) :: (k, w) :: tl) [] M = none := by
  cases w with
  | int x => exact absurd rfl (h x)
  | _ => exact (xEv_unf 3 xtab xml _ _ _ _ M).trans rfl
theorem xmx_ev (k0 k1 : Nat) (x z : Int32) (M : xM) : xEv xtab xml T_JM_max T_JM_max [(k0, .int x), (k1, .int z)] [] M = if x < z then some (.inl (some (0, .int z)), M) else some (.inl (some (0, .int x)), M) := (xEv_unf 20 xtab xml _ _ _ _ M).trans rfl
theorem xmi_n1 {k : Nat} {w : Value} (h : ∀ x, w ≠ .int x) (tl : List xV) (M : xM) : xEv xtab xml T_JM_min T_JM_min ((k, w) :: tl) [] M = none := by
  cases w with
  | int x => exact absurd rfl (h x)
  | _ => exact (xEv_unf 3 xtab xml _ _ _ _ M).trans rfl
theorem xmi_n2 {k0 k : Nat} {x : Int32} {w : Value} (h : ∀ x, w ≠ .int x) (tl : List xV) (M : xM) : xEv xtab xml T_JM_min T_JM_min ((k0, .int x) :: (k, w) :: tl) [] M = none := by
  cases w with
  | int x => exact absurd rfl (h x)
  | _ => exact (xEv_unf 3 xtab xml _ _ _ _ M).trans rfl
theorem xmi_ev (k0 k1 : Nat) (x z : Int32) (M : xM) : xEv xtab xml T_JM_min T_JM_min [(k0, .int x), (k1, .int z)] [] M = if z < x then some (.inl (some (0, .int z)), M) else some (.inl (some (0, .int x)), M) := (xEv_unf 20 xtab xml _ _ _ _ M).trans rfl
/-- the callee is one of Math's -/
def xMx (Ec : xP) (M : xM) : Prop := (∀ as r1, as.length = 2 → Ec (xtab 44) (xtab 44) (xarg (xml 44) as) [] M = some r1 → ∃ k0 x k1 z, as = [(k0, .int x), (k1, .int z)] ∧ r1 = (.inl (some (0, .int (if x < z then z else x))), M)) ∧
  ∀ as r1, as.length = 2 → Ec (xtab 47) (xtab 47) (xarg (xml 47) as) [] M = some r1 → ∃ k0 x k1 z, as = [(k0, .int x), (k1, .int z)] ∧ r1 = (.inl (some (0, .int (if z < x then z else x))), M)
theorem vnint (w : Value) : (∃ x, w = .int x) ∨ ∀ x, w ≠ .int x := by
  cases w with
  | int x => exact Or.inl ⟨x, rfl⟩
  | _ => exact Or.inr fun x h => nomatch h
theorem xarg2 (k0 k1 : Nat) (w0 w1 : Value) : ∃ tl, xarg 2 [(k0, w0), (k1, w1)] = (k0, w0) :: tl ∧ ((∃ x, w0 = .int x) → ∃ tl2, tl = (k1, w1) :: tl2 ∧ ((∃ z, w1 = .int z) → tl2 = [])) := by
  cases w0 with
  | int x =>
    refine ⟨xarg 1 [(k1, w1)], rfl, fun _ => ?_⟩
    cases w1 with
    | int z => exact ⟨[], rfl, fun _ => rfl⟩
    | _ => exact ⟨_, rfl, fun h => by obtain ⟨z, h⟩ := h; cases h⟩
  | _ => exact ⟨_, rfl, fun h => by obtain ⟨x, h⟩ := h; cases h⟩
theorem xMx_ok (n : Nat) (M : xM) : xMx (xexec xtab xml n) M := by
  refine ⟨fun as r1 hl h => ?_, fun as r1 hl h => ?_⟩
  · have h := xEv_of h
    match as, hl with
    | [(k0, w0), (k1, w1)], _ =>
      have h : xEv xtab xml T_JM_max T_JM_max (xarg 2 [(k0, w0), (k1, w1)]) [] M = some r1 := h
      obtain ⟨tl, e1, e2⟩ := xarg2 k0 k1 w0 w1
      rw [e1] at h
      rcases vnint w0 with ⟨x, rfl⟩ | hn
      · obtain ⟨tl2, rfl, e3⟩ := e2 ⟨x, rfl⟩
        rcases vnint w1 with ⟨z, rfl⟩ | hn
        · rw [e3 ⟨z, rfl⟩, xmx_ev] at h
          refine ⟨k0, x, k1, z, rfl, ?_⟩
          split at h
          · rename_i hlt; rw [if_pos hlt]; exact (Option.some.inj h).symm
          · rename_i hlt; rw [if_neg hlt]; exact (Option.some.inj h).symm
        · rw [xmx_n2 hn] at h; cases h
      · rw [xmx_n1 hn] at h; cases h
  · have h := xEv_of h
    match as, hl with
    | [(k0, w0), (k1, w1)], _ =>
      have h : xEv xtab xml T_JM_min T_JM_min (xarg 2 [(k0, w0), (k1, w1)]) [] M = some r1 := h
      obtain ⟨tl, e1, e2⟩ := xarg2 k0 k1 w0 w1
      rw [e1] at h
      rcases vnint w0 with ⟨x, rfl⟩ | hn
      · obtain ⟨tl2, rfl, e3⟩ := e2 ⟨x, rfl⟩
        rcases vnint w1 with ⟨z, rfl⟩ | hn
        · rw [e3 ⟨z, rfl⟩, xmi_ev] at h
          refine ⟨k0, x, k1, z, rfl, ?_⟩
          split at h
          · rename_i hlt; rw [if_pos hlt]; exact (Option.some.inj h).symm
          · rename_i hlt; rw [if_neg hlt]; exact (Option.some.inj h).symm
        · rw [xmi_n2 hn] at h; cases h
      · rw [xmi_n1 hn] at h; cases h
theorem xcal_mx : xcal.all (fun q => Nat.beq q.2.1 1 || (!Nat.beq q.2.2.1 44 && !Nat.beq q.2.2.1 47)) = true := by decide +kernel
theorem xcal_nm {a : (Nat × Nat) × Nat × Nat × Nat} (h : a ∈ xcal) (h1 : a.2.1 ≠ 1) : a.2.2.1 ≠ 44 ∧ a.2.2.1 ≠ 47 := by
  have h2 := List.all_eq_true.mp xcal_mx a h
  rcases (Bool.or_eq_true _ _).mp h2 with q | q
  · exact absurd (Nat.eq_of_beq_eq_true q) h1
  · refine ⟨fun e => ?_, fun e => ?_⟩
    · have := and_l q
      rw [e] at this
      cases this
    · have := and_r q
      rw [e] at this
      cases this
theorem xcal_nV {y pc ix y2 n t kx rk : Nat} {hs : List Nat} {C : List xE} (h9 : Nat.beq y2 9999 = false) (hok : xokCV y C pc ix (y2 :: n :: t :: kx :: rk :: hs) = true) : y2 ≠ 44 ∧ y2 ≠ 47 := by
  unfold xokCV at hok
  simp only [h9] at hok
  rcases (Bool.or_eq_true _ _).mp (and_r (and_r (and_r hok))) with h | h
  · exact xcal_nm (List.contains_iff_mem.mp h) (fun e => nomatch e)
  · rcases (Bool.or_eq_true _ _).mp (and_r h) with h | h
    · exact xcal_nm (List.contains_iff_mem.mp (and_l h)) (fun e => nomatch e)
    · exact xcal_nm (List.contains_iff_mem.mp (and_l h)) (fun e => nomatch e)
theorem xcal_nI {y pc ix y2 n t kx rk : Nat} {hs : List Nat} {C : List xE} (h9 : Nat.beq y2 9999 = false) (hok : xokCI y C pc ix (y2 :: n :: t :: kx :: rk :: hs) = true) : y2 ≠ 44 ∧ y2 ≠ 47 := by
  unfold xokCI at hok
  simp only [h9] at hok
  rcases (Bool.or_eq_true _ _).mp (and_r (and_r (and_r hok))) with h | h
  · obtain ⟨q, hq, hq2⟩ := List.any_eq_true.mp (and_r h)
    have e := Nat.eq_of_beq_eq_true (and_l (and_r (and_r hq2)))
    rw [← e]
    refine xcal_nm hq (fun e1 => ?_)
    rcases (Bool.or_eq_true _ _).mp (and_r (and_r (and_r hq2))) with z | z
    · have := Nat.eq_of_beq_eq_true z
      omega
    · have := Nat.eq_of_beq_eq_true z
      omega
  · exact xcal_nm (List.contains_iff_mem.mp (and_l (and_l h))) (fun e => nomatch e)
theorem xcal_nS {y pc ix y2 n t kx rk : Nat} {hs : List Nat} {C : List xE} (h9 : Nat.beq y2 9999 = false) (hok : xokCS y C pc ix (y2 :: n :: t :: kx :: rk :: hs) = true) : (y2 ≠ 44 ∧ y2 ≠ 47) ∨ (xcal.contains ((xoc y, ix), 1, y2, 0) = true ∧ xpn y2 n = true) := by
  unfold xokCS at hok
  simp only [h9] at hok
  have hp := and_l (and_r hok)
  rcases (Bool.or_eq_true _ _).mp (and_r (and_r hok)) with h | h
  · rcases (Bool.or_eq_true _ _).mp h with h | h
    · exact Or.inr ⟨and_l h, hp⟩
    · exact Or.inl (xcal_nm (List.contains_iff_mem.mp (and_l h)) (fun e => nomatch e))
  · exact Or.inl (xcal_nm (List.contains_iff_mem.mp (and_l (and_r h))) (fun e => nomatch e))
theorem xpn_134 {n : Nat} (h : xpn 44 n = true) : n = 2 := by
  have h1 := xpn_ok h
  have h2 : (parseMethodDescriptor (xY 44).desc).map (fun d => d.parameters.length) = some 2 := by decide +kernel
  exact Option.some.inj (h1.symm.trans h2)
theorem xpn_136 {n : Nat} (h : xpn 47 n = true) : n = 2 := by
  have h1 := xpn_ok h
  have h2 : (parseMethodDescriptor (xY 47).desc).map (fun d => d.parameters.length) = some 2 := by decide +kernel
  exact Option.some.inj (h1.symm.trans h2)
theorem xmath_w : Cond.code Lib.Math.max.name Lib.Math.max.code 2 (some .int) = Cond.code (xY 44) (xCode 44) (xml 44) (xRet 44) ∧ Cond.code Lib.Math.min.name Lib.Math.min.code 2 (some .int) = Cond.code (xY 47) (xCode 47) (xml 47) (xRet 47) := by decide +kernel
theorem xmath_n : (Lib.Math.max.name = xY 44 ∧ Lib.Math.min.name = xY 47) ∧ ((xY 44).cls = "java/lang/Math" ∧ (xY 47).cls = "java/lang/Math") := by decide +kernel
theorem xmath_c : xnor.contains 44 = true ∧ xnor.contains 47 = true := by decide +kernel
section XMX
variable {p : Program} {l : Launch} {e : Env} {R : Room} {s : State} {m : MethodId} {args : Array Value} {below : List Frame} {meth : Method} {c : Code} {H : Heap} {locs : List Loc} {cells slots : Nat}
/-- a call that only leaves a number -/
theorem xrun_of {A : Nat → Prop} {ad : xA} {M : xM} {rg : Option (List (Nat × Nat))} {pc : Nat} {la : Array Slot} {st0 rest : List Value} {a : Array Value} {v : Int32} (I : xInv s A ad M s.heap H locs)
    (h : ∀ T : State, T.heap = H → Stand p l e R s m args below meth c T locs cells slots → ∃ vm', Stand p l e R s m args below meth c (T.setVm vm') locs cells slots ∧ ∀ target, Steps p.tables e below ((T.setVm vm').setTop (F0 m (pc + 3) la (.int v :: rest))) target → Steps p.tables e below (T.setTop (F0 m pc la st0)) target) :
    vx_Run p l e R s m args below meth c H locs cells slots (gn M 100 0 0 - gn M 100 0 0) (gn M 100 0 1 - gn M 100 0 1) (F0 m pc la st0) rest (xQc A ad M rg (.inl (some (0, .int v)), M) a) (xXC A ad M (.inl (some (0, .int v)), M)) A := by
  intro T hT X
  obtain ⟨vm', X', st⟩ := h T hT X
  refine Or.inl ⟨some (.int v), T, T.setVm vm', T.setVm vm', [], hT, ?_, fun q hq => (nomatch hq), rfl, rfl, ⟨some (0, .int v), ad, rfl, rfl, fun x hx => (by cases hx; trivial), ?_⟩, st⟩
  · rw [Nat.sub_self, Nat.sub_self, List.append_nil]
    exact X'
  · refine ⟨fun _ _ _ _ _ => rfl, ?_, I.2.1, I.2.2.1, I.2.2.2.1, Nat.le_refl _, fun q _ _ => rfl⟩
    show xWd (T.setVm vm') A ad M T.heap
    rw [hT]
    exact I.1.moved X'.warmed.alike
end XMX
