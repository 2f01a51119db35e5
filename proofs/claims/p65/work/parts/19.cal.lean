/-! CALLS: what the entry of a call must keep; the words and the contract of a method (wip/whole/gen19.py writes this). -/
def xdpL : List Nat := [0, 1, 0, 1, 0, 1, 0, 1, 0, 1, 0, 0, 1, 2, 3, 0, 4, 0, 0, 1, 0, 1, 2, 3, 4, 5, 0, 6, 3, 3, 7, 0, 3, 7, 0, 4, 1, 0, 1, 6, 7, 8, 9, 0, 0, 1, 2, 0, 1, 3, 1, 1, 2, 4, 5, 6, 7, 8, 0, 0, 0, 4, 5, 0, 4, 5, 0, 0, 1, 0, 1, 2, 3, 4, 5, 9, 0, 4, 1, 2, 5, 0, 9, 0, 0, 1, 2, 2, 2, 3, 4, 5, 6, 7, 8, 9, 10, 11, 0, 3, 3, 4, 5, 6, 7, 8, 9, 10, 3, 4, 5, 6, 7, 8, 9, 10, 11, 0, 3, 0, 1, 0, 2, 4, 2, 5, 12, 1, 2, 2, 2, 3, 1, 2, 3, 2, 0, 1, 2, 3, 4, 5, 6, 4, 5, 2, 2, 3, 4, 1, 2, 3, 6, 6, 6, 5, 5, 6, 0, 5, 0, 6, 6, 5, 13, 0, 5, 6, 0, 1, 1, 2, 1, 2, 1, 2, 1, 2, 3, 3, 4, 0, 1, 5, 2, 3, 1, 2, 3, 0, 0, 1, 2, 0, 2, 6, 14]
def xdp (y : Nat) : Nat := xnth xdpL y
/-- the word of a method's code -/
noncomputable def xwH (y : Nat) : Cond := match (xhh y).isEmpty with
  | true => Cond.code (xY y) (xCode y) (xml y) (xRet y)
  | false => Cond.codeWith (xY y) (xCode y) (xml y) (xRet y) (xhh y)
noncomputable def xwM (y : Nat) : List Cond := xwH y :: xwA
theorem xwH_n {y : Nat} (h : (xhh y).isEmpty = true) : xwH y = Cond.code (xY y) (xCode y) (xml y) (xRet y) := by unfold xwH; rw [h]
theorem xwH_h {y : Nat} (h : (xhh y).isEmpty = false) : xwH y = Cond.codeWith (xY y) (xCode y) (xml y) (xRet y) (xhh y) := by unfold xwH; rw [h]
theorem xys_all : (List.range 196).all (fun y => ((xhh y).isEmpty && xnor.contains y) || (!(xhh y).isEmpty && xhan.contains y)) = true := by decide +kernel
theorem xwH_mem {y : Nat} (hy : y < 196) : xwH y ∈ xwA := by
  have h := List.all_eq_true.mp xys_all y (List.mem_range.mpr hy)
  rcases (Bool.or_eq_true _ _).mp h with h | h
  · rw [xwH_n (and_l h)]
    exact xcode_ok y (List.contains_iff_mem.mp (and_r h))
  · rw [xwH_h (by simpa using and_l h)]
    exact xcodeW_ok y (List.contains_iff_mem.mp (and_r h))
theorem xwA_in {ws : List Cond} (h : ∀ w ∈ ws, w ∈ xwA) : GoodIn xwA ws := fun w hw => ⟨h w hw, good_of_word (xwA_good (h w hw))⟩
theorem xwM_mem {y : Nat} (hy : y < 196) : ∀ w ∈ xwM y, w ∈ xwA := fun w hw => (List.mem_cons.mp hw).elim (fun e => e ▸ xwH_mem hy) id
theorem xwM_in {y : Nat} (hy : y < 196) : GoodIn xwA (xwM y) := xwA_in (xwM_mem hy)
/-- facts of a method -/
def xmfact (y : Nat) : Bool := ((Nat.beq y 44 || (Nat.beq y 47 || plainName (xY y).cls)) && ((xY y).cls != "java/lang/invoke/MethodHandle" && (xY y).cls != "java/lang/invoke/VarHandle")) && (Nat.ble (xml y) 21 && Nat.blt (xoc y) 21)
theorem xmfact_all : (List.range 197).all xmfact = true := by decide +kernel
theorem xini_of {oc : Nat} (h : oc < 21) : Cond.initialized (xcn oc) ∈ xwA := xini_ok oc (by
  have : oc ∈ List.range 21 := List.mem_range.mpr h
  exact this)
/-- how many parameters -/
def xpn (y n : Nat) : Bool := match parseMethodDescriptor (xY y).desc with
  | some d => Nat.beq d.parameters.length n
  | none => false
theorem xpn_ok {y n : Nat} (h : xpn y n = true) : (parseMethodDescriptor (xY y).desc).map (fun d => d.parameters.length) = some n := by
  unfold xpn at h
  split at h
  · rename_i d hd
    rw [hd]
    exact congrArg some (Nat.eq_of_beq_eq_true h)
  · cases h
/-- the rows that catch -/
def xhx (E : Nat) : Nat := match E with
  | 0 => 13
  | 1 => 19
  | 2 => 29
  | _ => 34
def xhok (C : List xE) (pc : Nat) : List Nat → List (Nat × Nat × Nat × Nat) → Bool
  | [], [] => true
  | E :: t :: r, (a, b, h, ix) :: z => ((Nat.ble a pc && Nat.blt pc b) && (Nat.beq h (xpc (C.drop t)) && (Nat.blt E 4 && Nat.beq ix (xhx E)))) && xhok C pc r z
  | _, _ => false
/-- the manner of a call -/
def xokH (y y' : Nat) (C : List xE) (pc : Nat) (hs : List Nat) : Bool := match hs with
  | [] => (!Nat.beq y 196 && (!xreg y && !xreg y')) && (xhh y).all (fun q => !(Nat.ble q.1 pc && Nat.blt pc q.2.1))
  | 0 :: _ => xreg y == xreg y'
  | 1 :: i :: _ => xreg y && (!xreg y' && Nat.blt i 5)
  | 2 :: _ => false
  | _ => false
def xrets0 (hs : List Nat) : Bool := match hs with
  | 0 :: _ => true
  | 1 :: _ => true
  | _ => false
def xokY (y y' : Nat) (C : List xE) (pc : Nat) (hs : List Nat) : Bool := (Nat.blt y' 196 && Nat.blt (xdp y') (xdp y)) && xokH y y' C pc hs
/-- an entry of a call: by the instruction -/
def xokCV (y : Nat) (C : List xE) (pc ix : Nat) (aux : List Nat) : Bool := match aux with
  | [] => true
  | y' :: n :: t :: kx :: rk :: hs => (match Nat.beq y' 9999 with
    | true => (Nat.beq (xoc y) 17 && Nat.beq ix 310) && ((Nat.beq n 1 && Nat.beq t 3) && (Nat.beq kx 47 && (Nat.beq rk 0 && decide (hs = [4, 47]))))
    | false => (xokY y y' C pc hs && !Nat.beq kx 51) && (((Nat.blt 0 n && Nat.blt 0 rk) && (Nat.blt rk 51 && !(xfd rk).isEmpty)) && ((xpn y' (n - 1) && (xhh y').isEmpty) && (xcal.contains ((xoc y, ix), 0, y', rk) || (xrets0 hs && ((xcal.contains ((xoc y, ix), 5, y', rk) && Nat.beq rk 43) || (xcal.contains ((xoc y, ix), 7, y', rk) && Nat.beq rk 50)))))))
  | _ => false
def xokCS (y : Nat) (C : List xE) (pc ix : Nat) (aux : List Nat) : Bool := match aux with
  | [] => true
  | y' :: n :: t :: kx :: rk :: hs => (match Nat.beq y' 9999 with
    | true => xnat.contains (xoc y, ix) && ((Nat.beq n 5 && Nat.beq t 0) && (Nat.beq rk 0 && decide (hs = [3])))
    | false => (xokY y y' C pc hs && !Nat.beq kx 51) && (xpn y' n && (((xcal.contains ((xoc y, ix), 1, y', 0) && (xhh y').isEmpty) || (xcal.contains ((xoc y, ix), 8, y', 0) && !(xhh y').isEmpty)) || (xrets0 hs && (xcal.contains ((xoc y, ix), 2, y', 0) && (xhh y').isEmpty)))))
  | _ => false
def xokCI (y : Nat) (C : List xE) (pc ix : Nat) (aux : List Nat) : Bool := match aux with
  | [] => true
  | y' :: n :: t :: kx :: rk :: hs => (match Nat.beq y' 9999 with
    | true => xobj.contains (xoc y, ix) && ((Nat.beq n 1 && Nat.beq t 0) && (Nat.beq rk 0 && decide (hs = [5])))
    | false => (xokY y y' C pc hs && !Nat.beq kx 51) && (((Nat.blt 0 n && Nat.blt 0 rk) && Nat.blt rk 51) && ((xrets0 hs && (xpn y' (n - 1) && (xhh y').isEmpty)) && ((((xY y').name == "<init>" && decide (xRet y' = none)) && xcal.any (fun q => Nat.beq q.1.1 (xoc y) && (Nat.beq q.1.2 ix && (Nat.beq q.2.2.1 y' && (Nat.beq q.2.1 3 || Nat.beq q.2.1 4))))) || ((xcal.contains ((xoc y, ix), 6, y', rk) && !(xfd rk).isEmpty) && !((xY y').name == "<init>"))))))
  | _ => false
def xokC (y : Nat) (C : List xE) (pc : Nat) (i : Instr) (aux : List Nat) : Bool := match i with
  | .invokevirtual ix => xokCV y C pc ix aux
  | .invokestatic ix => xokCS y C pc ix aux
  | .invokespecial ix => xokCI y C pc ix aux
  | .new _ => (match aux with
    | [E, n] => Nat.beq n 6 && xthL.any (fun q => Nat.beq q.1 y && (Nat.beq q.2.1 pc && Nat.beq q.2.2.1 E))
    | [_] => false
    | _ => true)
  | _ => true
/-- a whole table -/
noncomputable def xokT (y : Nat) (C : List xE) : List xE → Bool
  | [] => true
  | q :: cs => (xok y C q (xpc cs) && xokC y C q.1 q.2.1 q.2.2.1) && xokT y C cs
theorem xmfact_n {y : Nat} (hy : y < 197) : ((y ≠ 44 ∧ y ≠ 47) → plainName (xY y).cls = true) ∧ (xY y).cls ≠ "java/lang/invoke/MethodHandle" ∧ (xY y).cls ≠ "java/lang/invoke/VarHandle" ∧ xml y ≤ 21 ∧ xoc y < 21 := by
  have h := List.all_eq_true.mp xmfact_all y (List.mem_range.mpr hy)
  unfold xmfact at h
  rw [Bool.and_eq_true, Bool.and_eq_true, Bool.and_eq_true, Bool.and_eq_true, bne_iff_ne, bne_iff_ne] at h
  obtain ⟨⟨h1, h2, h3⟩, h4, h5⟩ := h
  refine ⟨fun hne => ?_, h2, h3, Nat.le_of_ble_eq_true h4, Nat.le_of_ble_eq_true h5⟩
  rcases (Bool.or_eq_true _ _).mp h1 with h | h
  · exact absurd (Nat.eq_of_beq_eq_true h) hne.1
  · rcases (Bool.or_eq_true _ _).mp h with h | h
    · exact absurd (Nat.eq_of_beq_eq_true h) hne.2
    · exact h
/-- what a start gives of the exceptions, with what catches them -/
def xCe (A : Nat → Prop) (s : State) : Prop := xCt A s ∧ ∀ E, E < 4 → va_Nw (.castable (xEn E) (xEn E)) s
theorem xCs.to {A : Nat → Prop} {ad : xA} {s U : State} (hW : s.WarmedH U.vm) (hk : ∀ a : Nat, a < s.heap.size → ¬ A a → U.heap[a]? = s.heap[a]?) (h : xCs A ad s) : xCs A ad U := by
  obtain ⟨z1, z2, z3, z4, z5, z6, z7, z8⟩ := h
  exact ⟨fun q hq => (z1 q hq).warm hW, fun q hq => ((z2 q hq).moved hW.alike).kept hk, fun q hq => va_Nw.warmF hW (z3 q hq), z4.moved hW.alike, z5.moved hW.alike, va_Nw.warmC hW z6, fun q hq => va_Nw.warmM hW (z7 q hq), fun q hq => va_Nw.warmM hW (z8 q hq)⟩
theorem xCe.to {A : Nat → Prop} {s U : State} (hW : s.WarmedH U.vm) (hk : ∀ a : Nat, a < s.heap.size → ¬ A a → U.heap[a]? = s.heap[a]?) (h : xCe A s) : xCe A U := by
  obtain ⟨⟨z1, z2, z3, z4, z5⟩, z6⟩ := h
  refine ⟨⟨fun q hq => ?_, (z2.moved hW.alike).kept hk, (z3.moved hW.alike).kept hk, fun E E' h1 h2 h3 => (z4 E E' h1 h2 h3).moved hW.alike, fun E hE w hw hx => ?_⟩, fun E hE => va_Nw.warmC hW (z6 E hE)⟩
  · obtain ⟨sa, h⟩ := z1 q hq
    exact ⟨sa, h.warm hW⟩
  · have h := z5 E hE w hw hx
    unfold xdc at hx
    split at hx
    · exact va_Nw.warmD hW h
    · exact va_Nw.warmC hW h
    · cases hx
theorem xstt_kinds : xstt.all (fun S => match S.2.2.2 with
  | (k, .ref _) => Nat.blt k 60
  | _ => true) = true := by decide +kernel
theorem xlds_lt : xlds.all (fun q => Nat.blt q.2 13) = true := by decide +kernel
theorem xCs.sm {A : Nat → Prop} {ad ad' : xA} {M : xM} {s : State} (h : xSm ad ad' M) (hK : xK M) (Z : xCs A ad s) : xCs A ad' s := by
  obtain ⟨z1, z2, z3⟩ := Z
  refine ⟨fun q hq => ?_, fun q hq => ?_, z3⟩
  · have hlt : q.2 < 13 := Nat.le_of_ble_eq_true (List.all_eq_true.mp xlds_lt q hq)
    rw [h.1 46 q.2 (by omega) (by omega) (Nat.lt_of_lt_of_le hlt hK.2.2.2.2.1)]
    exact z1 q hq
  · have e : xenc ad' q.2.2.2 = xenc ad q.2.2.2 := by
      obtain ⟨c, n, d, k, w⟩ := q
      cases w with
      | ref o =>
        by_cases h51 : k = 51
        · subst h51
          show xenc ad' (51, .ref o) = xenc ad (51, .ref o)
          unfold xenc
          simp only
          rw [h.2 o]
        · have hlive := xstt_live hq rfl h51 hK
          have hk : k < 60 := by
            have h9 := List.all_eq_true.mp xstt_kinds _ hq
            exact Nat.le_of_ble_eq_true h9
          show xenc ad' (k, .ref o) = xenc ad (k, .ref o)
          rw [xenc_ref h51, xenc_ref h51, h.1 k o hk h51 hlive]
      | _ => rfl
    rw [e]
    exact z2 q hq
/-- a method's arguments in its frame -/
theorem xarg_len : ∀ (as : List xV) (n : Nat), xaw as ≤ n → (xarg n as).length = n
  | [], n, _ => by simp [xarg]
  | a :: r, n, h => by
    unfold xaw at h
    obtain ⟨k, w⟩ := a
    cases w with
    | long x =>
      have h' : 2 + xaw r ≤ n := h
      show ((k, Value.long x) :: xJ :: xarg (n - 2) r).length = n
      rw [List.length_cons, List.length_cons, xarg_len r (n - 2) (by omega)]
      omega
    | double x =>
      have h' : 2 + xaw r ≤ n := h
      show ((k, Value.double x) :: xJ :: xarg (n - 2) r).length = n
      rw [List.length_cons, List.length_cons, xarg_len r (n - 2) (by omega)]
      omega
    | int x =>
      have h' : 1 + xaw r ≤ n := h
      show ((k, Value.int x) :: xarg (n - 1) r).length = n
      rw [List.length_cons, xarg_len r (n - 1) (by omega)]
      omega
    | float x =>
      have h' : 1 + xaw r ≤ n := h
      show ((k, Value.float x) :: xarg (n - 1) r).length = n
      rw [List.length_cons, xarg_len r (n - 1) (by omega)]
      omega
    | ref x =>
      have h' : 1 + xaw r ≤ n := h
      show ((k, Value.ref x) :: xarg (n - 1) r).length = n
      rw [List.length_cons, xarg_len r (n - 1) (by omega)]
      omega
    | null =>
      have h' : 1 + xaw r ≤ n := h
      show ((k, Value.null) :: xarg (n - 1) r).length = n
      rw [List.length_cons, xarg_len r (n - 1) (by omega)]
      omega
    | retAddr x =>
      have h' : 1 + xaw r ≤ n := h
      show ((k, Value.retAddr x) :: xarg (n - 1) r).length = n
      rw [List.length_cons, xarg_len r (n - 1) (by omega)]
      omega
theorem xlv_J {ad : xA} : ∀ (n i : Nat), xlv ad (List.replicate n xJ) i = []
  | 0, _ => rfl
  | n + 1, i => by
    show xlv ad (xJ :: List.replicate n xJ) i = []
    unfold xlv
    exact xlv_J n (i + 1)
theorem xarg_lv (ad : xA) : ∀ (as : List xV) (n i : Nat), ∀ q ∈ xlv ad (xarg n as) i, q ∈ lv_args i (as.map (xenc ad))
  | [], n, i => by
    intro q hq
    rw [show xarg n [] = List.replicate n xJ from rfl, xlv_J] at hq
    cases hq
  | a :: r, n, i => by
    intro q hq
    obtain ⟨k, w⟩ := a
    have one : ∀ (v : Value), xenc ad (k, w) = v → ¬ v.category = 2 → q ∈ xlv ad ((k, w) :: xarg (n - 1) r) i → q ∈ lv_args i ((xenc ad (k, w)) :: r.map (xenc ad)) := fun v hv hc hq => by
      unfold lv_args
      rw [hv, if_neg hc]
      unfold xlv at hq
      split at hq
      · exact List.mem_cons_of_mem _ (xarg_lv ad r (n - 1) (i + 1) q hq)
      · rcases List.mem_cons.mp hq with e | hq
        · exact List.mem_cons.mpr (Or.inl (by rw [e, hv]))
        · exact List.mem_cons_of_mem _ (xarg_lv ad r (n - 1) (i + 1) q hq)
    cases w with
    | long x =>
      have hq2 : q ∈ xlv ad ((k, Value.long x) :: xJ :: xarg (n - 2) r) i := hq
      show q ∈ lv_args i (Value.long x :: r.map (xenc ad))
      unfold lv_args
      rw [if_pos (show (Value.long x).category = 2 from rfl)]
      unfold xlv at hq2
      rcases List.mem_cons.mp hq2 with e | hq3
      · exact List.mem_cons.mpr (Or.inl e)
      · refine List.mem_cons_of_mem _ (xarg_lv ad r (n - 2) (i + 2) q ?_)
        unfold xlv at hq3
        exact hq3
    | double x =>
      have hq2 : q ∈ xlv ad ((k, Value.double x) :: xJ :: xarg (n - 2) r) i := hq
      show q ∈ lv_args i (Value.double x :: r.map (xenc ad))
      unfold lv_args
      rw [if_pos (show (Value.double x).category = 2 from rfl)]
      unfold xlv at hq2
      rcases List.mem_cons.mp hq2 with e | hq3
      · exact List.mem_cons.mpr (Or.inl e)
      · refine List.mem_cons_of_mem _ (xarg_lv ad r (n - 2) (i + 2) q ?_)
        unfold xlv at hq3
        exact hq3
    | ref o => exact one _ rfl (xenc_cat rfl) hq
    | int x => exact one _ rfl (xenc_cat (v := (k, Value.int x)) (ad := ad) rfl) hq
    | float x => exact one _ rfl (xenc_cat (v := (k, Value.float x)) (ad := ad) rfl) hq
    | null => exact one _ rfl (xenc_cat (v := (k, Value.null)) (ad := ad) rfl) hq
    | retAddr x => exact one _ rfl (xenc_cat (v := (k, Value.retAddr x)) (ad := ad) rfl) hq
theorem xarg_sl (ad : xA) : ∀ (as : List xV), (lg_sl (as.map (xenc ad))).length = xaw as
  | [] => rfl
  | a :: r => by
    have ih := xarg_sl ad r
    show ((if (xenc ad a).category = 2 then [Slot.val (xenc ad a), Slot.second] else [Slot.val (xenc ad a)]) ++ lg_sl (r.map (xenc ad))).length = _
    rw [List.length_append, ih]
    show _ = (match xwide a with
      | true => 2
      | false => 1) + xaw r
    cases hw : xwide a with
    | false => rw [if_neg (xenc_cat hw)]; rfl
    | true =>
      obtain ⟨k, w⟩ := a
      cases w with
      | long x => rw [if_pos (show (xenc ad (k, Value.long x)).category = 2 from rfl)]; rfl
      | double x => rw [if_pos (show (xenc ad (k, Value.double x)).category = 2 from rfl)]; rfl
      | _ => cases hw
theorem xarg_all {P : xV → Prop} (hJ : P xJ) : ∀ (as : List xV) (n : Nat), (∀ v ∈ as, P v) → ∀ v ∈ xarg n as, P v
  | [], n, _ => fun v hv => by
    rw [show xarg n [] = List.replicate n xJ from rfl] at hv
    rw [List.eq_of_mem_replicate hv]
    exact hJ
  | a :: r, n, h => fun v hv => by
    have hr : ∀ v ∈ r, P v := fun v hv => h v (List.mem_cons_of_mem _ hv)
    have ha : P a := h a List.mem_cons_self
    obtain ⟨k, w⟩ := a
    have one : v ∈ (k, w) :: xarg (n - 1) r → P v := fun hv => by
      rcases List.mem_cons.mp hv with e | hv
      · rw [e]; exact ha
      · exact xarg_all hJ r _ hr v hv
    have two : v ∈ (k, w) :: xJ :: xarg (n - 2) r → P v := fun hv => by
      rcases List.mem_cons.mp hv with e | hv
      · rw [e]; exact ha
      · rcases List.mem_cons.mp hv with e | hv
        · rw [e]; exact hJ
        · exact xarg_all hJ r _ hr v hv
    cases w with
    | long x => exact two hv
    | double x => exact two hv
    | _ => exact one hv
theorem xarg_lr (ad : xA) {as : List xV} {n : Nat} (h : xaw as ≤ n) : xlr ad n ((lg_sl (as.map (xenc ad)) ++ List.replicate (n - (lg_sl (as.map (xenc ad))).length) Slot.unset).toArray) (xarg n as) :=
  ⟨xarg_len as n h, lv_less (lv_entry _ (by rw [xarg_sl]; exact h)) (xarg_lv ad as n 0)⟩
/-- what a method is called with -/
def xPc (A : Nat → Prop) (ad : xA) (M : xM) (as : List xV) : Array Value → State → Prop := fun a U =>
  a = (as.map (xenc ad)).toArray ∧ xWd U A ad M U.heap ∧ xAp A ad M ∧ xWT M ∧ xBt M ∧ xK M ∧ xCs A ad U ∧ xCe A U ∧ ∀ q, U.heap.size ≤ q → A q
theorem xPc_blind {A : Nat → Prop} {ad : xA} {M : xM} {as : List xV} : FrameBlind (xPc A ad M as) := fun a U g mk h => by
  obtain ⟨h1, h2, h3, h4, h5, h6, h7, h8, h9⟩ := h
  have hW : U.WarmedH (U.calling g mk a).vm := State.WarmedH.refl U
  exact ⟨h1, h2.moved hW.alike, h3, h4, h5, h6, h7.to hW (fun _ _ _ => rfl), h8.to hW (fun _ _ _ => rfl), h9⟩
theorem xPc_of {A : Nat → Prop} {ad : xA} {M : xM} {as : List xV} {s : State} {H : Heap} {locs : List Loc} (I : xInv s A ad M s.heap H locs) (Z : xCs A ad s) (Ze : xCe A s) (hAA : ∀ q, s.heap.size ≤ q → A q) {a : Array Value} (ha : a = (as.map (xenc ad)).toArray) : ∀ U : State, U.heap = H → s.WarmedH U.vm → xPc A ad M as a U := fun U hU hW => by
  obtain ⟨h1, h2, h3, h4, h5, h6⟩ := I
  have hk : ∀ a : Nat, a < s.heap.size → ¬ A a → U.heap[a]? = s.heap[a]? := fun a h7 h8 => by rw [hU]; exact h6.2.1 a h7 h8
  exact ⟨ha, by rw [hU]; exact h1.moved hW.alike, h2, h3, h4, h5, Z.to hW hk, Ze.to hW hk, fun q hq => hAA q (Nat.le_trans h6.1 (by rw [← hU]; exact hq))⟩
/-- the room of a method -/
def xrm (y : Nat) (M : xM) (r : (Option xV ⊕ Nat) × xM) : Room := { frames := 10 + xdp y, locals := 240 + 40 * xdp y, cells := gn r.2 100 0 0 - gn M 100 0 0, slots := gn r.2 100 0 1 - gn M 100 0 1 }
/-- what a method owes: it does what the pure machine says -/
def xMt (l : Launch) (y : Nat) (A : Nat → Prop) (ad : xA) (M : xM) (rg : Option (List (Nat × Nat))) (as : List xV) (r : (Option xV ⊕ Nat) × xM) : Prop :=
  vx_Met l (xY y) (xwM y) (xrm y M r) (xPc A ad M as) (xQc A ad M rg r) (xXC A ad M r) (gn r.2 100 0 0 - gn M 100 0 0) (gn r.2 100 0 1 - gn M 100 0 1) A
theorem xMt_ret {l : Launch} {y : Nat} {A : Nat → Prop} {ad : xA} {M : xM} {rg : Option (List (Nat × Nat))} {as : List xV} {v : Option xV} {M' : xM} (h : xMt l y A ad M rg as (.inl v, M')) :
    Met l (xY y) (xwM y) (xrm y M (.inl v, M')) (xPc A ad M as) (xQc A ad M rg (.inl v, M')) (gn M' 100 0 0 - gn M 100 0 0) (gn M' 100 0 1 - gn M 100 0 1) A := by
  intro p e h1 h2 h3 s m args below h4 h5 h6 h7
  obtain ⟨n, o, g1, g2, g3, g4⟩ := h p e h1 h2 h3 s m args below h4 h5 h6 h7
  refine ⟨n, o, g1, g2, g3, ?_⟩
  rcases g4 with g4 | ⟨q, -, E, ce, L, ⟨k, ad', hk, -⟩, -⟩
  · exact g4
  · cases hk
