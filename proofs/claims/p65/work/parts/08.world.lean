/-! THE WORLD OF A STORE: addresses of things, what the heap holds of them. -/
abbrev xA : Type := Nat → Nat → Nat
/-- how many things of a kind there are -/
abbrev xc (M : xM) (k : Nat) : Nat := gn M 101 k 0
/-- whether a reference is set -/
abbrev xf (M : xM) (k o f : Nat) : Prop := gn M (200 + k) o f = 1
def xtg (t tw o x : Nat) : Nat := match t with
  | 2 => o
  | 3 => tw
  | 4 => x
  | _ => o + tw
def xfv (ad : xA) (M : xM) (k o f : Nat) (d : Nat × Nat × Nat) : Value := match d with
  | (0, _, _) => .int (gi M k o f)
  | (1, _, _) => .long (gl M k o f)
  | (t, tk, tw) => if gn M (200 + k) o f = 1 then .ref (ad tk (xtg t tw o (gn M k o f))) else .null
def xav (ad : xA) (M : xM) (k o j : Nat) : Value := match xat k with
  | some .long => .long (gl M k o j)
  | some .double => .double (gd M k o j)
  | some (.object _) => (match xae k with
    | some (tk, tw) => if gn M (200 + k) o j = 1 then .ref (ad tk (j + tw)) else .null
    | none => .null)
  | _ => .int (gi M k o j)
/-- a constant, there from the start -/
def xcst (k o : Nat) : Bool := !xmut k o
def xenc (ad : xA) (v : xV) : Value := match v with
  | (k, .ref o) => (match Nat.beq k 51 with
    | true => (match ad 60 o with
      | 0 => .null
      | n + 1 => .ref n)
    | false => .ref (ad k o))
  | (_, w) => w
def xOb (U : State) (A : Nat → Prop) (ad : xA) (M : xM) (H : Heap) (k o : Nat) : Prop :=
  ∃ cell : Cell, H[ad k o]? = some cell ∧ cell.vm.isStatics = false ∧ cell.vm ≠ .unknown ∧ (A (ad k o) → cell.vm = .none) ∧ U.vm.findClass (xcl k) = some cell.cls ∧
    ∀ (f : Nat) (d : Nat × Nat × Nat), (xfd k)[f]? = some d → ∃ (cf : ClassId) (kf : Class) (i : Nat) (fd : Field), U.fieldFound? (xTf k f).1 (xTf k f).2.1 (xTf k f).2.2.1 = some (cf, kf, i, fd) ∧ fd.isStatic = false ∧ cell.slots[fd.slot]? = some (xfv ad M k o f d)
def xAr (U : State) (A : Nat → Prop) (ad : xA) (M : xM) (H : Heap) (k o : Nat) (ty : FieldType) : Prop :=
  ∃ cell : Cell, H[ad k o]? = some cell ∧ U.isArrayOf cell ty ∧ cell.vm ≠ .unknown ∧ (A (ad k o) → cell.vm = .none ∧ (ty = .byte → U.vm.findClass "[B" = some cell.cls) ∧ ∀ C, ty = .object C → ∃ (kA : Class) (comp : ClassId), U.vm.classes[cell.cls]? = some kA ∧ kA.kind = .array comp ty ∧ U.vm.findClass C = some comp) ∧ cell.slots.size = xlen k o M ∧
    ∀ j, j < xlen k o M → cell.slots[j]? = some (xav ad M k o j)
def xWd (U : State) (A : Nat → Prop) (ad : xA) (M : xM) (H : Heap) : Prop :=
  ∀ k o, k < 60 → o < xc M k → (xfd k ≠ [] → xOb U A ad M H k o) ∧ ∀ ty, xat k = some ty → xAr U A ad M H k o ty
/-- kinds whose things lie in the heap -/
def xtrk (k : Nat) : Prop := xfd k ≠ [] ∨ xat k ≠ none
def xAp (A : Nat → Prop) (ad : xA) (M : xM) : Prop :=
  (∀ k o, k < 60 → o < xc M k → (A (ad k o) ↔ xcst k o = false)) ∧
  (∀ k o k' o', k < 60 → k' < 60 → o < xc M k → o' < xc M k' → xtrk k → xtrk k' → xcst k o = false → xcst k' o' = false → ad k o = ad k' o' → k = k' ∧ o = o') ∧
  ∀ o o', o < xc M 42 → o' < xc M 42 → ad 42 o = ad 42 o' → o = o'
/-- references that are set refer to something -/
def xWT (M : xM) : Prop :=
  (∀ k o f t tk tw, k < 60 → o < xc M k → (xfd k)[f]? = some (t, tk, tw) → 2 ≤ t → xf M k o f → xtg t tw o (gn M k o f) < xc M tk) ∧
  ∀ k o tk tw j, k < 60 → o < xc M k → xae k = some (tk, tw) → j < xnth xlens k → xf M k o j → j + tw < xc M tk
theorem xOb.moved {u U : State} {A : Nat → Prop} {ad : xA} {M : xM} {H : Heap} {k o : Nat} (hvm : u.vm.Alike U.vm) (h : xOb u A ad M H k o) : xOb U A ad M H k o := by
  obtain ⟨cell, h1, h2, h3, h4, h5, h6⟩ := h
  refine ⟨cell, h1, h2, h3, h4, by rw [hvm.findClass]; exact h5, fun f d hd => ?_⟩
  obtain ⟨cf, kf, i, fd, g1, g2⟩ := h6 f d hd
  obtain ⟨k', hi', -⟩ := State.fieldFound?_setVm hvm g1
  exact ⟨cf, k', i, fd, hi', g2⟩
theorem xAr.moved {u U : State} {A : Nat → Prop} {ad : xA} {M : xM} {H : Heap} {k o : Nat} {ty : FieldType} (hvm : u.vm.Alike U.vm) (h : xAr u A ad M H k o ty) : xAr U A ad M H k o ty := by
  obtain ⟨cell, h1, h2, h3, h4, h5⟩ := h
  refine ⟨cell, h1, State.isArrayOf_alike hvm h2, h3, fun hA => ⟨(h4 hA).1, fun ht => by rw [hvm.findClass]; exact (h4 hA).2.1 ht, fun C hC => ?_⟩, h5⟩
  obtain ⟨kA, comp, g1, g2, g3⟩ := (h4 hA).2.2 C hC
  obtain ⟨k', hk', he⟩ := hvm.2.2 _ _ g1
  exact ⟨k', comp, hk', by rw [he]; exact g2, by rw [hvm.findClass]; exact g3⟩
theorem xWd.moved {u U : State} {A : Nat → Prop} {ad : xA} {M : xM} {H : Heap} (hvm : u.vm.Alike U.vm) (h : xWd u A ad M H) : xWd U A ad M H := fun k o hk ho => ⟨fun hf => ((h k o hk ho).1 hf).moved hvm, fun ty ht => ((h k o hk ho).2 ty ht).moved hvm⟩
/-- a thing that doesn't change -/
theorem xOb.same {U : State} {A : Nat → Prop} {ad ad' : xA} {M M' : xM} {H H' : Heap} {k o : Nat} (h : xOb U A ad M H k o) (ha : ad' k o = ad k o) (hH : H'[ad k o]? = H[ad k o]?) (hv : ∀ f d, (xfd k)[f]? = some d → xfv ad' M' k o f d = xfv ad M k o f d) : xOb U A ad' M' H' k o := by
  obtain ⟨cell, h1, h2, h3, h4, h5, h6⟩ := h
  refine ⟨cell, by rw [ha, hH]; exact h1, h2, h3, by rw [ha]; exact h4, h5, fun f d hd => ?_⟩
  obtain ⟨cf, kf, i, fd, g1, g2, g3⟩ := h6 f d hd
  exact ⟨cf, kf, i, fd, g1, g2, by rw [hv f d hd]; exact g3⟩
theorem xAr.same {U : State} {A : Nat → Prop} {ad ad' : xA} {M M' : xM} {H H' : Heap} {k o : Nat} {ty : FieldType} (h : xAr U A ad M H k o ty) (ha : ad' k o = ad k o) (hH : H'[ad k o]? = H[ad k o]?) (hl : xlen k o M' = xlen k o M) (hv : ∀ j, j < xlen k o M → xav ad' M' k o j = xav ad M k o j) : xAr U A ad' M' H' k o ty := by
  obtain ⟨cell, h1, h2, h3, h4, h5, h6⟩ := h
  exact ⟨cell, by rw [ha, hH]; exact h1, h2, h3, by rw [ha]; exact h4, by rw [hl]; exact h5, fun j hj => by rw [hl] at hj; rw [hv j hj]; exact h6 j hj⟩
theorem xWd.lt {U : State} {A : Nat → Prop} {ad : xA} {M : xM} {H : Heap} (h : xWd U A ad M H) {k o : Nat} (hk : k < 60) (ho : o < xc M k) (hn : xfd k ≠ [] ∨ xat k ≠ none) : ad k o < H.size := by
  obtain ⟨h1, h2⟩ := h k o hk ho
  rcases hn with hn | hn
  · obtain ⟨cell, h, -⟩ := h1 hn
    exact (Array.getElem?_eq_some_iff.mp h).1
  · cases ht : xat k with
    | none => exact absurd ht hn
    | some ty =>
      obtain ⟨cell, h, -⟩ := h2 ty ht
      exact (Array.getElem?_eq_some_iff.mp h).1
/-- the values of things without a change of theirs -/
theorem xfv_eq {ad : xA} {M M' : xM} {k o f : Nat} {d : Nat × Nat × Nat} (h1 : M' k o f = M k o f) (h2 : gn M' (200 + k) o f = gn M (200 + k) o f) : xfv ad M' k o f d = xfv ad M k o f d := by
  obtain ⟨t, tk, tw⟩ := d
  have e1 : gi M' k o f = gi M k o f := by unfold gi; rw [h1]
  have e2 : gl M' k o f = gl M k o f := by unfold gl; rw [h1]
  have e3 : gn M' k o f = gn M k o f := by unfold gn; rw [h1]
  unfold xfv
  rw [e1, e2, e3, h2]
theorem xav_eq {ad : xA} {M M' : xM} {k o j : Nat} (h1 : M' k o j = M k o j) (h2 : gn M' (200 + k) o j = gn M (200 + k) o j) : xav ad M' k o j = xav ad M k o j := by
  have e1 : gi M' k o j = gi M k o j := by unfold gi; rw [h1]
  have e2 : gl M' k o j = gl M k o j := by unfold gl; rw [h1]
  have e3 : gd M' k o j = gd M k o j := by unfold gd; rw [h1]
  unfold xav
  rw [e1, e2, e3, h2]
theorem xlen_eq {k o : Nat} {M M' : xM} (h : gn M' (110 + k) o 0 = gn M (110 + k) o 0) : xlen k o M' = xlen k o M := by
  unfold xlen
  rw [h]
theorem xst_ne {M : xM} {k o s : Nat} {v : Value} {k' o' s' : Nat} (h : ¬ (k' = k ∧ o' = o ∧ s' = s)) : xst M k o s v k' o' s' = M k' o' s' := if_neg h
theorem xst_eq {M : xM} {k o s : Nat} {v : Value} : xst M k o s v k o s = v := if_pos ⟨rfl, rfl, rfl⟩
/-- two stores that differ at one place of one thing -/
def xch (M M' : xM) (k o f : Nat) : Prop := (∀ k', xc M' k' = xc M k') ∧ (∀ k' o' f', k' < 60 → ¬ (k' = k ∧ o' = o ∧ f' = f) → M' k' o' f' = M k' o' f' ∧ gn M' (200 + k') o' f' = gn M (200 + k') o' f') ∧ ∀ k' o', k' < 60 → gn M' (110 + k') o' 0 = gn M (110 + k') o' 0
theorem xch_st {M : xM} {k o s : Nat} {v : Value} (hk : k < 60) : xch M (xst M k o s v) k o s :=
  ⟨fun k' => gn_xst_ne (by omega), fun k' o' f' h1 h2 => ⟨xst_ne h2, gn_xst_ne (by omega)⟩, fun k' o' h => gn_xst_ne (by omega)⟩
theorem xch_fl {M : xM} {k o s : Nat} (hk : k < 60) : xch M (xst M (200 + k) o s (.ref 1)) k o s := by
  refine ⟨fun k' => gn_xst_ne (by omega), fun k' o' f' h1 h2 => ⟨xst_ne (by omega), ?_⟩, fun k' o' h => gn_xst_ne (by omega)⟩
  rw [gn_xst, if_neg]
  intro q
  exact h2 ⟨by omega, q.2.1, q.2.2⟩
theorem xch_sf {M : xM} {k o s : Nat} {v : Value} (hk : k < 60) : xch M (xst (xst M k o s v) (200 + k) o s (.ref 1)) k o s := by
  obtain ⟨a1, a2, a3⟩ := xch_st (M := M) (k := k) (o := o) (s := s) (v := v) hk
  obtain ⟨b1, b2, b3⟩ := xch_fl (M := xst M k o s v) (k := k) (o := o) (s := s) hk
  exact ⟨fun k' => (b1 k').trans (a1 k'), fun k' o' f' h1 h2 => ⟨(b2 k' o' f' h1 h2).1.trans (a2 k' o' f' h1 h2).1, (b2 k' o' f' h1 h2).2.trans (a2 k' o' f' h1 h2).2⟩, fun k' o' h => (b3 k' o' h).trans (a3 k' o' h)⟩
theorem xAp.ch {A : Nat → Prop} {ad : xA} {M M' : xM} (hc : ∀ k, xc M' k = xc M k) (h : xAp A ad M) : xAp A ad M' :=
  ⟨fun k o hk ho => h.1 k o hk (by rw [← hc]; exact ho), fun k o k' o' hk hk' ho ho' => h.2.1 k o k' o' hk hk' (by rw [← hc]; exact ho) (by rw [← hc]; exact ho'), fun o o' ho ho' => h.2.2 o o' (by rw [← hc]; exact ho) (by rw [← hc]; exact ho')⟩
/-- the words of the fields -/
theorem xlays_all : (List.range 60).all (fun k => Nat.beq k 43 || (List.range (xfd k).length).all (fun f => (xlay.contains (k, f) && !(xTf k f).2.2.2) || (xlayF.contains (k, f) && (xTf k f).2.2.2))) = true := by decide +kernel
theorem xlays {args : Array Value} {s : State} (hts : ∀ w ∈ xwA, w.before args s = true) {k f : Nat} {d : Nat × Nat × Nat} (hk : k < 60) (h43 : k ≠ 43) (hd : (xfd k)[f]? = some d) :
    ((xTf k f).2.2.2 = false ∧ (Cond.lays (xcl k) (xTf k f).1 (xTf k f).2.1 (xTf k f).2.2.1).before args s = true) ∨ ((xTf k f).2.2.2 = true ∧ (Cond.laysFinal (xcl k) (xTf k f).1 (xTf k f).2.1 (xTf k f).2.2.1).before args s = true) := by
  have h1 := List.all_eq_true.mp xlays_all k (List.mem_range.mpr hk)
  have hf : f < (xfd k).length := (List.getElem?_eq_some_iff.mp hd).1
  rcases (Bool.or_eq_true _ _).mp h1 with h | h
  · exact absurd (Nat.eq_of_beq_eq_true h) h43
  · have h2 := List.all_eq_true.mp h f (List.mem_range.mpr hf)
    rcases (Bool.or_eq_true _ _).mp h2 with h | h
    · rw [Bool.and_eq_true] at h
      exact Or.inl ⟨by simpa using h.2, hts _ (xlay_ok (k, f) (List.contains_iff_mem.mp h.1))⟩
    · rw [Bool.and_eq_true] at h
      exact Or.inr ⟨h.2, hts _ (xlayF_ok (k, f) (List.contains_iff_mem.mp h.1))⟩
theorem xnames_all : (List.range 60).all (fun k => (List.range (xfd k).length).all (fun f => (List.range (xfd k).length).all (fun g => Nat.beq f g || !((xTf k f).2.1 == (xTf k g).2.1)))) = true := by decide +kernel
theorem xnames {k f g : Nat} {d d' : Nat × Nat × Nat} (hk : k < 60) (hd : (xfd k)[f]? = some d) (hd' : (xfd k)[g]? = some d') (hne : f ≠ g) : (xTf k f).2.1 ≠ (xTf k g).2.1 := by
  have h1 := List.all_eq_true.mp (List.all_eq_true.mp (List.all_eq_true.mp xnames_all k (List.mem_range.mpr hk)) f (List.mem_range.mpr (List.getElem?_eq_some_iff.mp hd).1)) g (List.mem_range.mpr (List.getElem?_eq_some_iff.mp hd').1)
  rcases (Bool.or_eq_true _ _).mp h1 with h | h
  · exact absurd (Nat.eq_of_beq_eq_true h) hne
  · intro e
    rw [e] at h
    simp at h
/-- a field's type by its mark -/
theorem xtypes_all : (List.range 60).all (fun k => (List.range (xfd k).length).all (fun f => match (xfd k)[f]? with
  | some d => (match parseFieldDescriptor (xTf k f).2.2.1 with
    | some ty => (match d.1 with
      | 0 => (ty == .int || (ty == .byte || (ty == .boolean)))
      | 1 => ty == .long
      | _ => ty.isReference)
    | none => false)
  | none => false)) = true := by decide +kernel
theorem xtypes {k f : Nat} {d : Nat × Nat × Nat} (hk : k < 60) (hd : (xfd k)[f]? = some d) : ∃ ty, parseFieldDescriptor (xTf k f).2.2.1 = some ty ∧ (d.1 = 0 → ty = .int ∨ ty = .byte ∨ ty = .boolean) ∧ (d.1 = 1 → ty = .long) ∧ (2 ≤ d.1 → ty.isReference = true) := by
  have h1 := List.all_eq_true.mp (List.all_eq_true.mp xtypes_all k (List.mem_range.mpr hk)) f (List.mem_range.mpr (List.getElem?_eq_some_iff.mp hd).1)
  rw [hd] at h1
  simp only at h1
  split at h1
  · rename_i ty hty
    refine ⟨ty, hty, fun e => ?_, fun e => ?_, fun e => ?_⟩
    · rw [e] at h1
      simpa using h1
    · rw [e] at h1
      simpa using h1
    · split at h1
      · omega
      · omega
      · exact h1
  · cases h1
theorem xapart {args : Array Value} {s : State} (hts : ∀ w ∈ xwA, w.before args s = true) {k f g : Nat} {d d' : Nat × Nat × Nat} (hk : k < 60) (h43 : k ≠ 43) (hd : (xfd k)[f]? = some d) (hd' : (xfd k)[g]? = some d') (hne : f ≠ g)
    {cf kf i fd cf' kf' i' fd'} (hi : s.fieldFound? (xTf k f).1 (xTf k f).2.1 (xTf k f).2.2.1 = some (cf, kf, i, fd)) (hi' : s.fieldFound? (xTf k g).1 (xTf k g).2.1 (xTf k g).2.2.1 = some (cf', kf', i', fd')) : fd.slot ≠ fd'.slot := by
  obtain ⟨ty, hty, -⟩ := xtypes hk hd
  obtain ⟨ty', hty', -⟩ := xtypes hk hd'
  refine u_apart ((xlays hts hk h43 hd).elim (fun h => Or.inl h.2) (fun h => Or.inr h.2)) ((xlays hts hk h43 hd').elim (fun h => Or.inl h.2) (fun h => Or.inr h.2)) hi hi' ?_
  rw [(State.fieldFound?_type hi hty).1, (State.fieldFound?_type hi' hty').1]
  exact xnames hk hd hd' hne
/-- the world behind a store into a field -/
theorem xWd_put {args : Array Value} {s : State} (hts : ∀ w ∈ xwA, w.before args s = true) {A : Nat → Prop} {ad : xA} {M M' : xM} {H H' : Heap} {k o f : Nat} {d : Nat × Nat × Nat} (hW : xWd s A ad M H) (hP : xAp A ad M) (hk : k < 60) (ho : o < xc M k) (h43 : k ≠ 43) (hc : xcst k o = false) (hd : (xfd k)[f]? = some d) (hM : xch M M' k o f) (hat : xat k = none)
    {cell : Cell} {cf : ClassId} {kf : Class} {i : Nat} {fd : Field} (hcell : H[ad k o]? = some cell) (hi : s.fieldFound? (xTf k f).1 (xTf k f).2.1 (xTf k f).2.2.1 = some (cf, kf, i, fd)) (hlt : fd.slot < cell.slots.size) {v : Value} (hv : xfv ad M' k o f d = v)
    (e1 : H'[ad k o]? = some (cell.setSlot fd.slot v)) (e3 : ∀ q, q ≠ ad k o → H'[q]? = H[q]?) : xWd s A ad M' H' := by
  have htr : xtrk k := Or.inl (fun h => by rw [h] at hd; simp at hd)
  intro k' o' hk' ho'
  rw [hM.1] at ho'
  by_cases hsame : k' = k ∧ o' = o
  · obtain ⟨rfl, rfl⟩ := hsame
    refine ⟨fun hf => ?_, fun ty hty => by rw [hat] at hty; cases hty⟩
    obtain ⟨cell', h1, h2, h3, h4, h5, h6⟩ := (hW k' o' hk ho).1 hf
    obtain rfl : cell' = cell := Option.some.inj (h1.symm.trans hcell)
    refine ⟨_, e1, h2, h3, h4, h5, fun g d' hg => ?_⟩
    obtain ⟨cf', kf', i', fd', g1, g2, g3⟩ := h6 g d' hg
    refine ⟨cf', kf', i', fd', g1, g2, ?_⟩
    by_cases hgf : g = f
    · subst hgf
      obtain rfl : d' = d := Option.some.inj (hg.symm.trans hd)
      obtain ⟨-, -, -, rfl⟩ : cf' = cf ∧ kf' = kf ∧ i' = i ∧ fd' = fd := by
        have := g1.symm.trans hi
        simpa using this
      rw [Cell.slots_setSlot_self _ hlt, hv]
    · rw [Cell.slots_setSlot_ne _ (xapart hts hk h43 hd hg (fun e => hgf e.symm) hi g1), g3]
      obtain ⟨q1, q2⟩ := hM.2.1 k' o' g hk (fun q => hgf q.2.2)
      rw [xfv_eq q1 q2]
  · have hq : ∀ (hn : xfd k' ≠ [] ∨ xat k' ≠ none), H'[ad k' o']? = H[ad k' o']? := by
      intro hn
      refine e3 _ (fun e => ?_)
      by_cases hc' : xcst k' o' = false
      · exact hsame (hP.2.1 k' o' k o hk' hk ho' ho hn htr hc' hc e)
      · have h1 := (hP.1 k o hk ho).mpr hc
        rw [← e] at h1
        exact hc' ((hP.1 k' o' hk' ho').mp h1)
    refine ⟨fun hf => ((hW k' o' hk' ho').1 hf).same rfl (hq (Or.inl hf)) (fun g d' hg => ?_), fun ty hty => ((hW k' o' hk' ho').2 ty hty).same rfl (hq (Or.inr (by rw [hty]; exact fun h => nomatch h))) (xlen_eq (hM.2.2 k' o' hk')) (fun j hj => ?_)⟩
    · obtain ⟨q1, q2⟩ := hM.2.1 k' o' g hk' (fun q => hsame ⟨q.1, q.2.1⟩)
      exact xfv_eq q1 q2
    · obtain ⟨q1, q2⟩ := hM.2.1 k' o' j hk' (fun q => hsame ⟨q.1, q.2.1⟩)
      exact xav_eq q1 q2
/-- the world behind a store into an array -/
theorem xWd_ast {s : State} {A : Nat → Prop} {ad : xA} {M M' : xM} {H H' : Heap} {k o j : Nat} {ty : FieldType} (hW : xWd s A ad M H) (hP : xAp A ad M) (hk : k < 60) (ho : o < xc M k) (hc : xcst k o = false) (hM : xch M M' k o j) (hfd : xfd k = []) (hat : xat k = some ty)
    {cell : Cell} (hcell : H[ad k o]? = some cell) (hlt : j < cell.slots.size) {v : Value} (hv : xav ad M' k o j = v)
    (e1 : H'[ad k o]? = some (cell.setSlot j v)) (e3 : ∀ q, q ≠ ad k o → H'[q]? = H[q]?) : xWd s A ad M' H' := by
  have htr : xtrk k := Or.inr (by rw [hat]; exact fun h => nomatch h)
  intro k' o' hk' ho'
  rw [hM.1] at ho'
  by_cases hsame : k' = k ∧ o' = o
  · obtain ⟨rfl, rfl⟩ := hsame
    refine ⟨fun hf => absurd hfd hf, fun ty hty => ?_⟩
    obtain ⟨cell', h1, h2, h3, h4, h5, h6⟩ := (hW k' o' hk ho).2 ty hty
    obtain rfl : cell' = cell := Option.some.inj (h1.symm.trans hcell)
    refine ⟨_, e1, h2, h3, h4, ?_, fun g hg => ?_⟩
    · rw [xlen_eq (hM.2.2 k' o' hk)]
      show (cell'.slots.setIfInBounds _ _).size = _
      rw [Array.size_setIfInBounds]
      exact h5
    · rw [xlen_eq (hM.2.2 k' o' hk)] at hg
      by_cases hgf : g = j
      · subst hgf
        rw [Cell.slots_setSlot_self _ hlt, hv]
      · rw [Cell.slots_setSlot_ne _ (fun e => hgf e.symm), h6 g hg]
        obtain ⟨q1, q2⟩ := hM.2.1 k' o' g hk (fun q => hgf q.2.2)
        rw [xav_eq q1 q2]
  · have hq : ∀ (hn : xfd k' ≠ [] ∨ xat k' ≠ none), H'[ad k' o']? = H[ad k' o']? := by
      intro hn
      refine e3 _ (fun e => ?_)
      by_cases hc' : xcst k' o' = false
      · exact hsame (hP.2.1 k' o' k o hk' hk ho' ho hn htr hc' hc e)
      · have h1 := (hP.1 k o hk ho).mpr hc
        rw [← e] at h1
        exact hc' ((hP.1 k' o' hk' ho').mp h1)
    refine ⟨fun hf => ((hW k' o' hk' ho').1 hf).same rfl (hq (Or.inl hf)) (fun g d' hg => ?_), fun ty hty => ((hW k' o' hk' ho').2 ty hty).same rfl (hq (Or.inr (by rw [hty]; exact fun h => nomatch h))) (xlen_eq (hM.2.2 k' o' hk')) (fun j hj => ?_)⟩
    · obtain ⟨q1, q2⟩ := hM.2.1 k' o' g hk' (fun q => hsame ⟨q.1, q.2.1⟩)
      exact xfv_eq q1 q2
    · obtain ⟨q1, q2⟩ := hM.2.1 k' o' j hk' (fun q => hsame ⟨q.1, q.2.1⟩)
      exact xav_eq q1 q2
