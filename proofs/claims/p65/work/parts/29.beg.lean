/-! THE WORLD AT THE START. -/
theorem xsel_sub {y : MethodName} {C : String} {s : State} {args : Array Value} {n : Nat} (hy : y.cls ≠ "java/lang/invoke/MethodHandle" ∧ y.cls ≠ "java/lang/invoke/VarHandle")
    (hins : (Cond.instantiable C n).before args s = true) (hpriv : (Cond.privateMethod y).before args s = true) (hinst : (Cond.instanceMethod y).before args s = true) (hsame : (Cond.sameMethod y.cls y.cls y.name y.desc).before args s = true) :
    (Cond.selects C y y).before args s = true := by
  obtain ⟨c, k, hc, hk, -, hniab, -, -⟩ := Cond.instantiable_spec hins
  obtain ⟨cn, ck, r1, hcn, hck, hni, -, -⟩ := Cond.sameMethod_found hsame
  obtain ⟨mk, methM, hnamed, hmethM, -, -⟩ := Cond.instanceMethod_spec hinst
  have hfound : s.methodFound? y.cls y.name y.desc = some mk := State.methodFound?_of_named hnamed hy
  have hcls : mk.cls = cn := Option.some.inj ((findClass_of_methodNamed hnamed).symm.trans hcn)
  have hsel : selectMethod {} s.vm c mk = .method mk := selectMethod_private hmethM (Cond.privateMethod_at hpriv mk methM hnamed hmethM)
  simp only [Cond.before, Cond.holds, Cond.value, hc, hfound, hnamed, hsel, hcls, hck]
  simp; exact hni
theorem xts_all {args : Array Value} {s : State} (hts : ∀ w ∈ lw_tbl, w.before args s = true) : ∀ w ∈ xTb, w.before args s = true := by
  have at9 : ∀ {i : Nat} {w : Cond}, xTb[i]? = some w → 4 ≤ i → w.before args s = true := fun {i w} h hi => by
    refine hts w (List.mem_of_getElem? (i := i - 4) ?_)
    have h1 : (xwx ++ lw_tbl)[i]? = some w := h
    rw [List.getElem?_append_right (by show 4 ≤ i; exact hi)] at h1
    exact h1
  have h778 : (Cond.instantiable "java/lang/StringBuilder" 4).before args s = true := at9 xSB_new (by decide)
  intro w hw
  rcases List.mem_append.mp hw with h | h
  · rcases List.mem_cons.mp h with rfl | h
    · exact xsel_sub (y := ⟨"java/lang/AbstractStringBuilder", "ensureCapacityInternal", "(I)V"⟩) ⟨by decide, by decide⟩ h778 (at9 xtq_0.1.1 (by decide)) (at9 xtq_0.1.2 (by decide)) (at9 xtq_0.2 (by decide))
    · rcases List.mem_cons.mp h with rfl | h
      · exact xsel_sub (y := ⟨"java/lang/AbstractStringBuilder", "newCapacity", "(I)I"⟩) ⟨by decide, by decide⟩ h778 (at9 xtq_1.1.1 (by decide)) (at9 xtq_1.1.2 (by decide)) (at9 xtq_1.2 (by decide))
      · rcases List.mem_cons.mp h with rfl | h
        · exact xsel_sub (y := ⟨"java/lang/AbstractStringBuilder", "putStringAt", "(ILjava/lang/String;)V"⟩) ⟨by decide, by decide⟩ h778 (at9 xtq_2.1.1 (by decide)) (at9 xtq_2.1.2 (by decide)) (at9 xtq_2.2 (by decide))
        · rw [List.mem_singleton.mp h]
          exact xsel_sub (y := ⟨"java/lang/AbstractStringBuilder", "inflateIfNeededFor", "(Ljava/lang/String;)V"⟩) ⟨by decide, by decide⟩ h778 (at9 xtq_3.1.1 (by decide)) (at9 xtq_3.1.2 (by decide)) (at9 xtq_3.2 (by decide))
  · exact hts w h
theorem xget0_all {α : Type} {d : α} {P : α → Prop} (hd : P d) : ∀ {l : List α}, (∀ x ∈ l, P x) → ∀ i, P (xget0 d l i)
  | [], _, _ => hd
  | a :: _, h, 0 => h a List.mem_cons_self
  | _ :: r, h, i + 1 => xget0_all hd (l := r) (fun x hx => h x (List.mem_cons_of_mem _ hx)) i
section XST
variable {args : Array Value} {s : State}
theorem xref_of {k o a : Nat} (hk : k < 60) (h : (xtm k o).eval args s none [] s = some (.ref a)) : xad0 args s k o = a := by
  unfold xad0
  have : Nat.beq k 60 = false := by
    cases hb : Nat.beq k 60 with
    | false => rfl
    | true => have := Nat.eq_of_beq_eq_true hb; omega
  rw [this]
  simp only
  rw [h]
theorem xfield_of {t : Term} {a : Nat} {cell : Cell} {o n d : String} {v : Value} (ht : t.eval args s none [] s = some (.ref a)) (hc : s.heap[a]? = some cell) (hv : (Term.field t o n d).eval args s none [] s = some v) :
    (∃ (cf : ClassId) (kf : Class) (i : Nat) (fd : Field), s.fieldFound? o n d = some (cf, kf, i, fd) ∧ fd.isStatic = false ∧ cell.slots[fd.slot]? = some v) ∧ cell.vm ≠ .unknown := by
  cases hfo : s.fieldFound? o n d with
  | none =>
    rw [va_fe ht] at hv
    simp [State.fieldOf?, State.fieldNamed?, hfo] at hv
  | some x =>
    obtain ⟨cf, k, fi, f⟩ := x
    obtain ⟨g1, cell', g2, g3, g4, -, g6⟩ := Term.field_spec hfo ht hv
    cases hc.symm.trans g2
    exact ⟨⟨cf, k, fi, f, rfl, g1, g6⟩, g3⟩
theorem xOb_of {A : Nat → Prop} {M : xM} {ad : xA} {k o : Nat} {t : Term} (hA : ∀ a : Nat, a < s.heap.size → ¬ A a) (ht : t.eval args s none [] s = some (.ref (ad k o))) (hex : (Cond.exactly t (xcl k)).before args s = true) (hne : xfd k ≠ [])
    (hf : ∀ (f : Nat) (d : Nat × Nat × Nat), (xfd k)[f]? = some d → (Term.field t (xTf k f).1 (xTf k f).2.1 (xTf k f).2.2.1).eval args s none [] s = some (xfv ad M k o f d)) : xOb s A ad M s.heap k o := by
  obtain ⟨a, c, cell, k', q1, q2, q3, q4, q5, q6, -⟩ := Cond.exactly_spec (args := args) (first := s) (o := none) (s := s) (idx := []) hex
  obtain rfl : ad k o = a := by
    have h := ht.symm.trans q1
    injection h with h
    injection h
  refine ⟨cell, q3, q5, ?_, fun h => absurd h (hA _ (Array.getElem?_eq_some_iff.mp q3).1), by rw [q6]; exact q2, fun f d hd => (xfield_of ht q3 (hf f d hd)).1⟩
  cases hx : xfd k with
  | nil => exact absurd hx hne
  | cons d r => exact (xfield_of ht q3 (hf 0 d (by rw [hx]; rfl))).2
theorem xlen_of {t : Term} {a N : Nat} {cell : Cell} (hN : N < 2 ^ 31) (ht : t.eval args s none [] s = some (.ref a)) (hc : s.heap[a]? = some cell) (h : (Term.length t).eval args s none [] s = some (.int (Int32.ofNat N))) : cell.slots.size = N := by
  simp only [Term.eval, Option.bind_eq_bind, ht, Option.bind_some, Option.bind_eq_some_iff] at h
  obtain ⟨c2, h1, h2⟩ := h
  obtain ⟨h3, -⟩ := State.arrayAt?_spec h1
  cases hc.symm.trans h3
  split at h2
  · rename_i hlt
    have h4 : cell.slots.size.toInt32 = Int32.ofNat N := by
      injection h2 with h2
      injection h2
    have e1 : (Int32.ofNat cell.slots.size).toNatClampNeg = cell.slots.size := Int32.toNatClampNeg_ofNat_of_lt hlt
    have e2 : (Int32.ofNat N).toNatClampNeg = N := Int32.toNatClampNeg_ofNat_of_lt hN
    rw [← e1, ← e2]
    exact congrArg Int32.toNatClampNeg h4
  · cases h2
theorem xAr_of {A : Nat → Prop} {M : xM} {ad : xA} {k o N : Nat} {t : Term} {ty : FieldType} (hA : ∀ a : Nat, a < s.heap.size → ¬ A a) (ht : t.eval args s none [] s = some (.ref (ad k o))) (hN : N < 2 ^ 31) (harr : (Cond.arrayOf t ty).before args s = true)
    (hlen : (Term.length t).eval args s none [] s = some (.int (Int32.ofNat N))) (hl : xlen k o M = N) (hel : ∀ j : Nat, j < N → (Term.elem t (.int (Int32.ofNat j))).eval args s none [] s = some (xav ad M k o j)) : xAr s A ad M s.heap k o ty := by
  obtain ⟨t', ht', cell, h1, h2, h3, h4, h5, h6, h7⟩ := va_Tof (f := fun j => xav ad M k o j) (A := A) hN harr hlen hel hA
  obtain rfl : ad k o = t' := by
    have h := ht.symm.trans ht'
    injection h with h
    injection h
  exact ⟨cell, h1, h2, h3, fun h => absurd h h7, by rw [hl]; exact xlen_of hN ht h1 hlen, fun j hj => h6 j (by rw [← hl]; exact hj)⟩
theorem xel_at {t : Term} {n : Nat} {f : Nat → Term} {j : Nat} (hj : j < n) : Cond.eq (.elem t (.int (Int32.ofNat j))) (f j) ∈ xel t n f := List.mem_map.mpr ⟨j, List.mem_range.mpr hj, rfl⟩
theorem xex_ref {t : Term} {C : String} (hex : (Cond.exactly t C).before args s = true) : ∃ a : Nat, t.eval args s none [] s = some (.ref a) ∧ a < s.heap.size := by
  obtain ⟨a, c, cell, k', q1, q2, q3, -⟩ := Cond.exactly_spec (args := args) (first := s) (o := none) (s := s) (idx := []) hex
  exact ⟨a, q1, (Array.getElem?_eq_some_iff.mp q3).1⟩
theorem xar_ref {t : Term} {n : Int32} (h : (Cond.eq (.length t) (.int n)).before args s = true) : ∃ a : Nat, t.eval args s none [] s = some (.ref a) ∧ a < s.heap.size := by
  obtain ⟨a, cell, h1, h2, -⟩ := Term.length_spec (va_eqt h)
  exact ⟨a, h1, (Array.getElem?_eq_some_iff.mp (State.arrayAt?_spec h2).1).1⟩
theorem xc0_cs {k : Nat} (h : xc0 k ≠ 0) : k = 41 ∨ k = 42 ∨ k = 43 ∨ k = 46 ∨ k = 47 ∨ k = 48 ∨ k = 52 := by
  unfold xc0 at h
  split at h <;> simp_all
/-- the constants are where their terms say -/
theorem xad0_ok (hn : ∀ w ∈ xNw, w.before args s = true) {b : Nat} (hb : args = #[.ref b]) (hbl : b < s.heap.size) {k o : Nat} (ho : o < xc0 k) : (xtm k o).eval args s none [] s = some (.ref (xad0 args s k o)) ∧ xad0 args s k o < s.heap.size := by
  have key : ∀ (hk : k < 60), (∃ a : Nat, (xtm k o).eval args s none [] s = some (.ref a) ∧ a < s.heap.size) → (xtm k o).eval args s none [] s = some (.ref (xad0 args s k o)) ∧ xad0 args s k o < s.heap.size := fun hk ⟨a, h1, h2⟩ => by
    rw [xref_of hk h1]
    exact ⟨h1, h2⟩
  rcases xc0_cs (k := k) (by omega) with rfl | rfl | rfl | rfl | rfl | rfl | rfl
  · refine key (by decide) ⟨b, ?_, hbl⟩
    subst hb
    rfl
  · exact key (by decide) (xex_ref (hn _ (xn42 ho _ List.mem_cons_self)))
  · exact key (by decide) (xex_ref (hn _ (xn43 ho _ (List.mem_cons_self))))
  · exact key (by decide) (xex_ref (hn _ (xn46 ho _ (List.mem_cons_self))))
  · exact key (by decide) (xar_ref (hn _ (xn46 ho (.eq (.length (xtm 47 o)) (.int (Int32.ofNat (xnth xlen46 o)))) (by simp [xw46]))))
  · have : o = 0 := by have : o < 1 := ho; omega
    subst this
    exact key (by decide) (xar_ref (n := Int32.ofNat 100) (hn _ (xNw_sub xn48 _ (by simp [xwar]))))
  · have : o = 0 := by have : o < 1 := ho; omega
    subst this
    exact key (by decide) (xar_ref (n := Int32.ofNat 100) (hn _ (xNw_sub xn52 _ (by simp [xwar]))))
theorem xlen46_lt : xlen46.all (fun n => Nat.blt n 60000) = true := by decide +kernel
theorem xnth_all {P : Nat → Prop} (h0 : P 0) : ∀ {l : List Nat}, (∀ x ∈ l, P x) → ∀ i, P (xnth l i)
  | [], _, _ => h0
  | a :: _, h, 0 => h a List.mem_cons_self
  | _ :: r, h, i + 1 => xnth_all h0 (l := r) (fun x hx => h x (List.mem_cons_of_mem _ hx)) i
theorem xlen46_le (o : Nat) : xnth xlen46 o < 60000 := xnth_all (P := fun n => n < 60000) (by decide) (fun x hx => Nat.le_of_ble_eq_true (List.all_eq_true.mp xlen46_lt x hx)) o
theorem xbyt_all : xbyt.all (fun l => l.all (fun x => fits .byte (.int x))) = true ∧ (xdg1.all (fun x => fits .byte (.int x)) && xdg10.all (fun x => fits .byte (.int x))) = true := by decide +kernel
theorem xWd0 {L : Nat} {xs : Nat → Int32} (hn : ∀ w ∈ xNw, w.before args s = true) {b : Nat} (hb : args = #[.ref b]) (hbl : b < s.heap.size) (hX : va_X b L xs s s.heap) {A : Nat → Prop} (hA : ∀ a : Nat, a < s.heap.size → ¬ A a) : xWd s A (xad0 args s) (xM0 L xs) s.heap := by
  intro k o hk ho
  have ho : o < xc0 k := ho
  have hev := fun {k o : Nat} (ho : o < xc0 k) => (xad0_ok hn hb hbl (k := k) (o := o) ho).1
  have ht := hev ho
  rcases xc0_cs (k := k) (by omega) with rfl | rfl | rfl | rfl | rfl | rfl | rfl
  · refine ⟨fun h => absurd rfl h, fun ty hty => ?_⟩
    have : o = 0 := by have : o < 1 := ho; omega
    subst this
    obtain rfl : FieldType.int = ty := by injection hty
    obtain ⟨scr, h1, h2, h3, h4, h5⟩ := hX
    have e : xad0 args s 41 0 = b := xref_of (by decide) (by subst hb; rfl)
    exact ⟨scr, by rw [e]; exact h1, h2, h3, fun h => absurd h (hA _ (by rw [e]; exact hbl)), h4, fun j hj => h5 j hj⟩
  · exact ⟨fun h => absurd rfl h, fun ty hty => by cases hty⟩
  · exact ⟨fun h => absurd rfl h, fun ty hty => by cases hty⟩
  · refine ⟨fun _ => xOb_of hA ht (hn _ (xn46 ho _ List.mem_cons_self)) (by decide) (fun f d hd => ?_), fun ty hty => by cases hty⟩
    match f, hd with
    | 0, hd =>
      cases hd
      exact hev (k := 47) ho
    | 1, hd =>
      cases hd
      exact va_eqt (hn _ (xn46 ho (.eq (.field (xtm 46 o) "java/lang/String" "coder" "B") (.int 0)) (by simp [xw46])))
    | f + 2, hd => cases hd
  · refine ⟨fun h => absurd rfl h, fun ty hty => ?_⟩
    obtain rfl : FieldType.byte = ty := by injection hty
    have hl := xlen46_le o
    refine xAr_of hA ht (N := xnth xlen46 o) (by omega) (hn _ (xn46 ho (.arrayOf (xtm 47 o) .byte) (by simp [xw46]))) (va_eqt (hn _ (xn46 ho (.eq (.length (xtm 47 o)) (.int (Int32.ofNat (xnth xlen46 o)))) (by simp [xw46])))) rfl (fun j hj => ?_)
    exact va_eqt (hn _ (xn46 ho _ (List.mem_append_right _ (xel_at hj))))
  · refine ⟨fun h => absurd rfl h, fun ty hty => ?_⟩
    have : o = 0 := by have : o < 1 := ho; omega
    subst this
    obtain rfl : FieldType.byte = ty := by injection hty
    refine xAr_of hA ht (N := 100) (by decide) (hn _ (xNw_sub xn48 _ (List.mem_append_left _ List.mem_cons_self))) (va_eqt (hn _ (xNw_sub xn48 (.eq (.length (xtm 48 0)) (.int (Int32.ofNat 100))) (by simp [xwar])))) rfl (fun j hj => ?_)
    exact va_eqt (hn _ (xNw_sub xn48 _ (List.mem_append_right _ (xel_at hj))))
  · refine ⟨fun h => absurd rfl h, fun ty hty => ?_⟩
    have : o = 0 := by have : o < 1 := ho; omega
    subst this
    obtain rfl : FieldType.byte = ty := by injection hty
    refine xAr_of hA ht (N := 100) (by decide) (hn _ (xNw_sub xn52 _ (List.mem_append_left _ List.mem_cons_self))) (va_eqt (hn _ (xNw_sub xn52 (.eq (.length (xtm 52 0)) (.int (Int32.ofNat 100))) (by simp [xwar])))) rfl (fun j hj => ?_)
    exact va_eqt (hn _ (xNw_sub xn52 _ (List.mem_append_right _ (xel_at hj))))
end XST
