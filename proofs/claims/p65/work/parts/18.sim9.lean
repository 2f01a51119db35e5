/-! The rows xs_chain, xs_ctor, xs_throwS, xs_throwSW follow proofs of the library (BundleChainS, BundleOwnThrow) and of the kit's EXCEPTIONS rows, for a constructor whose call of its super lies at any index. -/
def xs_ch (X : String) (ix : Nat) (rx : ByteArray) : List String → List Cond
  | [] => Bundle.passSAtoms X Bundle.tN ix rx
  | Y :: r => Bundle.passSAtoms X Y ix rx ++ Bundle.chainSAtoms Y r
theorem xs_chain {args : Array Value} {s : State} {pl : Platform} (hpl : pl.magicAccessors = ({} : Platform).magicAccessors) {top : MethodId} (htop : s.methodNamed? (Bundle.initS Bundle.tN) = some top)
    {ix : Nat} {rx : ByteArray} (x0 : decode rx 0 = .ok (.aload_n 0, 1)) (x1 : decode rx 1 = .ok (.aload_n 1, 1)) (x2 : decode rx 2 = .ok (.invokespecial ix, 3)) (x5 : decode rx 5 = .ok (.return_, 1))
    (names : List String) (X : String) (hX : Bundle.fit X = true) (hn : ∀ n ∈ names, Bundle.fit n = true) (h : ∀ c ∈ xs_ch X ix rx names, c.before args s = true) :
    ∃ (P1 : PassC) (Ps : List PassC), Ps.length = names.length ∧ P1.LinksS pl s ∧ (∀ P, P ∈ Ps → P.LinksS pl s) ∧ s.methodNamed? (Bundle.initS X) = some P1.m ∧
        P1.sup = firstOf top (Ps.map (·.toPassT)) ∧ PassesOn top (Ps.map (·.toPassT)) := by
  cases names with
  | nil =>
    obtain ⟨P, L, hm, hs⟩ := PassC.ofS_atoms (args := args) (s := s) hpl (X := X) (Y := Bundle.tN) (Bundle.fit_spec hX).1 (by decide) x0 x1 x2 x5 h
    exact ⟨P, [], rfl, L, (fun _ hP => by cases hP), hm, Option.some.inj (hs.symm.trans htop), trivial⟩
  | cons Y r =>
    obtain ⟨P, L, hm, hs⟩ := PassC.ofS_atoms (args := args) (s := s) hpl (X := X) (Y := Y) (Bundle.fit_spec hX).1 (Bundle.fit_spec (hn Y List.mem_cons_self)).2 x0 x1 x2 x5
      (fun c hc => h c (by simp only [xs_ch, List.mem_append]; exact Or.inl hc))
    obtain ⟨P', Ps, hlen, L', hL, hm', hsup, hpass⟩ := Bundle.chainS (args := args) hpl htop r Y (hn Y List.mem_cons_self) (fun n hn' => hn n (List.mem_cons_of_mem _ hn')) (fun c hc => h c (by simp only [xs_ch, List.mem_append]; exact Or.inr hc))
    refine ⟨P, P' :: Ps, by simp [hlen], L, (fun Q hQ => ?_), hm, Option.some.inj (hs.symm.trans hm'), hsup, hpass⟩
    rcases List.mem_cons.mp hQ with rfl | hQ
    · exact L'
    · exact hL Q hQ
/-- the words of a throw -/
def xoA (own : String) (ic : Nat) (X : String) (ix : Nat) (rx : ByteArray) (names : List String) : List Cond :=
  Bundle.throwableAtoms ++ Bundle.throwableSAtoms ++ xs_ch X ix rx names ++
  [.methodLink own ic (Bundle.initS X), .instantiable X 6, .selects X Bundle.tFill0 Bundle.tFill0, .selects X Bundle.tFill Bundle.tFill,
   .lays X Bundle.tN "cause" "Ljava/lang/Throwable;", .lays X Bundle.tN "stackTrace" Bundle.steD, .lays X Bundle.tN "suppressedExceptions" Bundle.listD, .lays X Bundle.tN "detailMessage" "Ljava/lang/String;",
   .isRef (.static Bundle.tN "UNASSIGNED_STACK" Bundle.steD), .isRef (.static Bundle.tN "SUPPRESSED_SENTINEL" Bundle.listD),
   .fieldLink Bundle.tN 198 Bundle.tN "backtrace" "Ljava/lang/Object;", .lays Bundle.tN Bundle.tN "backtrace" "Ljava/lang/Object;", .lays X Bundle.tN "backtrace" "Ljava/lang/Object;"]
def xoAt (own : String) (ic : Nat) (X : String) (ix : Nat) (rx : ByteArray) (names : List String) : List Cond := (xoA own ic X ix rx names).filter vx_no
section XSC
variable {p : Program} {l : Launch} {e : Env} {R : Room} {s : State} {m₀ : MethodId} {args : Array Value} {below : List Frame} {meth : Method} {c : Code} {W : State} {locs : List Loc} {cells slots : Nat}
set_option maxHeartbeats 1000000 in
theorem xs_ctor (X : Stand p l e R s m₀ args below meth c W locs cells slots) (hexec : p.tables.exec = Jvm.exec) (htr : e.platform.stackTraces = false) {own cls : String} {names : List String} {ic ix : Nat} {rx : ByteArray} (x0 : decode rx 0 = .ok (.aload_n 0, 1)) (x1 : decode rx 1 = .ok (.aload_n 1, 1)) (x2 : decode rx 2 = .ok (.invokespecial ix, 3)) (x5 : decode rx 5 = .ok (.return_, 1))
    (hown : s.vm.findClass own = some m₀.cls) (hcls : Bundle.fit cls = true) (hnames : ∀ n ∈ names, Bundle.fit n = true)
    (h : ∀ a ∈ xoA own ic cls ix rx names, a.before args s = true)
    (hlocs : ∀ x ∈ locs, ∀ cell, s.heap[x.base]? = some cell → cell.vm.isStatics = false)
    {a : Addr} {cX : ClassId} {kX : Class} (hfoundX : s.vm.findClass cls = some cX) (hkX : s.vm.classes[cX]? = some kX) (hcell : W.heap[a]? = some (freshCell cX kX)) (hnew : s.heap.size ≤ a)
    {msg : Value} (hmsg : msg.isRef = true)
    {g : JFrame} (hg : g.method = m₀) (hsize : g.locals.size = c.maxLocals) (hlocked : g.locked = none) (hentered : g.entered = []) {rest : List Value} (hstack : g.stack = msg :: .ref a :: .ref a :: rest)
    (hd6 : decode c.code g.pc = .ok (.invokespecial ic, 3)) (hd9 : decode c.code (g.pc + 3) = .ok (.athrow, 1)) (hout : ∀ x ∈ c.exceptionTable.toList, covers x (g.pc + 3) = false)
    (hRframes : names.length + 3 < R.frames) (hRlocals : 2 * g.monitorRoom + ((Value.ref a :: rest).map fun v => v.category).sum + (13 * (names.length + 1) + 42) ≤ R.locals) (hlocks : meth.locks = false) :
    ∃ U : State, Steps p.tables e below (W.setTop g) U ∧ U.status = .running ∧ Ended U below (.threw a) ∧ s.WarmedH U.vm ∧ s.sameButNew ({ U with vm := s.vm } : State) locs cells slots ∧
      ∃ ce, U.heap[a]? = some ce ∧ s.vm.findClass cls = some ce.cls ∧ ce.vm = .none := by
  have howns : e.platform.frameOwnsMonitors = true := by rw [X.admits.platform]
  have hfin : e.platform.finalization = false := by rw [X.admits.platform]
  have hpl : e.platform.magicAccessors = ({} : Platform).magicAccessors := by rw [X.admits.platform]
  have a' : ∀ x, x ∈ xoA own ic cls ix rx names → x.holds args s none s [] = true := fun x hx => h x hx
  obtain ⟨T, Z0, L, -, Y⟩ := ThrowableC.of_atoms (args := args) howns hfin hpl (fun x hx => h x (by simp [xoA, hx]))
  obtain ⟨Z, M, LZ, LM, hnZ⟩ := Init0T.ofS_atoms (args := args) hpl L Y (fun x hx => h x (by simp [xoA, hx]))
  obtain ⟨P1, Ps, hlen, L1, hL, hP1m, hlink1, hlink⟩ := xs_chain (args := args) hpl hnZ x0 x1 x2 x5 names cls hcls hnames (fun x hx => h x (by simp [xoA, hx]))
  have hfound : s.vm.findClass cls = some P1.m.cls := findClass_of_methodNamed hP1m
  cases Option.some.inj (hfoundX.symm.trans hfound)
  obtain ⟨c1, kX', hc1, hk, hord, -, -, hn6⟩ := Cond.instantiable_spec (a' (.instantiable cls 6) (by simp [xoA]))
  cases Option.some.inj (hc1.symm.trans hfound)
  cases Option.some.inj (hkX.symm.trans hk)
  have hsel0 : selectMethod e.platform s.vm P1.m.cls T.fill0 = .method T.fill0 := by
    obtain ⟨c2, r2, m2, q1, q2, q3, q4, -⟩ := Cond.selects_spec (a' (.selects cls Bundle.tFill0 Bundle.tFill0) (by simp [xoA]))
    cases Option.some.inj (q1.symm.trans hfound)
    cases Option.some.inj (q2.symm.trans (State.methodFound?_of_named Y.fill0 (by decide)))
    cases Option.some.inj (q3.symm.trans Y.fill0)
    rw [Launch.admits_selectMethod X.admits]; exact q4
  have hselF : selectMethod e.platform s.vm P1.m.cls T.fill = .method T.fill := by
    obtain ⟨c2, r2, m2, q1, q2, q3, q4, -⟩ := Cond.selects_spec (a' (.selects cls Bundle.tFill Bundle.tFill) (by simp [xoA]))
    cases Option.some.inj (q1.symm.trans hfound)
    cases Option.some.inj (q2.symm.trans (State.methodFound?_of_named Y.fill (by decide)))
    cases Option.some.inj (q3.symm.trans Y.fill)
    rw [Launch.admits_selectMethod X.admits]; exact q4
  obtain ⟨cellS0, hcS0, hiss⟩ := Y.statics
  obtain ⟨u0, hu0⟩ := Cond.staticRefV Y.unassigned L.unassignedStatic L.statics hcS0 hiss (a' (.isRef (.static Bundle.tN "UNASSIGNED_STACK" Bundle.steD)) (by simp [xoA]))
  obtain ⟨sen, hsen⟩ := Cond.staticRefV Y.sentinel L.sentinelStatic L.statics hcS0 hiss (a' (.isRef (.static Bundle.tN "SUPPRESSED_SENTINEL" Bundle.listD)) (by simp [xoA]))
  obtain ⟨ci198, i198, fB, hk198, hg198, ha198, hsB, -, hnB, htB, hffB⟩ := Cond.ownField (t := .object "java/lang/Object") Y.found L.cls (by decide +kernel) (a' (.fieldLink Bundle.tN 198 Bundle.tN "backtrace" "Ljava/lang/Object;") (by simp [xoA])) (a' (.lays Bundle.tN Bundle.tN "backtrace" "Ljava/lang/Object;") (by simp [xoA])) e.platform hpl
  obtain ⟨cellS, hcS', heS, -, hkeep⟩ := X.same.2.2.2.2.2 T.aS cellS0 hcS0
  have hcellS : W.heap[T.aS]? = some cellS := hcS'
  have hout' : ∀ i, (⟨T.aS, i⟩ : Loc) ∉ locs := fun i hmem => by
    have := hlocs _ hmem cellS0 hcS0
    rw [hiss] at this; cases this
  have hknownS : cellS.vm ≠ .unknown := by
    rw [heS]; intro hu
    rw [show cellS0.vm = .unknown from hu] at hiss
    cases hiss
  have hneS : T.aS ≠ a := Nat.ne_of_lt (Nat.lt_of_lt_of_le (Array.getElem?_eq_some_iff.mp hcS0).1 hnew)
  obtain ⟨iM, hffM⟩ := Y.msg
  obtain ⟨tyC, dC, hdC, hdnC⟩ := Cond.laysAt hfound hk Y.cause (a' (.lays cls Bundle.tN "cause" "Ljava/lang/Throwable;") (by simp [xoA]))
  obtain ⟨tyS, dS, hdS, hdnS⟩ := Cond.laysAt hfound hk Y.stack (a' (.lays cls Bundle.tN "stackTrace" Bundle.steD) (by simp [xoA]))
  obtain ⟨tyP, dP, hdP, hdnP⟩ := Cond.laysAt hfound hk Y.supp (a' (.lays cls Bundle.tN "suppressedExceptions" Bundle.listD) (by simp [xoA]))
  obtain ⟨tyM, dM, hdM, hdnM⟩ := Cond.laysAt hfound hk hffM (a' (.lays cls Bundle.tN "detailMessage" "Ljava/lang/String;") (by simp [xoA]))
  obtain ⟨tyB, dB, hdB, hdnB⟩ := Cond.laysAt hfound hk hffB (a' (.lays cls Bundle.tN "backtrace" "Ljava/lang/Object;") (by simp [xoA]))
  have bC := Cond.laysApart hdB hdC hdnB hdnC (by rw [hnB, Y.causeName]; decide)
  have bS := Cond.laysApart hdB hdS hdnB hdnS (by rw [hnB, Y.stackName]; decide)
  have bP := Cond.laysApart hdB hdP hdnB hdnP (by rw [hnB, Y.suppName]; decide)
  have hskip : SkipFacts T e.platform s (fun u => u) u0 ((preparedCellV T.toThrowableT (freshCell P1.m.cls kX) a u0 sen).withEntry W.cur) :=
    ⟨{ ci198 := ci198, i198 := i198, fBack := fB }, ⟨hk198, hg198, ha198, hsB⟩, by
      have := fresh_default (c := P1.m.cls) tyB
      rw [htB] at this
      simpa [preparedCellV, Cell.setSlot, Cell.withEntry, Array.getElem?_setIfInBounds, bC, bS, bP, bC.symm, bS.symm, bP.symm, defaultValue] using this, fun _ _ => rfl⟩
  obtain ⟨tm, methC, cdC, kC, vm₁, hnC, -, -, -, -, -, -, -, hW₁, st1⟩ := Steps.initColdS (tb := p.tables) (e := e) (below := below) (s := s) (U := W) X.here hexec X.warmed hpl hown (t := Bundle.initS cls) rfl rfl (Bundle.fit_spec hcls).2
    (a' (.methodLink own ic (Bundle.initS cls)) (by simp [xoA])) (h (.instanceMethod (Bundle.initS cls)) (by cases names <;> simp [xoA, xs_ch, Bundle.passSAtoms])) (bytes := rx) (maxL := 2) (h (.code (Bundle.initS cls) rx 2 none) (by cases names <;> simp [xoA, xs_ch, Bundle.passSAtoms]))
    (f := g) hg (a := a) (msg := msg) (rest := .ref a :: rest) hstack hd6
  cases Option.some.inj (hnC.symm.trans hP1m)
  have X₁ := X.noted hW₁
  obtain ⟨vm₂, X₂, st2⟩ := X₁.ctorMessageOffV hexec (g := { g with stack := .ref a :: rest }) hg hsize T L Z LZ M LM (P1 :: Ps)
    (fun P hP => by rcases List.mem_cons.mp hP with rfl | hP; exact L1; exact hL P hP) ⟨hlink1, hlink⟩ (u0 := u0) (sen := sen) (self := a) hmsg (cell := freshCell P1.m.cls kX) (cellS := cellS)
    hcell (fun _ => by simp) (by simp) rfl rfl hsel0 hselF hcellS hneS hknownS (by rw [hkeep _ (hout' _)]; exact hu0) (by rw [hkeep _ (hout' _)]; exact hsen)
    (Takes.of_laid hk hord tyC (by rw [Y.causeType]; rfl)) (Takes.of_laid hk hord tyS (by rw [Y.stackType]; exact fits_refV_array _ u0)) (Takes.of_laid hk hord tyP (by rw [Y.suppType]; exact fits_refV_object _ sen))
    (Takes.of_laid hk hord tyM (by rw [Y.msgType]; exact fits_refV_object _ ⟨msg, hmsg⟩)) Y.objLocals hskip htr [] hd6
    (by simp only [List.length_cons, hlen]; omega) (by simp only [List.length_cons, hlen]; exact hRlocals)
  obtain ⟨hwalk, hrun, hended, hWU, hsame⟩ := X₂.athrowLeaves hexec (g := { g with stack := .ref a :: rest, pc := g.pc + 3 }) hg hlocked hentered hout (a := a) (rest := rest) rfl hd9
  have hlt : a < ((W.setVm vm₁).setVm vm₂).heap.size := (Array.getElem?_eq_some_iff.mp hcell).1
  have hU := heapAt_setCell_self (s := (W.setVm vm₁).setVm vm₂) (plainBareV T.toThrowableT (freshCell P1.m.cls kX) a u0 sen msg) hlt
  refine ⟨_, st1 _ (fun acts => ?_), hrun, hended, hWU, hsame.weaken (fun y hy hlt' => ?_) (Nat.le_refl _) (Nat.le_refl _), _, hU, ?_⟩
  · rw [doInvoke_state]
    exact st2 _ hwalk
  · rcases List.mem_append.mp hy with h1 | h1
    · exact h1
    · exfalso
      have hb : y.base = a := by
        simp only [List.mem_cons, List.not_mem_nil, or_false] at h1
        rcases h1 with rfl | rfl | rfl | rfl | rfl <;> rfl
      rw [hb] at hlt'
      exact Nat.not_lt.mpr hnew hlt'
  · exact ⟨hfound, rfl⟩
end XSC
section XSE
variable {p : Program} {l : Launch} {e : Env} {R : Room} {s : State} {m : MethodId} {args : Array Value} {below : List Frame} {meth : Method} {c : Code} {H : Heap} {locs : List Loc} {cells slots : Nat}
variable {free : Addr → Prop} {ls : Array Slot} {rest : List Value} {Qc : Array Value → State → Outcome → State → Prop} {XC : String → State → State → Prop}
/-- 'throw new E("text")': new; dup; ldc; invokespecial; athrow -/
theorem xs_throwS {cc : ByteArray} {pc : Nat} (hexec : p.tables.exec = Jvm.exec) (hb : c.code = cc) (hl : l.stackTraces = false) {own cls text : String} {names : List String} {ik is ic mc ms sa ix : Nat} {rx : ByteArray} {A : Nat → Prop} (x0 : decode rx 0 = .ok (.aload_n 0, 1)) (x1 : decode rx 1 = .ok (.aload_n 1, 1)) (x2 : decode rx 2 = .ok (.invokespecial ix, 3)) (x5 : decode rx 5 = .ok (.return_, 1))
    (hown : s.vm.findClass own = some m.cls) (hcls : Bundle.fit cls = true) (hnames : ∀ n ∈ names, Bundle.fit n = true)
    (hk : (Cond.classLink own ik cls).before args s = true) (hini : (Cond.initialized cls).before args s = true) (hstr : vk_R own is text sa s) (hat : ∀ w ∈ xoAt own ic cls ix rx names, w.before args s = true)
    (hgood : ∀ w ∈ Cond.classLink own ik cls :: Cond.initialized cls :: xoAt own ic cls ix rx names, vx_ot w = true)
    (hU : vx_Zq Bundle.tN "UNASSIGNED_STACK" Bundle.steD A s s.heap) (hN : vx_Zq Bundle.tN "SUPPRESSED_SENTINEL" Bundle.listD A s s.heap) (hS : va_S A s.heap H locs) (hsize : ls.size = c.maxLocals)
    (d0 : decode cc pc = .ok (.new ik, 3)) (d3 : decode cc (pc + 3) = .ok (.dup, 1)) (d4 : decode cc (pc + 4) = .ok (.ldc is, 2)) (d6 : decode cc (pc + 6) = .ok (.invokespecial ic, 3)) (d9 : decode cc (pc + 9) = .ok (.athrow, 1))
    (hout : ∀ x ∈ c.exceptionTable.toList, covers x (pc + 9) = false)
    (hRframes : names.length + 3 < R.frames) (hRlocals : (rest.map fun v => v.category).sum + (13 * (names.length + 1) + 43) ≤ R.locals) (hRcells : cells + 1 ≤ R.cells) (hRslots : slots + 6 ≤ R.slots) (hlocks : meth.locks = false)
    (hx : ∀ t : State, s.vm.Alike t.vm → H.size ≤ t.heap.size → (∀ q : Nat, q < H.size → t.heap[q]? = H[q]?) → XC cls s t)
    (hf : ∀ z ∈ locs, free z.base) (hc : cells + 1 ≤ mc) (hs : slots + 6 ≤ ms) :
    W p l e R s m args below meth c H locs cells slots (vx_MQ below Qc XC args s mc ms free) (F0 m pc ls rest) := by
  intro T hT X
  have htr : e.platform.stackTraces = false := (show e.platform.stackTraces = l.stackTraces by rw [X.admits.platform]).trans hl
  have Y := vx_rebase X (R' := { frames := R.frames, locals := R.locals, cells := 1, slots := 6 }) (Nat.le_refl _) (Nat.le_refl _) hRcells hRslots
  obtain ⟨s', hA⟩ : ∃ z, z = (T.setVm s.vm).setFrames (.invoking m args :: below) := ⟨_, rfl⟩
  rw [← hA] at Y
  have hvm : s'.vm = s.vm := by rw [hA]; rfl
  have hhp : s'.heap = H := by rw [hA]; exact hT
  have hW0 : s.WarmedH s'.vm := by rw [hvm]; exact State.WarmedH.refl s
  have hat' : ∀ w ∈ xoAt own ic cls ix rx names, w.before args s' = true := fun w hw => vx_ot_at hW0 hvm.symm (hgood w (List.mem_cons_of_mem _ (List.mem_cons_of_mem _ hw))) (hat w hw)
  have hk' : (Cond.classLink own ik cls).before args s' = true := vx_ot_at hW0 hvm.symm (hgood _ List.mem_cons_self) hk
  have hini' : (Cond.initialized cls).before args s' = true := vx_ot_at hW0 hvm.symm (hgood _ (List.mem_cons_of_mem _ List.mem_cons_self)) hini
  have hU' : vx_Zq Bundle.tN "UNASSIGNED_STACK" Bundle.steD A s' s'.heap := by rw [hhp]; exact vx_Zq.moved hW0.alike (hU.kept hS.2.1)
  have hN' : vx_Zq Bundle.tN "SUPPRESSED_SENTINEL" Bundle.listD A s' s'.heap := by rw [hhp]; exact vx_Zq.moved hW0.alike (hN.kept hS.2.1)
  have h : ∀ w ∈ xoA own ic cls ix rx names, w.before args s' = true := vx_own hat' (vx_isRefq hU'.1) (vx_isRefq hN'.1) hU'.2.word hN'.2.word
  have hown' : s'.vm.findClass own = some m.cls := by rw [hvm]; exact hown
  have hins : (Cond.instantiable cls 6).before args s' = true := h _ (by simp [xoA])
  obtain ⟨vm₁, cX, kX, hfX, hkX, -, -, X₁, st1⟩ := Y.newCold hexec (own := own) (C := cls) (index := ik) (n := 6) hown' hk' hins hini'
    (g := F0 m pc ls rest) rfl (by rw [hb]; exact d0) (Nat.le_refl _) (Nat.le_refl _)
  generalize hT1 : (T.setVm vm₁).pushCell { cls := cX, slots := kX.instanceTypes.map defaultValue, vm := .none } = T1 at X₁ st1
  have hcat : (Value.ref T.heap.size).category = 1 := rfl
  have hcellA : T1.heap[T.heap.size]? = some (freshCell cX kX) := by rw [← hT1]; exact State.heap_pushCell_size _ _
  have d3' : decode c.code (pc + 3) = .ok (.dup, 1) := by rw [hb]; exact d3
  have d4' : decode c.code (pc + 4) = .ok (.ldc is, 2) := by rw [hb]; exact d4
  have hstr' : vk_R own is text sa s' := vk_R.warm hW0 hstr
  obtain ⟨U, hsteps, hrun, hend, hW, hsame, ce, hce, hO⟩ := xs_ctor X₁ hexec htr x0 x1 x2 x5 (own := own) (cls := cls) (names := names) (ic := ic) hown' hcls hnames h (fun x hx => nomatch hx) hfX hkX hcellA (by rw [hhp, hT]; exact Nat.le_refl _) (msg := .ref sa) rfl
    (g := { method := m, pc := pc + 6, locals := ls, stack := .ref sa :: .ref T.heap.size :: .ref T.heap.size :: rest, locked := none }) rfl hsize rfl rfl (rest := rest) rfl
    (by rw [hb]; exact d6) (by rw [hb]; exact d9) hout hRframes (by simp only [List.map_cons, List.sum_cons, hcat]; omega) hlocks
  obtain ⟨f1, f2⟩ := vx_frame hsame
  rw [hhp] at f1 f2
  have hWs : s.WarmedH U.vm := State.WarmedH.trans hW0 hW
  have hcl : s.vm.findClass cls = some ce.cls := by
    have h9 := hO.1
    rw [hvm] at h9
    exact h9
  have hall : s.sameButNew ({ U with vm := s.vm } : State) locs mc ms := by
    subst hA
    obtain ⟨e1, e2⟩ := hsame
    rw [State.setFrames_setFrames] at e1
    have h2 : (T.setVm s.vm).sameButNew ({ U with vm := s.vm } : State) [] (0 + 1) (0 + 6) := ⟨e1, e2⟩
    have h3 := X.same.trans h2
    rw [List.append_nil] at h3
    exact h3.mono hc hs
  refine ⟨U, ?_, .threw T.heap.size, hrun, hend, Or.inr ⟨T.heap.size, rfl, cls, ce, locs, hx U hWs.alike f1 (fun q hq => f2 q hq (fun z hz => nomatch hz)), hce, hO.2, hcl, hWs, hall, hf⟩⟩
  refine st1 _ ?_
  show Steps p.tables e below (T1.setTop { method := m, pc := pc + 3, locals := ls, stack := .ref T.heap.size :: rest, locked := none }) _
  jvm_step X₁.here [X₁.here.top, hexec, d3', Value.category]
  exact X₁.ldcString hexec (own := own) (text := text) (index := is) (a := sa) hown' hstr'.1 hstr'.2
    (g := { method := m, pc := pc + 4, locals := ls, stack := .ref T.heap.size :: .ref T.heap.size :: rest, locked := none }) rfl d4' _ hsteps
/-- 'throw new E("text")', the text by a wide index -/
theorem xs_throwSW {cc : ByteArray} {pc : Nat} (hexec : p.tables.exec = Jvm.exec) (hb : c.code = cc) (hl : l.stackTraces = false) {own cls text : String} {names : List String} {ik is ic mc ms sa ix : Nat} {rx : ByteArray} {A : Nat → Prop} (x0 : decode rx 0 = .ok (.aload_n 0, 1)) (x1 : decode rx 1 = .ok (.aload_n 1, 1)) (x2 : decode rx 2 = .ok (.invokespecial ix, 3)) (x5 : decode rx 5 = .ok (.return_, 1))
    (hown : s.vm.findClass own = some m.cls) (hcls : Bundle.fit cls = true) (hnames : ∀ n ∈ names, Bundle.fit n = true)
    (hk : (Cond.classLink own ik cls).before args s = true) (hini : (Cond.initialized cls).before args s = true) (hstr : vk_R own is text sa s) (hat : ∀ w ∈ xoAt own ic cls ix rx names, w.before args s = true)
    (hgood : ∀ w ∈ Cond.classLink own ik cls :: Cond.initialized cls :: xoAt own ic cls ix rx names, vx_ot w = true)
    (hU : vx_Zq Bundle.tN "UNASSIGNED_STACK" Bundle.steD A s s.heap) (hN : vx_Zq Bundle.tN "SUPPRESSED_SENTINEL" Bundle.listD A s s.heap) (hS : va_S A s.heap H locs) (hsize : ls.size = c.maxLocals)
    (d0 : decode cc pc = .ok (.new ik, 3)) (d3 : decode cc (pc + 3) = .ok (.dup, 1)) (d4 : decode cc (pc + 4) = .ok (.ldc_w is, 3)) (d7 : decode cc (pc + 7) = .ok (.invokespecial ic, 3)) (d10 : decode cc (pc + 10) = .ok (.athrow, 1))
    (hout : ∀ x ∈ c.exceptionTable.toList, covers x (pc + 10) = false)
    (hRframes : names.length + 3 < R.frames) (hRlocals : (rest.map fun v => v.category).sum + (13 * (names.length + 1) + 43) ≤ R.locals) (hRcells : cells + 1 ≤ R.cells) (hRslots : slots + 6 ≤ R.slots) (hlocks : meth.locks = false)
    (hx : ∀ t : State, s.vm.Alike t.vm → H.size ≤ t.heap.size → (∀ q : Nat, q < H.size → t.heap[q]? = H[q]?) → XC cls s t)
    (hf : ∀ z ∈ locs, free z.base) (hc : cells + 1 ≤ mc) (hs : slots + 6 ≤ ms) :
    W p l e R s m args below meth c H locs cells slots (vx_MQ below Qc XC args s mc ms free) (F0 m pc ls rest) := by
  intro T hT X
  have htr : e.platform.stackTraces = false := (show e.platform.stackTraces = l.stackTraces by rw [X.admits.platform]).trans hl
  have Y := vx_rebase X (R' := { frames := R.frames, locals := R.locals, cells := 1, slots := 6 }) (Nat.le_refl _) (Nat.le_refl _) hRcells hRslots
  obtain ⟨s', hA⟩ : ∃ z, z = (T.setVm s.vm).setFrames (.invoking m args :: below) := ⟨_, rfl⟩
  rw [← hA] at Y
  have hvm : s'.vm = s.vm := by rw [hA]; rfl
  have hhp : s'.heap = H := by rw [hA]; exact hT
  have hW0 : s.WarmedH s'.vm := by rw [hvm]; exact State.WarmedH.refl s
  have hat' : ∀ w ∈ xoAt own ic cls ix rx names, w.before args s' = true := fun w hw => vx_ot_at hW0 hvm.symm (hgood w (List.mem_cons_of_mem _ (List.mem_cons_of_mem _ hw))) (hat w hw)
  have hk' : (Cond.classLink own ik cls).before args s' = true := vx_ot_at hW0 hvm.symm (hgood _ List.mem_cons_self) hk
  have hini' : (Cond.initialized cls).before args s' = true := vx_ot_at hW0 hvm.symm (hgood _ (List.mem_cons_of_mem _ List.mem_cons_self)) hini
  have hU' : vx_Zq Bundle.tN "UNASSIGNED_STACK" Bundle.steD A s' s'.heap := by rw [hhp]; exact vx_Zq.moved hW0.alike (hU.kept hS.2.1)
  have hN' : vx_Zq Bundle.tN "SUPPRESSED_SENTINEL" Bundle.listD A s' s'.heap := by rw [hhp]; exact vx_Zq.moved hW0.alike (hN.kept hS.2.1)
  have h : ∀ w ∈ xoA own ic cls ix rx names, w.before args s' = true := vx_own hat' (vx_isRefq hU'.1) (vx_isRefq hN'.1) hU'.2.word hN'.2.word
  have hown' : s'.vm.findClass own = some m.cls := by rw [hvm]; exact hown
  have hins : (Cond.instantiable cls 6).before args s' = true := h _ (by simp [xoA])
  obtain ⟨vm₁, cX, kX, hfX, hkX, -, -, X₁, st1⟩ := Y.newCold hexec (own := own) (C := cls) (index := ik) (n := 6) hown' hk' hins hini'
    (g := F0 m pc ls rest) rfl (by rw [hb]; exact d0) (Nat.le_refl _) (Nat.le_refl _)
  generalize hT1 : (T.setVm vm₁).pushCell { cls := cX, slots := kX.instanceTypes.map defaultValue, vm := .none } = T1 at X₁ st1
  have hcat : (Value.ref T.heap.size).category = 1 := rfl
  have hcellA : T1.heap[T.heap.size]? = some (freshCell cX kX) := by rw [← hT1]; exact State.heap_pushCell_size _ _
  have d3' : decode c.code (pc + 3) = .ok (.dup, 1) := by rw [hb]; exact d3
  have d4' : decode c.code (pc + 4) = .ok (.ldc_w is, 3) := by rw [hb]; exact d4
  have hstr' : vk_R own is text sa s' := vk_R.warm hW0 hstr
  obtain ⟨U, hsteps, hrun, hend, hW, hsame, ce, hce, hO⟩ := xs_ctor X₁ hexec htr x0 x1 x2 x5 (own := own) (cls := cls) (names := names) (ic := ic) hown' hcls hnames h (fun x hx => nomatch hx) hfX hkX hcellA (by rw [hhp, hT]; exact Nat.le_refl _) (msg := .ref sa) rfl
    (g := { method := m, pc := pc + 7, locals := ls, stack := .ref sa :: .ref T.heap.size :: .ref T.heap.size :: rest, locked := none }) rfl hsize rfl rfl (rest := rest) rfl
    (by rw [hb]; exact d7) (by rw [hb]; exact d10) hout hRframes (by simp only [List.map_cons, List.sum_cons, hcat]; omega) hlocks
  obtain ⟨f1, f2⟩ := vx_frame hsame
  rw [hhp] at f1 f2
  have hWs : s.WarmedH U.vm := State.WarmedH.trans hW0 hW
  have hcl : s.vm.findClass cls = some ce.cls := by
    have h9 := hO.1
    rw [hvm] at h9
    exact h9
  have hall : s.sameButNew ({ U with vm := s.vm } : State) locs mc ms := by
    subst hA
    obtain ⟨e1, e2⟩ := hsame
    rw [State.setFrames_setFrames] at e1
    have h2 : (T.setVm s.vm).sameButNew ({ U with vm := s.vm } : State) [] (0 + 1) (0 + 6) := ⟨e1, e2⟩
    have h3 := X.same.trans h2
    rw [List.append_nil] at h3
    exact h3.mono hc hs
  refine ⟨U, ?_, .threw T.heap.size, hrun, hend, Or.inr ⟨T.heap.size, rfl, cls, ce, locs, hx U hWs.alike f1 (fun q hq => f2 q hq (fun z hz => nomatch hz)), hce, hO.2, hcl, hWs, hall, hf⟩⟩
  refine st1 _ ?_
  show Steps p.tables e below (T1.setTop { method := m, pc := pc + 3, locals := ls, stack := .ref T.heap.size :: rest, locked := none }) _
  jvm_step X₁.here [X₁.here.top, hexec, d3', Value.category]
  exact X₁.ldcStringW hexec (own := own) (text := text) (index := is) (a := sa) hown' hstr'.1 hstr'.2
    (g := { method := m, pc := pc + 4, locals := ls, stack := .ref T.heap.size :: .ref T.heap.size :: rest, locked := none }) rfl d4' _ hsteps
end XSE

/-! THROWS: 'throw new E("text")' of the class's own methods (wip/p65/gen18.py writes this). -/
def xnm : List String := ["java/lang/RuntimeException", "java/lang/Exception"]
/-- by the exception's number: the index of its class, of its constructor -/
def xthk (E : Nat) : Nat := match E with
  | 0 => 87
  | 1 => 97
  | 2 => 137
  | _ => 137
def xthc (E : Nat) : Nat := match E with
  | 0 => 91
  | 1 => 101
  | 2 => 141
  | _ => 141
/-- the sites: method, pc, exception, the text's index, wide -/
def xthL : List (Nat × Nat × Nat × Nat × Bool) := [(76, 18, 1, 99, false), (79, 23, 0, 89, false), (82, 27, 1, 102, false), (85, 11, 2, 372, true), (120, 11, 2, 377, true), (160, 11, 1, 381, true), (165, 9, 1, 385, true), (168, 11, 1, 383, true), (173, 27, 1, 297, true), (175, 15, 1, 302, true), (183, 22, 0, 310, true), (185, 22, 0, 315, true), (188, 16, 1, 320, true), (188, 39, 0, 325, true), (192, 16, 0, 334, true)]
/-- the texts -/
def xths : List (Nat × String) := [(89, "the input buffer holds at most 600 bytes"), (99, "the input buffer can only become shorter"), (102, "the setup text has an error"), (297, "a demand is 0 to the capacity of the resource"), (302, "a release day is 0 to 99"), (310, "there is this link, or it would close a cycle"), (315, "there is no such link"), (320, "a capacity is 1 to 9"), (325, "a task has a greater demand for the resource"), (334, "the only task cannot be dropped"), (372, "the task does not exist"), (377, "the resource does not exist"), (381, "a day is 0 to 999"), (383, "a duration is 1 to 30 days"), (385, "a rule is 0 to 3")]
set_option maxRecDepth 100000 in
theorem xthk_ok : ∀ q ∈ [0, 1, 2, 3], Cond.classLink "ProjectPlanner" (xthk q) (xEn q) ∈ xwA := xwA_map [894, 491, 675, 675] _ (by decide +kernel) (fun _ => rfl)
set_option maxRecDepth 100000 in
theorem xthi_ok : ∀ q ∈ [0, 1, 2, 3], Cond.initialized (xEn q) ∈ xwA := xwA_map [52, 51, 54, 54] _ (by decide +kernel) (fun _ => rfl)
def xdc (w : Cond) : Bool := match w with
  | .declares _ => true
  | .castable _ _ => true
  | _ => false
/-- by the exception's number: its constructor's call of its super, its constructor's code -/
def xthx (E : Nat) : Nat := match E with
  | 0 => 7
  | 1 => 7
  | 2 => 7
  | _ => 7
noncomputable def xthb (E : Nat) : ByteArray := match E with
  | 0 => prog_22_method_2_code
  | 1 => prog_21_method_2_code
  | 2 => prog_23_method_2_code
  | _ => prog_23_method_2_code
noncomputable def xthw (E : Nat) : List Cond := xoAt "ProjectPlanner" (xthc E) (xEn E) (xthx E) (xthb E) xnm
/-- their places -/
def xthp (E : Nat) : List Nat := xget0 [] [[48, 513, 522, 526, 529, 531, 514, 515, 61, 62, 516, 521, 527, 547, 503, 548, 505, 549, 507, 517, 519, 509, 543, 544, 546, 509, 905, 906, 907, 537, 537, 538, 539, 540, 540, 541, 542, 543, 904, 895, 897, 524, 898, 899, 900, 901, 512, 511, 902], [48, 513, 522, 526, 529, 531, 514, 515, 61, 62, 516, 521, 527, 547, 503, 548, 505, 549, 507, 517, 519, 509, 543, 544, 546, 509, 534, 535, 536, 537, 537, 538, 539, 540, 540, 541, 542, 543, 533, 492, 500, 501, 502, 504, 506, 508, 512, 511, 510], [48, 513, 522, 526, 529, 531, 514, 515, 61, 62, 516, 521, 527, 547, 503, 548, 505, 549, 507, 517, 519, 509, 543, 544, 546, 509, 686, 687, 688, 537, 537, 538, 539, 540, 540, 541, 542, 543, 685, 676, 678, 525, 679, 680, 681, 682, 512, 511, 683], [48, 513, 522, 526, 529, 531, 514, 515, 61, 62, 516, 521, 527, 547, 503, 548, 505, 549, 507, 517, 519, 509, 543, 544, 546, 509, 686, 687, 688, 537, 537, 538, 539, 540, 540, 541, 542, 543, 685, 676, 678, 525, 679, 680, 681, 682, 512, 511, 683]] E
theorem xthp_all : ([0, 1, 2, 3] : List Nat).all (fun q => decide ((xthw q).filter (fun w => !xdc w) = (xthp q).filterMap (fun i => xTb[i]?)) && (xthw q).all (fun w => xdc w || goodWord w)) = true := by decide +kernel
theorem xthv_all : ([0, 1, 2, 3] : List Nat).all (fun q => (xthw q).all (fun w => vx_ot w)) = true := by decide +kernel
theorem xthb_all : ([0, 1, 2, 3] : List Nat).all (fun q => (decide (decode (xthb q) 0 = .ok (.aload_n 0, 1)) && decide (decode (xthb q) 1 = .ok (.aload_n 1, 1))) && (decide (decode (xthb q) 2 = .ok (.invokespecial (xthx q), 3)) && decide (decode (xthb q) 5 = .ok (.return_, 1)))) = true := by decide +kernel
theorem xths_all : xthL.all (fun q => Nat.beq (xoc q.1) 11 && (Nat.blt q.2.2.1 4 && ((xhh q.1).isEmpty && (xths.map (·.1)).contains q.2.2.2.1))) = true := by decide +kernel
theorem xthd_all : xthL.all (fun q => match q with
  | (y, pc, E, is, w) => (xdec y pc (.new (xthk E)) 3 && xdec y (pc + 3) .dup 1) && (match w with
    | true => (xdec y (pc + 4) (.ldc_w is) 3 && xdec y (pc + 7) (.invokespecial (xthc E)) 3) && xdec y (pc + 10) .athrow 1
    | false => (xdec y (pc + 4) (.ldc is) 2 && xdec y (pc + 6) (.invokespecial (xthc E)) 3) && xdec y (pc + 9) .athrow 1)) = true := by decide +kernel
/-- what a start gives of the exceptions -/
def xCt (A : Nat → Prop) (s : State) : Prop :=
  (∀ q ∈ xths, ∃ sa, vk_R "ProjectPlanner" q.1 q.2 sa s) ∧ vx_Zq Bundle.tN "UNASSIGNED_STACK" Bundle.steD A s s.heap ∧ vx_Zq Bundle.tN "SUPPRESSED_SENTINEL" Bundle.listD A s s.heap ∧
  (∀ E E', E < 0 → E' < 4 → E ≠ E' → va_Nc (xEn E) (xEn E') s) ∧ ∀ E ∈ ([0, 1, 2, 3] : List Nat), ∀ w ∈ xthw E, xdc w = true → va_Nw w s
theorem xbump_at {M : xM} {c n k o f : Nat} (h : k ≠ 100) : xbump M c n k o f = M k o f := by
  unfold xbump
  rw [xst_ne (by omega), xst_ne (by omega)]
theorem gn_xbump {M : xM} {c n k o f : Nat} (h : k ≠ 100) : gn (xbump M c n) k o f = gn M k o f := by
  unfold gn
  rw [xbump_at h]
theorem xbump_0 {M : xM} {c n : Nat} : gn (xbump M c n) 100 0 0 = gn M 100 0 0 + c := by
  unfold xbump
  rw [gn_xst, if_neg (by omega), gn_xst, if_pos ⟨rfl, rfl, rfl⟩]
theorem xbump_1 {M : xM} {c n : Nat} : gn (xbump M c n) 100 0 1 = gn M 100 0 1 + n := by
  unfold xbump
  rw [gn_xst, if_pos ⟨rfl, rfl, rfl⟩]
/-- the same things in another store, in a larger heap -/
theorem xWd_ext {s : State} {A : Nat → Prop} {ad : xA} {M M' : xM} {H H' : Heap} (hW : xWd s A ad M H) (hc : ∀ k, xc M' k = xc M k) (hv : ∀ k o f, k < 60 → M' k o f = M k o f ∧ gn M' (200 + k) o f = gn M (200 + k) o f) (hl : ∀ k o, k < 60 → gn M' (110 + k) o 0 = gn M (110 + k) o 0) (hH : ∀ q, q < H.size → H'[q]? = H[q]?) : xWd s A ad M' H' := fun k o hk ho => by
  rw [hc] at ho
  exact ⟨fun hf => ((hW k o hk ho).1 hf).same rfl (hH _ (hW.lt hk ho (Or.inl hf))) (fun f d hd => xfv_eq (hv k o f hk).1 (hv k o f hk).2), fun ty ht => ((hW k o hk ho).2 ty ht).same rfl (hH _ (hW.lt hk ho (Or.inr (by rw [ht]; exact fun h => nomatch h)))) (xlen_eq (hl k o hk)) (fun j hj => xav_eq (hv k o j hk).1 (hv k o j hk).2)⟩
theorem xrest_ext {M M' : xM} (hc : ∀ k, xc M' k = xc M k) (hv : ∀ k o f, k < 60 → M' k o f = M k o f ∧ gn M' (200 + k) o f = gn M (200 + k) o f) (hl : ∀ k o, k < 60 → gn M' (110 + k) o 0 = gn M (110 + k) o 0) (hT : xWT M) (hB : xBt M) (hK : xK M) : xWT M' ∧ xBt M' ∧ xK M' := by
  refine ⟨⟨fun k o f t tk tw hk ho hd ht hf => ?_, fun k o tk tw j hk ho hae hj hf => ?_⟩, ⟨fun k o j ht ho => ?_, fun k o hy hk ho => ?_⟩, ?_⟩
  · rw [hc] at ho ⊢
    have e3 : gn M' k o f = gn M k o f := by unfold gn; rw [(hv k o f hk).1]
    rw [e3]
    exact hT.1 k o f t tk tw hk ho hd ht (by show gn M (200 + k) o f = 1; rw [← (hv k o f hk).2]; exact hf)
  · rw [hc] at ho ⊢
    exact hT.2 k o tk tw j hk ho hae hj (by show gn M (200 + k) o j = 1; rw [← (hv k o j hk).2]; exact hf)
  · rw [hc] at ho
    have e3 : gi M' k o j = gi M k o j := by unfold gi; rw [(hv k o j (xtc_lt k (by rw [ht]; decide))).1]
    rw [e3]
    exact hB.1 k o j ht ho
  · rw [hc] at ho
    rw [hl k o hk]
    exact hB.2 k o hy hk ho
  · obtain ⟨a, b, c, e1, e2, e3, e4, e5⟩ := hK
    exact ⟨by rw [hc]; exact a, by rw [hc]; exact b, by rw [hc]; exact c, by rw [hc]; exact e1, by rw [hc]; exact e2, by rw [hc]; exact e3, by rw [hc]; exact e4, by rw [hc]; exact e5⟩
theorem xEn_fit : ([0, 1, 2, 3] : List Nat).all (fun q => Bundle.fit (xEn q)) = true := by decide +kernel
theorem xnm_fit : ∀ n ∈ xnm, Bundle.fit n = true := List.all_eq_true.mp (by decide +kernel : xnm.all Bundle.fit = true)
set_option maxHeartbeats 4000000 in
theorem xthr_W {p : Program} {l : Launch} {e : Env} {R : Room} {s : State} {m : MethodId} {args : Array Value} {below : List Frame} {meth : Method} {c : Code} {H : Heap} {locs : List Loc} {cells slots : Nat} {A : Nat → Prop} {ad ad0 : xA}
    {y pc fc fs E is : Nat} {w : Bool} {M M0 : xM} {la : Array Slot} {rg : Option (List (Nat × Nat))}
    (F : xFx y p l s m args meth c) (Zt : xCt A s) (I : xInv s A ad M s.heap H locs) (hb : ∀ k o, k < 60 → k ≠ 51 → o < xc M0 k → ad k o = ad0 k o)
    (hET : c.exceptionTable.toList = tableOf (xhh y)) (hz : (y, pc, E, is, w) ∈ xthL) (hla : la.size = xml y) (hRf : 8 ≤ R.frames) (hRl : 200 ≤ R.locals)
    (hc : cells + gn (xbump M 1 6) 100 0 0 ≤ fc + gn M 100 0 0) (hs : slots + gn (xbump M 1 6) 100 0 1 ≤ fs + gn M 100 0 1) (hfc : fc ≤ R.cells) (hfs : fs ≤ R.slots) :
    W p l e R s m args below meth c H locs cells slots (vx_MQ below (xQc A ad0 M0 rg (.inr E, xbump M 1 6)) (xXC A ad0 M0 (.inr E, xbump M 1 6)) args s fc fs A) (F0 m pc la []) := by
  obtain ⟨hx, hbc, hml, hown, hts, hlk, hrt, hnm, htr⟩ := F
  obtain ⟨hW, hP, hT, hB, hK, hS⟩ := I
  obtain ⟨z1, z2, z3, -, z4⟩ := Zt
  have h1 := List.all_eq_true.mp xths_all _ hz
  simp only at h1
  have hoc := Nat.eq_of_beq_eq_true (and_l h1)
  have hE : E < 4 := Nat.le_of_ble_eq_true (and_l (and_r h1))
  have hhh : xhh y = [] := List.isEmpty_iff.mp (and_l (and_r (and_r h1)))
  have hE4 : E ∈ ([0, 1, 2, 3] : List Nat) := by
    have : E = 0 ∨ E = 1 ∨ E = 2 ∨ E = 3 := by omega
    rcases this with rfl | rfl | rfl | rfl <;> simp
  obtain ⟨q, hq, hq2⟩ := List.mem_map.mp (List.contains_iff_mem.mp (and_r (and_r (and_r h1))))
  obtain ⟨sa, hsa⟩ := z1 q hq
  rw [hq2] at hsa
  have hd := List.all_eq_true.mp xthd_all _ hz
  simp only at hd
  rw [hoc] at hown
  rw [hhh] at hET
  have hout : ∀ (z : Nat), ∀ x ∈ c.exceptionTable.toList, covers x z = false := fun z x hx => by rw [hET] at hx; cases hx
  have ha := List.all_eq_true.mp xthp_all E hE4
  have hv := List.all_eq_true.mp xthv_all E hE4
  have hB4 := List.all_eq_true.mp xthb_all E hE4
  have hat : ∀ w ∈ xoAt "ProjectPlanner" (xthc E) (xEn E) (xthx E) (xthb E) xnm, w.before args s = true := fun w hw => by
    cases hz : xdc w with
    | true => exact va_Nw.use (by unfold xdc at hz; split at hz <;> first | rfl | cases hz) (z4 E hE4 w hw hz)
    | false =>
      have hg : goodWord w = true := ((Bool.or_eq_true _ _).mp (List.all_eq_true.mp (and_r ha) w hw)).resolve_left (by rw [hz]; exact fun h => nomatch h)
      have hx : w ∈ (xthw E).filter (fun w => !xdc w) := List.mem_filter.mpr ⟨hw, by rw [hz]; rfl⟩
      rw [of_decide_eq_true (and_l ha), List.mem_filterMap] at hx
      obtain ⟨i, -, hi⟩ := hx
      exact hts w (xwA_mem hi hg)
  have hgood : ∀ w ∈ Cond.classLink "ProjectPlanner" (xthk E) (xEn E) :: Cond.initialized (xEn E) :: xoAt "ProjectPlanner" (xthc E) (xEn E) (xthx E) (xthb E) xnm, vx_ot w = true := fun w hw => by
    rcases List.mem_cons.mp hw with h | h
    · rw [h]; unfold vx_ot; rw [xwA_good (xthk_ok E hE4), Bool.or_true]
    · rcases List.mem_cons.mp h with h | h
      · rw [h]; unfold vx_ot; rw [xwA_good (xthi_ok E hE4), Bool.or_true]
      · exact List.all_eq_true.mp hv w h
  have hxx : ∀ t : State, s.vm.Alike t.vm → H.size ≤ t.heap.size → (∀ q : Nat, q < H.size → t.heap[q]? = H[q]?) → xXC A ad0 M0 (.inr E, xbump M 1 6) (xEn E) s t := fun t hv hz hq => by
    have hc9 : ∀ k, xc (xbump M 1 6) k = xc M k := fun k => gn_xbump (by omega)
    have hv9 : ∀ k o f, k < 60 → xbump M 1 6 k o f = M k o f ∧ gn (xbump M 1 6) (200 + k) o f = gn M (200 + k) o f := fun k o f hk => ⟨xbump_at (by omega), gn_xbump (by omega)⟩
    have hl9 : ∀ k o, k < 60 → gn (xbump M 1 6) (110 + k) o 0 = gn M (110 + k) o 0 := fun k o hk => gn_xbump (by omega)
    have r3 := xrest_ext hc9 hv9 hl9 hT hB hK
    exact ⟨E, ad, rfl, rfl, hE, hb, (xWd_ext hW hc9 hv9 hl9 hq).moved hv, hP.ch hc9, r3.1, r3.2.1, Nat.le_trans hS.1 hz, fun q h1 h2 => (hq q (Nat.lt_of_lt_of_le h1 hS.1)).trans (hS.2.1 q h1 h2)⟩
  have e0 := xbump_0 (M := M) (c := 1) (n := 6)
  have e1 := xbump_1 (M := M) (c := 1) (n := 6)
  have hlen : xnm.length = 2 := rfl
  cases w with
  | false =>
    simp only at hd
    exact xs_throwS hx hbc htr (of_decide_eq_true (and_l (and_l hB4))) (of_decide_eq_true (and_r (and_l hB4))) (of_decide_eq_true (and_l (and_r hB4))) (of_decide_eq_true (and_r (and_r hB4))) hown (List.all_eq_true.mp xEn_fit E hE4) xnm_fit (hts _ (xthk_ok E hE4)) (hts _ (xthi_ok E hE4)) hsa hat hgood z2 z3 hS (hla.trans hml.symm) (of_decide_eq_true (and_l (and_l hd))) (of_decide_eq_true (and_r (and_l hd))) (of_decide_eq_true (and_l (and_l (and_r hd)))) (of_decide_eq_true (and_r (and_l (and_r hd)))) (of_decide_eq_true (and_r (and_r hd))) (hout _) (by omega) (by rw [hlen]; simp; omega) (by omega) (by omega) hlk hxx hS.2.2 (by omega) (by omega)
  | true =>
    simp only at hd
    exact xs_throwSW hx hbc htr (of_decide_eq_true (and_l (and_l hB4))) (of_decide_eq_true (and_r (and_l hB4))) (of_decide_eq_true (and_l (and_r hB4))) (of_decide_eq_true (and_r (and_r hB4))) hown (List.all_eq_true.mp xEn_fit E hE4) xnm_fit (hts _ (xthk_ok E hE4)) (hts _ (xthi_ok E hE4)) hsa hat hgood z2 z3 hS (hla.trans hml.symm) (of_decide_eq_true (and_l (and_l hd))) (of_decide_eq_true (and_r (and_l hd))) (of_decide_eq_true (and_l (and_l (and_r hd)))) (of_decide_eq_true (and_r (and_l (and_r hd)))) (of_decide_eq_true (and_r (and_r hd))) (hout _) (by omega) (by rw [hlen]; simp; omega) (by omega) (by omega) hlk hxx hS.2.2 (by omega) (by omega)

