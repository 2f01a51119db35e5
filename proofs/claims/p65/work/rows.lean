section
-- ===== PART A: goes FIRST, ahead of the names: the tables' words, and 'selects' of the private methods out of them =====
/-- a private method of a class that the tables say can be made, by its rows of tables_1 -/
def lw_okq (q : MethodName × Nat) : Prop := (q.1.cls ≠ "java/lang/invoke/MethodHandle" ∧ q.1.cls ≠ "java/lang/invoke/VarHandle") ∧ Cond.instantiable q.1.cls q.2 ∈ tables_1 ∧ Cond.privateMethod q.1 ∈ tables_1 ∧ Cond.instanceMethod q.1 ∈ tables_1
theorem lw_p0 : lw_okq (⟨"ProjectPlanner$Tokens", "scanWord", "()V"⟩, 10) := ⟨⟨by decide +kernel, by decide +kernel⟩, List.mem_of_getElem? (i := 127) (by decide +kernel), List.mem_of_getElem? (i := 347) (by decide +kernel), List.mem_of_getElem? (i := 348) (by decide +kernel)⟩
theorem lw_p1 : lw_okq (⟨"ProjectPlanner$Tokens", "scanNumber", "()V"⟩, 10) := ⟨⟨by decide +kernel, by decide +kernel⟩, List.mem_of_getElem? (i := 127) (by decide +kernel), List.mem_of_getElem? (i := 358) (by decide +kernel), List.mem_of_getElem? (i := 359) (by decide +kernel)⟩
theorem lw_p2 : lw_okq (⟨"java/lang/Throwable", "fillInStackTrace", "(I)Ljava/lang/Throwable;"⟩, 6) := ⟨⟨by decide +kernel, by decide +kernel⟩, List.mem_of_getElem? (i := 508) (by decide +kernel), List.mem_of_getElem? (i := 506) (by decide +kernel), List.mem_of_getElem? (i := 507) (by decide +kernel)⟩
theorem lw_p3 : lw_okq (⟨"ProjectPlanner", "lengthWithRule", "(I)I"⟩, 9) := ⟨⟨by decide +kernel, by decide +kernel⟩, List.mem_of_getElem? (i := 34) (by decide +kernel), List.mem_of_getElem? (i := 552) (by decide +kernel), List.mem_of_getElem? (i := 553) (by decide +kernel)⟩
theorem lw_p4 : lw_okq (⟨"ProjectPlanner$Dates", "sortTasks", "(LProjectPlanner$Plan;)V"⟩, 5) := ⟨⟨by decide +kernel, by decide +kernel⟩, List.mem_of_getElem? (i := 228) (by decide +kernel), List.mem_of_getElem? (i := 564) (by decide +kernel), List.mem_of_getElem? (i := 565) (by decide +kernel)⟩
theorem lw_p5 : lw_okq (⟨"ProjectPlanner$Dates", "findEarliest", "(LProjectPlanner$Plan;I)V"⟩, 5) := ⟨⟨by decide +kernel, by decide +kernel⟩, List.mem_of_getElem? (i := 228) (by decide +kernel), List.mem_of_getElem? (i := 572) (by decide +kernel), List.mem_of_getElem? (i := 573) (by decide +kernel)⟩
theorem lw_p6 : lw_okq (⟨"ProjectPlanner$Dates", "findLatest", "(LProjectPlanner$Plan;I)V"⟩, 5) := ⟨⟨by decide +kernel, by decide +kernel⟩, List.mem_of_getElem? (i := 228) (by decide +kernel), List.mem_of_getElem? (i := 580) (by decide +kernel), List.mem_of_getElem? (i := 581) (by decide +kernel)⟩
theorem lw_p7 : lw_okq (⟨"ProjectPlanner$Schedule", "bestReady", "(LProjectPlanner$Plan;)I"⟩, 4) := ⟨⟨by decide +kernel, by decide +kernel⟩, List.mem_of_getElem? (i := 222) (by decide +kernel), List.mem_of_getElem? (i := 587) (by decide +kernel), List.mem_of_getElem? (i := 588) (by decide +kernel)⟩
theorem lw_p8 : lw_okq (⟨"ProjectPlanner$Schedule", "rankOf", "(LProjectPlanner$Plan;I)I"⟩, 4) := ⟨⟨by decide +kernel, by decide +kernel⟩, List.mem_of_getElem? (i := 222) (by decide +kernel), List.mem_of_getElem? (i := 592) (by decide +kernel), List.mem_of_getElem? (i := 593) (by decide +kernel)⟩
theorem lw_p9 : lw_okq (⟨"ProjectPlanner$Schedule", "firstFreeDay", "(LProjectPlanner$Plan;I)I"⟩, 4) := ⟨⟨by decide +kernel, by decide +kernel⟩, List.mem_of_getElem? (i := 222) (by decide +kernel), List.mem_of_getElem? (i := 601) (by decide +kernel), List.mem_of_getElem? (i := 602) (by decide +kernel)⟩
theorem lw_p10 : lw_okq (⟨"ProjectPlanner$Schedule", "predecessorsFinish", "(LProjectPlanner$Plan;I)I"⟩, 4) := ⟨⟨by decide +kernel, by decide +kernel⟩, List.mem_of_getElem? (i := 222) (by decide +kernel), List.mem_of_getElem? (i := 605) (by decide +kernel), List.mem_of_getElem? (i := 606) (by decide +kernel)⟩
theorem lw_p11 : lw_okq (⟨"ProjectPlanner$Schedule", "hasRoomOn", "(LProjectPlanner$Plan;II)Z"⟩, 4) := ⟨⟨by decide +kernel, by decide +kernel⟩, List.mem_of_getElem? (i := 222) (by decide +kernel), List.mem_of_getElem? (i := 611) (by decide +kernel), List.mem_of_getElem? (i := 612) (by decide +kernel)⟩
theorem lw_p12 : lw_okq (⟨"ProjectPlanner", "requireTask", "(I)V"⟩, 9) := ⟨⟨by decide +kernel, by decide +kernel⟩, List.mem_of_getElem? (i := 34) (by decide +kernel), List.mem_of_getElem? (i := 646) (by decide +kernel), List.mem_of_getElem? (i := 647) (by decide +kernel)⟩
theorem lw_p13 : lw_okq (⟨"ProjectPlanner", "requireResource", "(I)V"⟩, 9) := ⟨⟨by decide +kernel, by decide +kernel⟩, List.mem_of_getElem? (i := 34) (by decide +kernel), List.mem_of_getElem? (i := 734) (by decide +kernel), List.mem_of_getElem? (i := 735) (by decide +kernel)⟩
theorem lw_p14 : lw_okq (⟨"ProjectPlanner", "currentSchedule", "()LProjectPlanner$Schedule;"⟩, 9) := ⟨⟨by decide +kernel, by decide +kernel⟩, List.mem_of_getElem? (i := 34) (by decide +kernel), List.mem_of_getElem? (i := 761) (by decide +kernel), List.mem_of_getElem? (i := 762) (by decide +kernel)⟩
theorem lw_p15 : lw_okq (⟨"ProjectPlanner", "currentDates", "()LProjectPlanner$Dates;"⟩, 9) := ⟨⟨by decide +kernel, by decide +kernel⟩, List.mem_of_getElem? (i := 34) (by decide +kernel), List.mem_of_getElem? (i := 769) (by decide +kernel), List.mem_of_getElem? (i := 770) (by decide +kernel)⟩
def lw_privs_1 : List (MethodName × Nat) := [(⟨"ProjectPlanner$Tokens", "scanWord", "()V"⟩, 10), (⟨"ProjectPlanner$Tokens", "scanNumber", "()V"⟩, 10), (⟨"java/lang/Throwable", "fillInStackTrace", "(I)Ljava/lang/Throwable;"⟩, 6), (⟨"ProjectPlanner", "lengthWithRule", "(I)I"⟩, 9), (⟨"ProjectPlanner$Dates", "sortTasks", "(LProjectPlanner$Plan;)V"⟩, 5), (⟨"ProjectPlanner$Dates", "findEarliest", "(LProjectPlanner$Plan;I)V"⟩, 5), (⟨"ProjectPlanner$Dates", "findLatest", "(LProjectPlanner$Plan;I)V"⟩, 5), (⟨"ProjectPlanner$Schedule", "bestReady", "(LProjectPlanner$Plan;)I"⟩, 4), (⟨"ProjectPlanner$Schedule", "rankOf", "(LProjectPlanner$Plan;I)I"⟩, 4), (⟨"ProjectPlanner$Schedule", "firstFreeDay", "(LProjectPlanner$Plan;I)I"⟩, 4), (⟨"ProjectPlanner$Schedule", "predecessorsFinish", "(LProjectPlanner$Plan;I)I"⟩, 4), (⟨"ProjectPlanner$Schedule", "hasRoomOn", "(LProjectPlanner$Plan;II)Z"⟩, 4), (⟨"ProjectPlanner", "requireTask", "(I)V"⟩, 9), (⟨"ProjectPlanner", "requireResource", "(I)V"⟩, 9), (⟨"ProjectPlanner", "currentSchedule", "()LProjectPlanner$Schedule;"⟩, 9), (⟨"ProjectPlanner", "currentDates", "()LProjectPlanner$Dates;"⟩, 9)]
theorem lw_r1 : ∀ q ∈ lw_privs_1, lw_okq q := List.forall_mem_cons.mpr ⟨lw_p0, List.forall_mem_cons.mpr ⟨lw_p1, List.forall_mem_cons.mpr ⟨lw_p2, List.forall_mem_cons.mpr ⟨lw_p3, List.forall_mem_cons.mpr ⟨lw_p4, List.forall_mem_cons.mpr ⟨lw_p5, List.forall_mem_cons.mpr ⟨lw_p6, List.forall_mem_cons.mpr ⟨lw_p7, List.forall_mem_cons.mpr ⟨lw_p8, List.forall_mem_cons.mpr ⟨lw_p9, List.forall_mem_cons.mpr ⟨lw_p10, List.forall_mem_cons.mpr ⟨lw_p11, List.forall_mem_cons.mpr ⟨lw_p12, List.forall_mem_cons.mpr ⟨lw_p13, List.forall_mem_cons.mpr ⟨lw_p14, List.forall_mem_cons.mpr ⟨lw_p15, fun _ h => absurd h List.not_mem_nil⟩⟩⟩⟩⟩⟩⟩⟩⟩⟩⟩⟩⟩⟩⟩⟩
theorem lw_p16 : lw_okq (⟨"ProjectPlanner$Plan", "predecessorsOf", "(I)I"⟩, 10) := ⟨⟨by decide +kernel, by decide +kernel⟩, List.mem_of_getElem? (i := 42) (by decide +kernel), List.mem_of_getElem? (i := 1184) (by decide +kernel), List.mem_of_getElem? (i := 1185) (by decide +kernel)⟩
theorem lw_p17 : lw_okq (⟨"ProjectPlanner$Plan", "moveTask", "(II)V"⟩, 10) := ⟨⟨by decide +kernel, by decide +kernel⟩, List.mem_of_getElem? (i := 42) (by decide +kernel), List.mem_of_getElem? (i := 1250) (by decide +kernel), List.mem_of_getElem? (i := 1251) (by decide +kernel)⟩
def lw_privs_2 : List (MethodName × Nat) := [(⟨"ProjectPlanner$Plan", "predecessorsOf", "(I)I"⟩, 10), (⟨"ProjectPlanner$Plan", "moveTask", "(II)V"⟩, 10)]
theorem lw_r2 : ∀ q ∈ lw_privs_2, lw_okq q := List.forall_mem_cons.mpr ⟨lw_p16, List.forall_mem_cons.mpr ⟨lw_p17, fun _ h => absurd h List.not_mem_nil⟩⟩
def lw_privs : List (MethodName × Nat) := lw_privs_1 ++ (lw_privs_2)
def lw_tbl : List Cond := k2_sels lw_privs ++ tables_1
theorem lw_privs_ok : ∀ q ∈ lw_privs, lw_okq q := by
  show ∀ q ∈ lw_privs_1 ++ (lw_privs_2), lw_okq q
  exact List.forall_mem_append.mpr ⟨lw_r1, lw_r2⟩
end
section
/-! ===== BEGIN words of one list among another's, by their places ===== -/
theorem goodIn_r {big : List Cond} (ws : List Cond) (ps : List Nat) (hp : ws = ps.filterMap (fun i => big[i]?)) (h : ws.all goodWord = true) : GoodIn big ws := by
  intro w hw
  have h1 := List.all_eq_true.mp h w hw
  rw [hp] at hw
  obtain ⟨i, -, hi⟩ := List.mem_filterMap.mp hw
  have hm : w ∈ big := by first | exact List.mem_of_getElem? hi | exact List.getElem?_mem hi
  exact ⟨hm, good_of_word h1⟩
theorem goodIn_app {big a b : List Cond} (ha : GoodIn big a) (hb : GoodIn big b) : GoodIn big (a ++ b) := fun w h => (List.mem_append.mp h).elim (ha w) (hb w)
theorem goodIn_ca {big a b : List Cond} {c : Cond} (ha : GoodIn big (c :: a)) (hb : GoodIn big b) : GoodIn big (c :: (a ++ b)) := fun w h => (List.mem_cons.mp h).elim (fun e => ha w (List.mem_cons.mpr (Or.inl e))) (fun h => (List.mem_append.mp h).elim (fun h => ha w (List.mem_cons.mpr (Or.inr h))) (hb w))
theorem goodIn_sub {big ws : List Cond} (hm : ∀ w ∈ ws, w ∈ big) (h : ws.all goodWord = true) : GoodIn big ws := fun w hw => ⟨hm w hw, good_of_word (List.all_eq_true.mp h w hw)⟩
/-! ===== END ===== -/

/-! ===== BEGIN exceptions that leave a method, and their catching by the caller (launches without stack traces) ===== -/
section VXA
/-! The laws vx_back, vx_callV, vx_callS, vx_callSW, vx_throw0, vx_throwS follow proofs of the library, with one case more: JvmDerived/Free/Laws.lean (Back.of_free), Shelf42/LK1.lean (callV, callS), Shelf/KitTraced.lean (throwNew0V, throwNewS). -/
/-- where a method has thrown q: the class by its name, the cell, what was written, the world -/
def vx_T (XC : String → State → State → Prop) (st : State) (q : Addr) (t : State) (mc ms : Nat) (free : Addr → Prop) : Prop :=
  ∃ (E : String) (ce : Cell) (L : List Loc), XC E st t ∧ t.heap[q]? = some ce ∧ ce.vm = .none ∧ st.vm.findClass E = some ce.cls ∧ st.WarmedH t.vm ∧ st.sameButNew ({ t with vm := st.vm } : State) L mc ms ∧ ∀ z ∈ L, free z.base
def vx_Q (Qc : Array Value → State → Outcome → State → Prop) (XC : String → State → State → Prop) (mc ms : Nat) (free : Addr → Prop) : Array Value → State → Outcome → State → Prop := fun a st o t =>
  (Qc a st o t ∧ ∃ L, FrameEnd st o t L mc ms ∧ ∀ q ∈ L, free q.base) ∨ ∃ q, o = .threw q ∧ vx_T XC st q t mc ms free
/-- a callee that returns or throws -/
def vx_Met (l : Launch) (y : MethodName) (ws : List Cond) (rm : Room) (Pc : Array Value → State → Prop) (Qc : Array Value → State → Outcome → State → Prop) (XC : String → State → State → Prop) (mc ms : Nat) (free : Addr → Prop) : Prop :=
  MetFree l y (headSpec ws rm) Pc (fun _ _ _ _ _ => True) (vx_Q Qc XC mc ms free)
def vx_Post (XC : String → State → State → Prop) (mc ms : Nat) (free : Addr → Prop) : Pt → Array Value → Addr → Pt → Prop := fun A a q B =>
  ∃ (g : JFrame) (mk : MethodId) (t : State) (L : List Loc) (E : String) (ce : Cell), B.U.heap = t.heap ∧ B.U.vm = t.vm ∧ XC E (A.U.calling g mk a) t ∧ t.heap[q]? = some ce ∧ ce.vm = .none ∧ A.U.vm.findClass E = some ce.cls ∧ B.locs = A.locs ++ L ∧ (∀ z ∈ L, free z.base) ∧ B.cells = A.cells + mc ∧ B.slots = A.slots + ms
def vx_Back (l : Launch) (R : Room) (p : Program) (e : Env) (below : List Frame) (s : State) (sargs : Array Value) (y : MethodName) (len W9 : Nat)
    (Pre : Pt → Array Value → Prop) (Post : Pt → Array Value → Option Value → Pt → Prop) (PostX : Pt → Array Value → Addr → Pt → Prop) : Prop :=
  ∀ (m : MethodId) (meth : Method) (c : Code) (A : Pt) (g : JFrame) (ig : Instr) (mk : MethodId) (a : Array Value),
    Stand p l e R s m sargs below meth c A.U A.locs A.cells A.slots → g.method = m → g.locals.size = c.maxLocals → decode c.code g.pc = .ok (ig, len) →
    2 * g.monitorRoom + (g.stack.map fun v => v.category).sum ≤ W9 → A.U.methodNamed? y = some mk → Pre A a →
    (∃ (v : Option Value) (B : Pt), Stand p l e R s m sargs below meth c B.U B.locs B.cells B.slots ∧ Post A a v B ∧
      Steps p.tables e below (doInvoke e (A.U.setTop g) [] mk a).1 (B.U.setTop { g with pc := g.pc + len, stack := v.toList ++ g.stack })) ∨
    (∃ (q : Addr) (B : Pt), Stand p l e R s m sargs below meth c B.U B.locs B.cells B.slots ∧ PostX A a q B ∧
      Steps p.tables e below (doInvoke e (A.U.setTop g) [] mk a).1 ((B.U.setTop g).pushFrame (.throwing q)))
section Payer
variable {l : Launch} {R : Room} {p : Program} {e : Env} {below : List Frame} {s : State} {sargs : Array Value} {y : MethodName} {len W9 : Nat}
theorem vx_back {ws : List Cond} {rm : Room} {Pc : Array Value → State → Prop} {Qc : Array Value → State → Outcome → State → Prop} {XC : String → State → State → Prop} {mc ms : Nat} {free : Addr → Prop} {bytes : ByteArray} {maxL : Nat} {ret : Option FieldType}
    (hM : vx_Met l y ws rm Pc Qc XC mc ms free) (hblind : FrameBlind Pc) (hrc : rm.cells = mc) (hrs : rm.slots = ms)
    (hframes : rm.frames + 1 ≤ R.frames) (hlocals : W9 + (maxL + 11) + rm.locals ≤ R.locals)
    (hws : ∀ w ∈ ws, ∀ a' U, s.WarmedH U.vm → w.before a' U = true) (hcode : Cond.code y bytes maxL ret ∈ ws) (hinit : ∀ a' U, s.WarmedH U.vm → (Cond.initialized y.cls).before a' U = true) :
    vx_Back l R p e below s sargs y len W9 (PreOf R mc ms Pc) (PostOf Qc mc ms free) (vx_Post XC mc ms free) := by
  intro m meth c A g ig mk a X hg hsize hdg hW hn hp
  have h1 : (headSpec ws rm).pre.before a A.U = true := atoms_intro fun w hw => hws w hw _ _ X.warmed
  have h2 : (Cond.code y bytes maxL ret).before a A.U = true := hws _ hcode _ _ X.warmed
  have h3 : (Cond.initialized y.cls).before a A.U = true := hinit _ _ X.warmed
  have h4 : A.cells + (headSpec ws rm).room.cells ≤ R.cells := by rw [show (headSpec ws rm).room.cells = mc from hrc]; exact hp.1
  have h5 : A.slots + (headSpec ws rm).room.slots ≤ R.slots := by rw [show (headSpec ws rm).room.slots = ms from hrs]; exact hp.2.1
  have hPc : Pc a (A.U.calling g mk a) := hblind _ _ _ _ hp.2.2
  obtain ⟨U, Ls, c0, s0⟩ := A
  dsimp only [Pt.U, Pt.locs, Pt.cells, Pt.slots] at h1 h2 h3 h4 h5 X hn hPc ⊢
  obtain ⟨methY, cY, hmY, hcY, -, hlY, -, -, -, -⟩ := Cond.code_spec hn h2
  obtain ⟨kY, hkY, -⟩ := className_of_methodNamed hn
  have hinitY : kY.init = .initialized := Cond.initialized_spec (findClass_of_methodNamed hn) hkY h3
  have h : At U g.method c below := by rw [hg]; exact X.here
  have hlocals9 : W9 + (maxL + 11) + (headSpec ws rm).room.locals ≤ R.locals := hlocals
  have happ : (headSpec ws rm).appliesLoose y e.platform (U.calling g mk a) = true :=
    Spec.appliesLoose_calling (g := g) h hdg hn hkY hinitY
      (X.room_calling (g := g) (R' := (headSpec ws rm).room) hsize hmY hcY hframes (by rw [hlY]; omega) h4 h5) h1
  obtain ⟨mid, hmid⟩ := h.above
  have hfr : (U.setTop g).frames = (.java g :: mid) ++ below := by rw [State.frames_setTop' g h.top, hmid]; rfl
  obtain ⟨o, s₂, hsteps, -, hend, hq⟩ := Steps.callFree hM p X.admits X.cas X.clock (acts := []) hfr happ hPc trivial
  have hq' : vx_Q Qc XC mc ms free a (U.calling g mk a) o s₂ := hq
  rw [State.frames_setTop' g h.top] at hend
  obtain ⟨g₀, hg0⟩ := Option.isSome_iff_exists.mp h.top
  obtain ⟨r, hr⟩ := State.topJava?_eq_some.mp hg0
  have hr' : (({ U with heap := s₂.heap, slotsUsed := s₂.slotsUsed } : State).setVm s₂.vm).frames = .java g₀ :: r := hr
  rcases hq' with ⟨hqc, L, hfe, hL⟩ | ⟨q, rfl, E, ce, L, hx, hce, hcv, hcl, hW₂, hsm, hL⟩
  · obtain ⟨⟨v, rfl⟩, hW₂, e2, q2, q3, q4, q5, q6⟩ := id hfe
    have e3 : s₂ = ({ (U.calling g mk a).setFrames s₂.frames with heap := s₂.heap, slotsUsed := s₂.slotsUsed } : State).setVm s₂.vm := by
      have : s₂ = ({ s₂ with vm := (U.calling g mk a).vm } : State).setVm s₂.vm := rfl
      rw [e2] at this
      exact this
    obtain ⟨c₂, i₂, len₂, hc₂, hd₂, hf₂⟩ := hend
    have hW' : U.WarmedH s₂.vm := hW₂
    have hcc : c₂ = c := by
      have h1 : s₂.code? g.method = U.code? g.method := by
        rw [State.code?_eq, State.code?_eq, hW'.alike.method?]
      exact Option.some.inj (hc₂.symm.trans (h1.trans h.code))
    subst hcc
    have hlen : len₂ = len := by rw [hdg] at hd₂; cases hd₂; rfl
    subst hlen
    have hs₂ : s₂ = (({ U with heap := s₂.heap, slotsUsed := s₂.slotsUsed } : State).setVm s₂.vm).setTop { g with pc := g.pc + len₂, stack := v.toList ++ g.stack } := by
      refine e3.trans ?_
      rw [hf₂, State.calling_eq h.top, State.setFrames_setFrames, State.setTop_of_frames _ hr', hr]
      rfl
    have hsame : U.sameButNew ({ U with heap := s₂.heap, slotsUsed := s₂.slotsUsed } : State) L mc ms := by
      refine ⟨?_, q2, q3, q4, q5, q6⟩
      obtain ⟨t, ht, -⟩ := State.frames_cons hr
      show ({ U with heap := s₂.heap, slotsUsed := s₂.slotsUsed } : State) = { U.setFrames U.frames with heap := s₂.heap, slotsUsed := s₂.slotsUsed }
      rw [State.setFrames_self ht]
    subst hg
    refine Or.inl ⟨v, ⟨(({ U with heap := s₂.heap, slotsUsed := s₂.slotsUsed } : State).setVm s₂.vm), Ls ++ L, c0 + mc, s0 + ms⟩,
      ⟨X.admits, X.cas, X.clock, X.frames, X.room, X.hears, X.method, X.code, (X.here.setHeapUsed s₂.heap s₂.slotsUsed).setVm hW'.alike, X.tail, State.WarmedH.trans X.warmed hW', X.limits, X.bytes, X.same.trans (hsame.setVm s.vm)⟩,
      ⟨g, mk, s₂, L, rfl, rfl, hqc, rfl, hL, rfl, rfl⟩, ?_⟩
    show Steps p.tables e below _ ((({ U with heap := s₂.heap, slotsUsed := s₂.slotsUsed } : State).setVm s₂.vm).setTop { g with pc := g.pc + len₂, stack := v.toList ++ g.stack })
    rw [← hs₂]
    exact hsteps
  · obtain ⟨e2, q2, q3, q4, q5, q6⟩ := id hsm
    have e3 : s₂ = ({ (U.calling g mk a).setFrames s₂.frames with heap := s₂.heap, slotsUsed := s₂.slotsUsed } : State).setVm s₂.vm := by
      have : s₂ = ({ s₂ with vm := (U.calling g mk a).vm } : State).setVm s₂.vm := rfl
      rw [e2] at this
      exact this
    have hf₂ : s₂.frames = .throwing q :: .java g :: U.frames.tail := hend
    have hW' : U.WarmedH s₂.vm := hW₂
    have hs₂ : s₂ = ((({ U with heap := s₂.heap, slotsUsed := s₂.slotsUsed } : State).setVm s₂.vm).setTop g).pushFrame (.throwing q) := by
      refine e3.trans ?_
      rw [hf₂, State.calling_eq h.top, State.setFrames_setFrames, State.pushFrame, State.frames_setTop _ hr', State.setTop_of_frames _ hr', State.setFrames_setFrames, hr]
      rfl
    have hsame : U.sameButNew ({ U with heap := s₂.heap, slotsUsed := s₂.slotsUsed } : State) L mc ms := by
      refine ⟨?_, q2, q3, q4, q5, q6⟩
      obtain ⟨t, ht, -⟩ := State.frames_cons hr
      show ({ U with heap := s₂.heap, slotsUsed := s₂.slotsUsed } : State) = { U.setFrames U.frames with heap := s₂.heap, slotsUsed := s₂.slotsUsed }
      rw [State.setFrames_self ht]
    subst hg
    refine Or.inr ⟨q, ⟨(({ U with heap := s₂.heap, slotsUsed := s₂.slotsUsed } : State).setVm s₂.vm), Ls ++ L, c0 + mc, s0 + ms⟩,
      ⟨X.admits, X.cas, X.clock, X.frames, X.room, X.hears, X.method, X.code, (X.here.setHeapUsed s₂.heap s₂.slotsUsed).setVm hW'.alike, X.tail, State.WarmedH.trans X.warmed hW', X.limits, X.bytes, X.same.trans (hsame.setVm s.vm)⟩,
      ⟨g, mk, s₂, L, E, ce, rfl, rfl, hx, hce, hcv, hcl, rfl, hL, rfl, rfl⟩, ?_⟩
    show Steps p.tables e below _ (((({ U with heap := s₂.heap, slotsUsed := s₂.slotsUsed } : State).setVm s₂.vm).setTop g).pushFrame (.throwing q))
    rw [← hs₂]
    exact hsteps
end Payer
section Calls
variable {p : Program} {l : Launch} {e : Env} {R : Room} {s : State} {m : MethodId} {args : Array Value} {below : List Frame} {meth : Method} {c : Code} {T : State} {locs : List Loc} {cells slots : Nat}
theorem vx_callV (X : Stand p l e R s m args below meth c T locs cells slots) (hexec : p.tables.exec = Jvm.exec) {own C : String} {index : Nat} {y : MethodName} {bytes : ByteArray} {maxL : Nat} {ret : Option FieldType}
    (hown : s.vm.findClass own = some m.cls) (hlink : (Cond.methodLink own index y).before args s = true) (hinst : (Cond.instanceMethod y).before args s = true) (hsel : (Cond.selects C y y).before args s = true)
    (hcode : (Cond.code y bytes maxL ret).before args s = true) (hy : y.cls ≠ "java/lang/invoke/MethodHandle" ∧ y.cls ≠ "java/lang/invoke/VarHandle")
    {W9 : Nat} {Pre : Pt → Array Value → Prop} {Post : Pt → Array Value → Option Value → Pt → Prop} {PostX : Pt → Array Value → Addr → Pt → Prop} (hK : vx_Back l R p e below s args y 3 W9 Pre Post PostX)
    {b : Addr} {cellB : Cell} (hcell : T.heap[b]? = some cellB) (hobj : cellB.vm.isStatics = false) (hcls : s.vm.findClass C = some cellB.cls)
    {g : JFrame} (hg : g.method = m) (hsize : g.locals.size = c.maxLocals) {argsL rest : List Value} (hlen : ∀ sig, parseMethodDescriptor y.desc = some sig → argsL.length = sig.parameters.length)
    (hstack : g.stack = argsL.reverse ++ .ref b :: rest) (hW : 2 * g.monitorRoom + (rest.map fun v => v.category).sum ≤ W9) (hdg : decode c.code g.pc = .ok (.invokevirtual index, 3))
    (hpre : ∀ vm₁, s.WarmedH vm₁ → Pre ⟨T.setVm vm₁, locs, cells, slots⟩ (Value.ref b :: argsL).toArray) :
    (∃ (v : Option Value) (vm₁ : Vm) (B : Pt), s.WarmedH vm₁ ∧ Stand p l e R s m args below meth c B.U B.locs B.cells B.slots ∧ Post ⟨T.setVm vm₁, locs, cells, slots⟩ (Value.ref b :: argsL).toArray v B ∧
      ∀ target, Steps p.tables e below (B.U.setTop { g with pc := g.pc + 3, stack := v.toList ++ rest }) target → Steps p.tables e below (T.setTop g) target) ∨
    (∃ (q : Addr) (vm₁ : Vm) (B : Pt), s.WarmedH vm₁ ∧ Stand p l e R s m args below meth c B.U B.locs B.cells B.slots ∧ PostX ⟨T.setVm vm₁, locs, cells, slots⟩ (Value.ref b :: argsL).toArray q B ∧
      Steps p.tables e below (T.setTop g) ((B.U.setTop { g with stack := rest }).pushFrame (.throwing q))) := by
  obtain ⟨mk, methM, hnamed, hmethM, hstM, habM⟩ := Cond.instanceMethod_spec hinst
  obtain ⟨methM', cM, hmethM', -, -, -, -, -, -, hsigM⟩ := Cond.code_spec hnamed hcode
  cases hmethM.symm.trans hmethM'
  obtain ⟨c2, r2, m2, q1, q2, q3, q4, kP, hkP, hkPi⟩ := Cond.selects_spec hsel
  cases hcls.symm.trans q1
  cases (State.methodFound?_of_named hnamed hy).symm.trans q2
  cases hnamed.symm.trans q3
  have hselP : selectMethod e.platform s.vm cellB.cls mk = .method mk := by rw [Launch.admits_selectMethod X.admits]; exact q4
  obtain ⟨vm₁, X₁, hstep₁⟩ := X.invokevirtual hexec hown hlink hnamed hmethM hstM hkP hkPi hy (a := b) (cell := cellB) hcell
    (fun z h => by rw [h] at hobj; cases hobj) hselP hmethM habM hkP hkPi (g := g) hg (argsL := argsL) (rest := rest) (hlen _ hsigM) hstack hdg
  rcases hK m meth c ⟨T.setVm vm₁, locs, cells, slots⟩ { g with stack := rest } (.invokevirtual index) mk (Value.ref b :: argsL).toArray X₁ hg hsize hdg hW (X₁.named hnamed) (hpre vm₁ X₁.warmed) with ⟨v, B, X', hpost, hsteps⟩ | ⟨q, B, X', hpost, hsteps⟩
  · exact Or.inl ⟨v, vm₁, B, X₁.warmed, X', hpost, fun target h => hstep₁ _ fun acts => by rw [doInvoke_state]; exact hsteps.trans h⟩
  · exact Or.inr ⟨q, vm₁, B, X₁.warmed, X', hpost, hstep₁ _ fun acts => by rw [doInvoke_state]; exact hsteps⟩
theorem vx_callS (X : Stand p l e R s m args below meth c T locs cells slots) (hexec : p.tables.exec = Jvm.exec) {own : String} {index : Nat} {y : MethodName} {bytes : ByteArray} {maxL : Nat} {ret : Option FieldType}
    (hown : s.vm.findClass own = some m.cls) (hlink : (Cond.methodLink own index y).before args s = true) (hstat : (Cond.static y).before args s = true) (hinit : (Cond.initialized y.cls).before args s = true)
    (hcode : (Cond.code y bytes maxL ret).before args s = true) (hy : y.cls ≠ "java/lang/invoke/MethodHandle" ∧ y.cls ≠ "java/lang/invoke/VarHandle")
    {W9 : Nat} {Pre : Pt → Array Value → Prop} {Post : Pt → Array Value → Option Value → Pt → Prop} {PostX : Pt → Array Value → Addr → Pt → Prop} (hK : vx_Back l R p e below s args y 3 W9 Pre Post PostX)
    {g : JFrame} (hg : g.method = m) (hsize : g.locals.size = c.maxLocals) {argsL rest : List Value} (hlen : ∀ sig, parseMethodDescriptor y.desc = some sig → argsL.length = sig.parameters.length)
    (hstack : g.stack = argsL.reverse ++ rest) (hW : 2 * g.monitorRoom + (rest.map fun v => v.category).sum ≤ W9) (hdg : decode c.code g.pc = .ok (.invokestatic index, 3))
    (hpre : ∀ vm₁, s.WarmedH vm₁ → Pre ⟨T.setVm vm₁, locs, cells, slots⟩ argsL.toArray) :
    (∃ (v : Option Value) (vm₁ : Vm) (B : Pt), s.WarmedH vm₁ ∧ Stand p l e R s m args below meth c B.U B.locs B.cells B.slots ∧ Post ⟨T.setVm vm₁, locs, cells, slots⟩ argsL.toArray v B ∧
      ∀ target, Steps p.tables e below (B.U.setTop { g with pc := g.pc + 3, stack := v.toList ++ rest }) target → Steps p.tables e below (T.setTop g) target) ∨
    (∃ (q : Addr) (vm₁ : Vm) (B : Pt), s.WarmedH vm₁ ∧ Stand p l e R s m args below meth c B.U B.locs B.cells B.slots ∧ PostX ⟨T.setVm vm₁, locs, cells, slots⟩ argsL.toArray q B ∧
      Steps p.tables e below (T.setTop g) ((B.U.setTop { g with stack := rest }).pushFrame (.throwing q))) := by
  obtain ⟨mk, hnamed⟩ := Cond.code_named hcode
  obtain ⟨methM, cM, hmethM, -, -, -, -, -, -, hsigM⟩ := Cond.code_spec hnamed hcode
  have hstatic : methM.isStatic = true := Cond.static_spec hnamed hmethM hstat
  obtain ⟨kP, hkP, -⟩ := className_of_methodNamed hnamed
  have hinitP : kP.init = .initialized := Cond.initialized_spec (findClass_of_methodNamed hnamed) hkP hinit
  obtain ⟨vm₁, X₁, hstep₁⟩ := X.invokestatic hexec hown hlink hnamed hmethM hstatic hkP hinitP hy (g := g) hg (argsL := argsL) (rest := rest) (hlen _ hsigM) hstack hdg
  rcases hK m meth c ⟨T.setVm vm₁, locs, cells, slots⟩ { g with stack := rest } (.invokestatic index) mk argsL.toArray X₁ hg hsize hdg hW (X₁.named hnamed) (hpre vm₁ X₁.warmed) with ⟨v, B, X', hpost, hsteps⟩ | ⟨q, B, X', hpost, hsteps⟩
  · exact Or.inl ⟨v, vm₁, B, X₁.warmed, X', hpost, fun target h => hstep₁ _ fun acts => by rw [doInvoke_state]; exact hsteps.trans h⟩
  · exact Or.inr ⟨q, vm₁, B, X₁.warmed, X', hpost, hstep₁ _ fun acts => by rw [doInvoke_state]; exact hsteps⟩
end Calls
theorem vx_cls {s : State} {T : State} {vm₁ : Vm} {E : String} {k : ClassId} (hW : s.WarmedH vm₁) (h : (T.setVm vm₁).vm.findClass E = some k) : s.vm.findClass E = some k := by
  have h1 : vm₁.findClass E = some k := h
  rw [hW.alike.findClass] at h1
  exact h1
/-- the method's frame g, with q thrown over it -/
def vx_W (p : Program) (l : Launch) (e : Env) (R : Room) (s : State) (m : MethodId) (args : Array Value) (below : List Frame) (meth : Method) (c : Code) (H : Heap) (locs : List Loc) (cells slots : Nat) (Q : State → Prop) (g : JFrame) (q : Addr) : Prop :=
  ∀ T : State, T.heap = H → Stand p l e R s m args below meth c T locs cells slots → ∃ t, Steps p.tables e below ((T.setTop g).pushFrame (.throwing q)) t ∧ Q t
def vx_Run (p : Program) (l : Launch) (e : Env) (R : Room) (s : State) (m : MethodId) (args : Array Value) (below : List Frame) (meth : Method) (c : Code) (H : Heap) (locs : List Loc) (cells slots mc ms : Nat) (g : JFrame) (rest : List Value) (Qa : State → Outcome → State → Prop) (XC : String → State → State → Prop) (free : Addr → Prop) : Prop :=
  ∀ T : State, T.heap = H → Stand p l e R s m args below meth c T locs cells slots →
    (∃ (v : Option Value) (st₀ t T' : State) (L : List Loc), st₀.heap = H ∧ Stand p l e R s m args below meth c T' (locs ++ L) (cells + mc) (slots + ms) ∧ (∀ q ∈ L, free q.base) ∧ T'.heap = t.heap ∧ T'.vm = t.vm ∧ Qa st₀ (.returned v) t ∧
      Goes p e below T g T' { g with pc := g.pc + 3, stack := v.toList ++ rest }) ∨
    (∃ (q : Addr) (st₀ t T' : State) (L : List Loc) (E : String) (ce : Cell), st₀.heap = H ∧ Stand p l e R s m args below meth c T' (locs ++ L) (cells + mc) (slots + ms) ∧ (∀ z ∈ L, free z.base) ∧ T'.heap = t.heap ∧ T'.vm = t.vm ∧ XC E st₀ t ∧ t.heap[q]? = some ce ∧ ce.vm = .none ∧ s.vm.findClass E = some ce.cls ∧
      Steps p.tables e below (T.setTop g) ((T'.setTop { g with stack := rest }).pushFrame (.throwing q)))
def vx_X {S : Type} (px : S → Prop) (B : String → S → State → Prop) (A : Nat → Prop) : String → State → State → Prop := fun E st t => ∃ u : S, px u ∧ B E u t ∧ va_F A st t
section Runs
variable {p : Program} {l : Launch} {e : Env} {R : Room} {s : State} {m : MethodId} {args : Array Value} {below : List Frame} {meth : Method} {c : Code} {H : Heap} {locs : List Loc} {cells slots : Nat}
variable {y : MethodName} {bytes cc : ByteArray} {maxL nL mc ms n index : Nat} {ret : Option FieldType} {ws : List Cond} {rm : Room} {Pc : Array Value → State → Prop} {Qc : Array Value → State → Outcome → State → Prop} {XC : String → State → State → Prop} {free : Addr → Prop} {Ts : List Cond} {own C : String} {b : Addr} {As rest : List Value} {g : JFrame}
theorem vx_callBack (cb : CallB R s args own index y bytes maxL ret ws rm mc ms n) (hM : vx_Met l y ws rm Pc Qc XC mc ms free) (hbl : FrameBlind Pc) : vx_Back l R p e below s args y 3 8 (PreOf R mc ms Pc) (PostOf Qc mc ms free) (vx_Post XC mc ms free) := by
  obtain ⟨hrc, hrs, hfr, hlo, hws, hcw, -, hini, -⟩ := cb
  exact vx_back (bytes := bytes) (maxL := maxL) (ret := ret) hM hbl hrc hrs hfr hlo hws hcw (fun a' U hW => word_at hW (Or.inl (by first | rfl | simp [Cond.onTables, Cond.keeps, Cond.steady])) hini)
theorem vx_runV (S : CallFix p m c cc nL s args Ts own) (hM : vx_Met l y ws rm Pc Qc XC mc ms free) (cw : CallW R s args own C index y bytes maxL ret ws rm mc ms n) (hp : PreV s H C b Pc As)
    (hg : g.method = m) (hn : As.length = n) (hsize : g.locals.size = nL) (hstack : g.stack = As.reverse ++ .ref b :: rest) (hW : 2 * g.monitorRoom + (rest.map fun v => v.category).sum ≤ 8) (hdg : decode cc g.pc = .ok (.invokevirtual index, 3)) (hf : cells + mc ≤ R.cells ∧ slots + ms ≤ R.slots) :
    vx_Run p l e R s m args below meth c H locs cells slots mc ms g rest (Qc (Value.ref b :: As).toArray) XC free := by
  have hK : vx_Back l R p e below s args y 3 8 (PreOf R mc ms Pc) (PostOf Qc mc ms free) (vx_Post XC mc ms free) := vx_callBack cw.1 hM hp.1
  obtain ⟨⟨-, -, -, -, -, -, hcode, -, hy, hlen, hl⟩, hin, hse⟩ := cw
  obtain ⟨hx, hb, hml, ho, -⟩ := S
  obtain ⟨-, ⟨cellB, hcB, hoB, hclB⟩, hPc⟩ := hp
  intro T hT X
  rcases vx_callV X hx (C := C) (bytes := bytes) (maxL := maxL) (ret := ret) ho hl hin hse hcode hy hK (by rw [hT]; exact hcB) hoB hclB hg (hsize.trans hml.symm) (argsL := As) (rest := rest) (fun sig h => hn.trans (hlen sig h)) hstack hW (by rw [hb]; exact hdg)
    (fun vm₁ hW₁ => ⟨hf.1, hf.2, hPc (T.setVm vm₁) hT hW₁⟩) with ⟨v, vm₁, ⟨U', l2, c2, s2⟩, hW₁, X', ⟨g', mk, t, L, e1, e2, hq, h1, hL, h2, h3⟩, st⟩ | ⟨q, vm₁, ⟨U', l2, c2, s2⟩, hW₁, X', ⟨g', mk, t, L, E, ce, e1, e2, hq, hce, hcv, hcl, h1, hL, h2, h3⟩, st⟩
  · dsimp only [Pt.U, Pt.locs, Pt.cells, Pt.slots] at X' e1 e2 h1 h2 h3 st
    subst h1; subst h2; subst h3
    exact Or.inl ⟨v, (T.setVm vm₁).calling g' mk (Value.ref b :: As).toArray, t, U', L, hT, X', hL, e1, e2, hq, st⟩
  · dsimp only [Pt.U, Pt.locs, Pt.cells, Pt.slots] at X' e1 e2 h1 h2 h3 st hcl
    subst h1; subst h2; subst h3
    exact Or.inr ⟨q, (T.setVm vm₁).calling g' mk (Value.ref b :: As).toArray, t, U', L, E, ce, hT, X', hL, e1, e2, hq, hce, hcv, vx_cls hW₁ hcl, st⟩
theorem vx_runS (S : CallFix p m c cc nL s args Ts own) (hM : vx_Met l y ws rm Pc Qc XC mc ms free) (cw : CallB R s args own index y bytes maxL ret ws rm mc ms n ∧ (Cond.static y).before args s = true) (hp : PreS s H Pc As)
    (hg : g.method = m) (hn : As.length = n) (hsize : g.locals.size = nL) (hstack : g.stack = As.reverse ++ rest) (hW : 2 * g.monitorRoom + (rest.map fun v => v.category).sum ≤ 8) (hdg : decode cc g.pc = .ok (.invokestatic index, 3)) (hf : cells + mc ≤ R.cells ∧ slots + ms ≤ R.slots) :
    vx_Run p l e R s m args below meth c H locs cells slots mc ms g rest (Qc As.toArray) XC free := by
  have hK : vx_Back l R p e below s args y 3 8 (PreOf R mc ms Pc) (PostOf Qc mc ms free) (vx_Post XC mc ms free) := vx_callBack cw.1 hM hp.1
  obtain ⟨⟨-, -, -, -, -, -, hcode, hini, hy, hlen, hl⟩, hstt⟩ := cw
  obtain ⟨hx, hb, hml, ho, -⟩ := S
  intro T hT X
  rcases vx_callS X hx (bytes := bytes) (maxL := maxL) (ret := ret) ho hl hstt hini hcode hy hK hg (hsize.trans hml.symm) (argsL := As) (rest := rest) (fun sig h => hn.trans (hlen sig h)) hstack hW (by rw [hb]; exact hdg)
    (fun vm₁ hW₁ => ⟨hf.1, hf.2, hp.2 (T.setVm vm₁) hT hW₁⟩) with ⟨v, vm₁, ⟨U', l2, c2, s2⟩, hW₁, X', ⟨g', mk, t, L, e1, e2, hq, h1, hL, h2, h3⟩, st⟩ | ⟨q, vm₁, ⟨U', l2, c2, s2⟩, hW₁, X', ⟨g', mk, t, L, E, ce, e1, e2, hq, hce, hcv, hcl, h1, hL, h2, h3⟩, st⟩
  · dsimp only [Pt.U, Pt.locs, Pt.cells, Pt.slots] at X' e1 e2 h1 h2 h3 st
    subst h1; subst h2; subst h3
    exact Or.inl ⟨v, (T.setVm vm₁).calling g' mk As.toArray, t, U', L, hT, X', hL, e1, e2, hq, st⟩
  · dsimp only [Pt.U, Pt.locs, Pt.cells, Pt.slots] at X' e1 e2 h1 h2 h3 st hcl
    subst h1; subst h2; subst h3
    exact Or.inr ⟨q, (T.setVm vm₁).calling g' mk As.toArray, t, U', L, E, ce, hT, X', hL, e1, e2, hq, hce, hcv, vx_cls hW₁ hcl, st⟩
end Runs
section Rows
variable {p : Program} {l : Launch} {e : Env} {R : Room} {s : State} {m : MethodId} {args : Array Value} {below : List Frame} {meth : Method} {c : Code} {H : Heap} {locs : List Loc} {cells slots : Nat} {Q : State → Prop}
variable {mc ms : Nat} {free : Addr → Prop} {A0 A1 : Nat → Prop} {H0 : Heap} {a : Array Value} {pc : Nat} {ls : Array Slot} {st0 rest : List Value}
theorem vx_keep {st₀ t T' : State} {L : List Loc} (h0 : st₀.heap = H) (e1 : T'.heap = t.heap) (hS : va_S A0 H0 H locs) (hA : ∀ q, q < H.size → A1 q → A0 q) (hf : ∀ q, free q → A0 q) (hL : ∀ q ∈ L, free q.base) (hF : va_F A1 st₀ t) :
    H.size ≤ T'.heap.size ∧ (∀ q : Nat, q < H.size → ¬ A1 q → T'.heap[q]? = H[q]?) ∧ va_S A0 H0 T'.heap (locs ++ L) := by
  obtain ⟨hz, hk⟩ := hF
  rw [h0] at hz hk
  exact ⟨by rw [e1]; exact hz, fun q h1 h2 => by rw [e1]; exact hk q h1 h2,
    ⟨Nat.le_trans hS.1 (by rw [e1]; exact hz), fun q h1 h2 => by rw [e1, hk q (Nat.lt_of_lt_of_le h1 hS.1) (fun z => h2 (hA q (Nat.lt_of_lt_of_le h1 hS.1) z))]; exact hS.2.1 q h1 h2, fun q hq => by
      rcases List.mem_append.mp hq with h | h
      · exact hS.2.2 q h
      · exact hf _ (hL q h)⟩⟩
theorem vx_calli {S SX : Type} {post : Int32 → S → Prop} {px : SX → Prop} {B : S → State → Prop} {BX : String → SX → State → Prop} {AX : Nat → Prop} (hr : vx_Run p l e R s m args below meth c H locs cells slots mc ms (F0 m pc ls st0) rest (va_Qi post B A1 a) (vx_X px BX AX) free) (hS : va_S A0 H0 H locs) (hA : ∀ q, q < H.size → A1 q → A0 q) (hf : ∀ q, free q → A0 q) (hAX : ∀ q, q < H.size → AX q → A0 q)
    (kx : ∀ (E : String) (ce : Cell) (q9 : Addr) (u : SX) (t : State) (H1 : Heap) (locs1 : List Loc), t.heap = H1 → s.vm.Alike t.vm → px u → BX E u t → H.size ≤ H1.size → (∀ q : Nat, q < H.size → ¬ AX q → H1[q]? = H[q]?) → va_S A0 H0 H1 locs1 → H1[q9]? = some ce → ce.vm = .none → s.vm.findClass E = some ce.cls → vx_W p l e R s m args below meth c H1 locs1 (cells + mc) (slots + ms) Q (F0 m pc ls rest) q9)
    (kk : ∀ (r : Int32) (u : S) (t : State) (H1 : Heap) (locs1 : List Loc), t.heap = H1 → s.vm.Alike t.vm → post r u → B u t → H.size ≤ H1.size → (∀ q : Nat, q < H.size → ¬ A1 q → H1[q]? = H[q]?) → va_S A0 H0 H1 locs1 → W p l e R s m args below meth c H1 locs1 (cells + mc) (slots + ms) Q (F0 m (pc + 3) ls (.int r :: rest))) : W p l e R s m args below meth c H locs cells slots Q (F0 m pc ls st0) := by
  intro T hT X
  rcases hr T hT X with ⟨v, st₀, t, T', L, h0, X', hL, e1, e2, ⟨⟨r, u, hv, hp, hb⟩, hF⟩, st⟩ | ⟨q, st₀, t, T', L, E, ce, h0, X', hL, e1, e2, ⟨u, hp, hb, hF⟩, hce, hcv, hcl, st⟩
  · cases hv
    obtain ⟨k1, k2, k3⟩ := vx_keep h0 e1 hS hA hf hL hF
    obtain ⟨t2, a1, b1⟩ := kk r u t T'.heap (locs ++ L) e1.symm (by rw [← e2]; exact X'.warmed.alike) hp hb k1 k2 k3 T' rfl X'
    exact ⟨t2, st t2 a1, b1⟩
  · obtain ⟨k1, k2, k3⟩ := vx_keep h0 e1 hS hAX hf hL hF
    obtain ⟨t2, a1, b1⟩ := kx E ce q u t T'.heap (locs ++ L) e1.symm (by rw [← e2]; exact X'.warmed.alike) hp hb k1 k2 k3 (by rw [e1]; exact hce) hcv hcl T' rfl X'
    exact ⟨t2, st.trans a1, b1⟩
theorem vx_calll {S SX : Type} {post : Int64 → S → Prop} {px : SX → Prop} {B : S → State → Prop} {BX : String → SX → State → Prop} {AX : Nat → Prop} (hr : vx_Run p l e R s m args below meth c H locs cells slots mc ms (F0 m pc ls st0) rest (va_Ql post B A1 a) (vx_X px BX AX) free) (hS : va_S A0 H0 H locs) (hA : ∀ q, q < H.size → A1 q → A0 q) (hf : ∀ q, free q → A0 q) (hAX : ∀ q, q < H.size → AX q → A0 q)
    (kx : ∀ (E : String) (ce : Cell) (q9 : Addr) (u : SX) (t : State) (H1 : Heap) (locs1 : List Loc), t.heap = H1 → s.vm.Alike t.vm → px u → BX E u t → H.size ≤ H1.size → (∀ q : Nat, q < H.size → ¬ AX q → H1[q]? = H[q]?) → va_S A0 H0 H1 locs1 → H1[q9]? = some ce → ce.vm = .none → s.vm.findClass E = some ce.cls → vx_W p l e R s m args below meth c H1 locs1 (cells + mc) (slots + ms) Q (F0 m pc ls rest) q9)
    (kk : ∀ (r : Int64) (u : S) (t : State) (H1 : Heap) (locs1 : List Loc), t.heap = H1 → s.vm.Alike t.vm → post r u → B u t → H.size ≤ H1.size → (∀ q : Nat, q < H.size → ¬ A1 q → H1[q]? = H[q]?) → va_S A0 H0 H1 locs1 → W p l e R s m args below meth c H1 locs1 (cells + mc) (slots + ms) Q (F0 m (pc + 3) ls (.long r :: rest))) : W p l e R s m args below meth c H locs cells slots Q (F0 m pc ls st0) := by
  intro T hT X
  rcases hr T hT X with ⟨v, st₀, t, T', L, h0, X', hL, e1, e2, ⟨⟨r, u, hv, hp, hb⟩, hF⟩, st⟩ | ⟨q, st₀, t, T', L, E, ce, h0, X', hL, e1, e2, ⟨u, hp, hb, hF⟩, hce, hcv, hcl, st⟩
  · cases hv
    obtain ⟨k1, k2, k3⟩ := vx_keep h0 e1 hS hA hf hL hF
    obtain ⟨t2, a1, b1⟩ := kk r u t T'.heap (locs ++ L) e1.symm (by rw [← e2]; exact X'.warmed.alike) hp hb k1 k2 k3 T' rfl X'
    exact ⟨t2, st t2 a1, b1⟩
  · obtain ⟨k1, k2, k3⟩ := vx_keep h0 e1 hS hAX hf hL hF
    obtain ⟨t2, a1, b1⟩ := kx E ce q u t T'.heap (locs ++ L) e1.symm (by rw [← e2]; exact X'.warmed.alike) hp hb k1 k2 k3 (by rw [e1]; exact hce) hcv hcl T' rfl X'
    exact ⟨t2, st.trans a1, b1⟩
theorem vx_callf {S SX : Type} {post : UInt32 → S → Prop} {px : SX → Prop} {B : S → State → Prop} {BX : String → SX → State → Prop} {AX : Nat → Prop} (hr : vx_Run p l e R s m args below meth c H locs cells slots mc ms (F0 m pc ls st0) rest (va_Qf post B A1 a) (vx_X px BX AX) free) (hS : va_S A0 H0 H locs) (hA : ∀ q, q < H.size → A1 q → A0 q) (hf : ∀ q, free q → A0 q) (hAX : ∀ q, q < H.size → AX q → A0 q)
    (kx : ∀ (E : String) (ce : Cell) (q9 : Addr) (u : SX) (t : State) (H1 : Heap) (locs1 : List Loc), t.heap = H1 → s.vm.Alike t.vm → px u → BX E u t → H.size ≤ H1.size → (∀ q : Nat, q < H.size → ¬ AX q → H1[q]? = H[q]?) → va_S A0 H0 H1 locs1 → H1[q9]? = some ce → ce.vm = .none → s.vm.findClass E = some ce.cls → vx_W p l e R s m args below meth c H1 locs1 (cells + mc) (slots + ms) Q (F0 m pc ls rest) q9)
    (kk : ∀ (r : UInt32) (u : S) (t : State) (H1 : Heap) (locs1 : List Loc), t.heap = H1 → s.vm.Alike t.vm → post r u → B u t → H.size ≤ H1.size → (∀ q : Nat, q < H.size → ¬ A1 q → H1[q]? = H[q]?) → va_S A0 H0 H1 locs1 → W p l e R s m args below meth c H1 locs1 (cells + mc) (slots + ms) Q (F0 m (pc + 3) ls (.float r :: rest))) : W p l e R s m args below meth c H locs cells slots Q (F0 m pc ls st0) := by
  intro T hT X
  rcases hr T hT X with ⟨v, st₀, t, T', L, h0, X', hL, e1, e2, ⟨⟨r, u, hv, hp, hb⟩, hF⟩, st⟩ | ⟨q, st₀, t, T', L, E, ce, h0, X', hL, e1, e2, ⟨u, hp, hb, hF⟩, hce, hcv, hcl, st⟩
  · cases hv
    obtain ⟨k1, k2, k3⟩ := vx_keep h0 e1 hS hA hf hL hF
    obtain ⟨t2, a1, b1⟩ := kk r u t T'.heap (locs ++ L) e1.symm (by rw [← e2]; exact X'.warmed.alike) hp hb k1 k2 k3 T' rfl X'
    exact ⟨t2, st t2 a1, b1⟩
  · obtain ⟨k1, k2, k3⟩ := vx_keep h0 e1 hS hAX hf hL hF
    obtain ⟨t2, a1, b1⟩ := kx E ce q u t T'.heap (locs ++ L) e1.symm (by rw [← e2]; exact X'.warmed.alike) hp hb k1 k2 k3 (by rw [e1]; exact hce) hcv hcl T' rfl X'
    exact ⟨t2, st.trans a1, b1⟩
theorem vx_calld {S SX : Type} {post : UInt64 → S → Prop} {px : SX → Prop} {B : S → State → Prop} {BX : String → SX → State → Prop} {AX : Nat → Prop} (hr : vx_Run p l e R s m args below meth c H locs cells slots mc ms (F0 m pc ls st0) rest (va_Qd post B A1 a) (vx_X px BX AX) free) (hS : va_S A0 H0 H locs) (hA : ∀ q, q < H.size → A1 q → A0 q) (hf : ∀ q, free q → A0 q) (hAX : ∀ q, q < H.size → AX q → A0 q)
    (kx : ∀ (E : String) (ce : Cell) (q9 : Addr) (u : SX) (t : State) (H1 : Heap) (locs1 : List Loc), t.heap = H1 → s.vm.Alike t.vm → px u → BX E u t → H.size ≤ H1.size → (∀ q : Nat, q < H.size → ¬ AX q → H1[q]? = H[q]?) → va_S A0 H0 H1 locs1 → H1[q9]? = some ce → ce.vm = .none → s.vm.findClass E = some ce.cls → vx_W p l e R s m args below meth c H1 locs1 (cells + mc) (slots + ms) Q (F0 m pc ls rest) q9)
    (kk : ∀ (r : UInt64) (u : S) (t : State) (H1 : Heap) (locs1 : List Loc), t.heap = H1 → s.vm.Alike t.vm → post r u → B u t → H.size ≤ H1.size → (∀ q : Nat, q < H.size → ¬ A1 q → H1[q]? = H[q]?) → va_S A0 H0 H1 locs1 → W p l e R s m args below meth c H1 locs1 (cells + mc) (slots + ms) Q (F0 m (pc + 3) ls (.double r :: rest))) : W p l e R s m args below meth c H locs cells slots Q (F0 m pc ls st0) := by
  intro T hT X
  rcases hr T hT X with ⟨v, st₀, t, T', L, h0, X', hL, e1, e2, ⟨⟨r, u, hv, hp, hb⟩, hF⟩, st⟩ | ⟨q, st₀, t, T', L, E, ce, h0, X', hL, e1, e2, ⟨u, hp, hb, hF⟩, hce, hcv, hcl, st⟩
  · cases hv
    obtain ⟨k1, k2, k3⟩ := vx_keep h0 e1 hS hA hf hL hF
    obtain ⟨t2, a1, b1⟩ := kk r u t T'.heap (locs ++ L) e1.symm (by rw [← e2]; exact X'.warmed.alike) hp hb k1 k2 k3 T' rfl X'
    exact ⟨t2, st t2 a1, b1⟩
  · obtain ⟨k1, k2, k3⟩ := vx_keep h0 e1 hS hAX hf hL hF
    obtain ⟨t2, a1, b1⟩ := kx E ce q u t T'.heap (locs ++ L) e1.symm (by rw [← e2]; exact X'.warmed.alike) hp hb k1 k2 k3 (by rw [e1]; exact hce) hcv hcl T' rfl X'
    exact ⟨t2, st.trans a1, b1⟩
theorem vx_callv {S SX : Type} {post : S → Prop} {px : SX → Prop} {B : S → State → Prop} {BX : String → SX → State → Prop} {AX : Nat → Prop} (hr : vx_Run p l e R s m args below meth c H locs cells slots mc ms (F0 m pc ls st0) rest (va_Qv post B A1 a) (vx_X px BX AX) free) (hS : va_S A0 H0 H locs) (hA : ∀ q, q < H.size → A1 q → A0 q) (hf : ∀ q, free q → A0 q) (hAX : ∀ q, q < H.size → AX q → A0 q)
    (kx : ∀ (E : String) (ce : Cell) (q9 : Addr) (u : SX) (t : State) (H1 : Heap) (locs1 : List Loc), t.heap = H1 → s.vm.Alike t.vm → px u → BX E u t → H.size ≤ H1.size → (∀ q : Nat, q < H.size → ¬ AX q → H1[q]? = H[q]?) → va_S A0 H0 H1 locs1 → H1[q9]? = some ce → ce.vm = .none → s.vm.findClass E = some ce.cls → vx_W p l e R s m args below meth c H1 locs1 (cells + mc) (slots + ms) Q (F0 m pc ls rest) q9)
    (kk : ∀ (u : S) (t : State) (H1 : Heap) (locs1 : List Loc), t.heap = H1 → s.vm.Alike t.vm → post u → B u t → H.size ≤ H1.size → (∀ q : Nat, q < H.size → ¬ A1 q → H1[q]? = H[q]?) → va_S A0 H0 H1 locs1 → W p l e R s m args below meth c H1 locs1 (cells + mc) (slots + ms) Q (F0 m (pc + 3) ls (rest))) : W p l e R s m args below meth c H locs cells slots Q (F0 m pc ls st0) := by
  intro T hT X
  rcases hr T hT X with ⟨v, st₀, t, T', L, h0, X', hL, e1, e2, ⟨⟨u, hv, hp, hb⟩, hF⟩, st⟩ | ⟨q, st₀, t, T', L, E, ce, h0, X', hL, e1, e2, ⟨u, hp, hb, hF⟩, hce, hcv, hcl, st⟩
  · cases hv
    obtain ⟨k1, k2, k3⟩ := vx_keep h0 e1 hS hA hf hL hF
    obtain ⟨t2, a1, b1⟩ := kk u t T'.heap (locs ++ L) e1.symm (by rw [← e2]; exact X'.warmed.alike) hp hb k1 k2 k3 T' rfl X'
    exact ⟨t2, st t2 a1, b1⟩
  · obtain ⟨k1, k2, k3⟩ := vx_keep h0 e1 hS hAX hf hL hF
    obtain ⟨t2, a1, b1⟩ := kx E ce q u t T'.heap (locs ++ L) e1.symm (by rw [← e2]; exact X'.warmed.alike) hp hb k1 k2 k3 (by rw [e1]; exact hce) hcv hcl T' rfl X'
    exact ⟨t2, st.trans a1, b1⟩
/-- caught by the row x of this method's table; the rows ahead don't take it -/
theorem vx_catch {own name : String} {E : String} {ce : Cell} {q : Addr} (hown : s.vm.findClass own = some m.cls) (pre : List ExceptionTableEntry) (x : ExceptionTableEntry) (suf : List ExceptionTableEntry) (hsplit : c.exceptionTable.toList = pre ++ x :: suf)
    (hpass : ∀ z ∈ pre, covers z pc = false ∨ (z.catchType ≠ 0 ∧ ∃ nm : String, (Cond.classLink own z.catchType nm).before args s = true ∧ va_Nc E nm s)) (hx : covers x pc = true) (h0 : x.catchType ≠ 0)
    (hlink : (Cond.classLink own x.catchType name).before args s = true) (hcast : (Cond.castable E name).before args s = true) (hcell : H[q]? = some ce) (hv : ce.vm = .none) (hcl : s.vm.findClass E = some ce.cls)
    (kk : W p l e R s m args below meth c H locs cells slots Q (F0 m x.handlerPc ls [.ref q])) : vx_W p l e R s m args below meth c H locs cells slots Q (F0 m pc ls rest) q := by
  intro T hT X
  have hpl : e.platform.magicAccessors = ({} : Platform).magicAccessors := by rw [X.admits.platform]
  obtain ⟨c3, c4, hc3, hc4, hasg⟩ := Cond.castable_spec hcast
  cases Option.some.inj (hc3.symm.trans hcl)
  obtain ⟨c5, hc5, hcl5⟩ := Cond.classLink_spec hown hlink e.platform hpl
  cases Option.some.inj (hc4.symm.trans hc5)
  obtain ⟨vm', X', st⟩ := X.thenCaughtThrough q (g := F0 m pc ls rest) rfl (Steps.refl _) (by rw [hT]; exact hcell) (by rw [hv]; rfl) (by obtain ⟨k9, h9, -⟩ := Vm.findClass_spec hcl; exact ⟨k9, h9⟩) pre x suf hsplit
    (fun z hz => by
      rcases hpass z hz with h | ⟨hz0, nm, hl1, hn1⟩
      · exact Or.inl h
      · obtain ⟨c6, hc6, hcl6⟩ := Cond.classLink_spec hown hl1 e.platform hpl
        obtain ⟨a8, b8, h1, h2, h3⟩ := hn1
        cases Option.some.inj (h1.symm.trans hcl)
        cases Option.some.inj (h2.symm.trans hc6)
        exact Or.inr ⟨hz0, _, hcl6, h3⟩) hx (Or.inr ⟨h0, c4, hcl5, hasg⟩)
  obtain ⟨t, a1, b1⟩ := kk (T.setVm vm') hT X'
  exact ⟨t, st.trans a1, b1⟩
end Rows
section Ends
variable {p : Program} {l : Launch} {e : Env} {R : Room} {s : State} {m : MethodId} {args : Array Value} {below : List Frame} {meth : Method} {c : Code} {H : Heap} {locs : List Loc} {cells slots : Nat} {Q : State → Prop}
variable {mc ms : Nat} {free : Addr → Prop} {A0 A1 : Nat → Prop} {H0 : Heap} {a : Array Value} {ls : Array Slot} {st0 rest : List Value}
variable {Qc : Array Value → State → Outcome → State → Prop} {XC : String → State → State → Prop}
/-- what a body that may throw owes at its end -/
def vx_MQ (below : List Frame) (Qc : Array Value → State → Outcome → State → Prop) (XC : String → State → State → Prop) (a : Array Value) (s : State) (mc ms : Nat) (free : Addr → Prop) : State → Prop := fun t =>
  ∃ o, t.status = .running ∧ Ended t below o ∧ vx_Q Qc XC mc ms free a s o t
theorem vx_ret {g : JFrame} {mc ms : Nat} (k : W p l e R s m args below meth c H locs cells slots (MQ below Qc args s mc ms free) g) : W p l e R s m args below meth c H locs cells slots (vx_MQ below Qc XC args s mc ms free) g := by
  intro T hT X
  obtain ⟨t, a1, o, b1, b2, b3, b4⟩ := k T hT X
  exact ⟨t, a1, o, b1, b2, Or.inl ⟨b3, b4⟩⟩
/-- not caught here: it goes on to the caller -/
theorem vx_widen {g : JFrame} {q : Addr} {k n : Nat} (h1 : cells ≤ k) (h2 : slots ≤ n) (kk : vx_W p l e R s m args below meth c H locs k n Q g q) : vx_W p l e R s m args below meth c H locs cells slots Q g q := fun T hT X => kk T hT (stand_widen X h1 h2)
theorem vx_out {pc : Nat} {E : String} {ce : Cell} {q : Addr} {mc ms : Nat} (hout : ∀ x ∈ c.exceptionTable.toList, covers x pc = false) (hlocks : meth.locks = false) (hcell : H[q]? = some ce) (hv : ce.vm = .none) (hcl : s.vm.findClass E = some ce.cls)
    (hx : ∀ t : State, t.heap = H → s.vm.Alike t.vm → XC E s t) (hf : ∀ z ∈ locs, free z.base) (hc : cells ≤ mc) (hs : slots ≤ ms) :
    vx_W p l e R s m args below meth c H locs cells slots (vx_MQ below Qc XC args s mc ms free) (F0 m pc ls rest) q := by
  intro T hT X
  obtain ⟨st1, hrun, hend, hW, hsm⟩ := X.leaveThrown q (g := F0 m pc ls rest) rfl rfl rfl hout hlocks
  have hcell9 : (T.setFrames (.throwing q :: below)).heap[q]? = some ce := by
    show T.heap[q]? = some ce
    rw [hT]; exact hcell
  exact ⟨_, st1, .threw q, hrun, hend, Or.inr ⟨q, rfl, E, ce, locs, hx _ hT hW.alike, hcell9, hv, hcl, hW, hsm.mono hc hs, hf⟩⟩
theorem vx_frame {U : State} {k n : Nat} (h : s.sameButNew ({ U with vm := s.vm } : State) locs k n) : s.heap.size ≤ U.heap.size ∧ ∀ q : Nat, q < s.heap.size → (∀ z ∈ locs, z.base ≠ q) → U.heap[q]? = s.heap[q]? := by
  obtain ⟨-, h2, -, -, -, h6⟩ := h
  refine ⟨h2, fun q hq hz => ?_⟩
  obtain ⟨c9, e1, e2, e3, e4⟩ := h6 q _ (Array.getElem?_eq_getElem hq)
  have hs : c9.slots = (s.heap[q]).slots := Array.ext_getElem? fun i => e4 i fun hm => hz _ hm rfl
  have h9 : c9 = s.heap[q] := by
    rw [hs] at e2
    exact e2
  have e5 : U.heap[q]? = some c9 := e1
  rw [e5, h9, Array.getElem?_eq_getElem hq]
/-- the words of a throw but the four that speak of the heap -/
def vx_no (w : Cond) : Bool := decide (w ≠ .isRef (.static Bundle.tN "UNASSIGNED_STACK" Bundle.steD)) && decide (w ≠ .isRef (.static Bundle.tN "SUPPRESSED_SENTINEL" Bundle.listD)) && decide (w ≠ .laysStatic Bundle.tN "UNASSIGNED_STACK" Bundle.steD) && decide (w ≠ .laysStatic Bundle.tN "SUPPRESSED_SENTINEL" Bundle.listD)
def vx_at0 (own : String) (ic : Nat) (X : String) (names : List String) : List Cond := (Bundle.ownAtoms0 own ic X names).filter vx_no
def vx_atS (own : String) (ic : Nat) (X : String) (names : List String) : List Cond := (Bundle.ownAtoms own ic X names).filter vx_no
/-- a word that the tables alone decide, or a good one -/
def vx_ot (w : Cond) : Bool := w.onTables || goodWord w
theorem vx_ot_at {args a' : Array Value} {s U : State} {w : Cond} (hW : s.WarmedH U.vm) (hvm : s.vm = U.vm) (hg : vx_ot w = true) (h : w.before args s = true) : w.before a' U = true := by
  simp only [vx_ot, Bool.or_eq_true] at hg
  rcases hg with hg | hg
  · exact va_tabs hg hvm h
  · exact word_at hW (good_of_word hg) h
/-- a list's words: the good ones out of the method's own list, the others by premises of their own -/
theorem vx_hat {args : Array Value} {s : State} {L B : List Cond} (h1 : ∀ w ∈ L.filter goodWord, w.before args s = true) (h2 : ∀ w ∈ L.filter (fun w => !goodWord w), w ∈ B) (h3 : ∀ w ∈ B, w.before args s = true) : ∀ w ∈ L, w.before args s = true := by
  intro w hw
  by_cases g : goodWord w = true
  · exact h1 w (List.mem_filter.mpr ⟨hw, g⟩)
  · refine h3 w (h2 w (List.mem_filter.mpr ⟨hw, ?_⟩))
    show (!goodWord w) = true
    cases hgw : goodWord w
    · rfl
    · exact absurd hgw g
theorem vx_c {args : Array Value} {s : State} {w : Cond} {B : List Cond} (h : w.before args s = true) (t : ∀ w ∈ B, w.before args s = true) : ∀ w' ∈ w :: B, w'.before args s = true := fun w' h' => (List.mem_cons.mp h').elim (fun e => by rw [e]; exact h) (t w')
theorem vx_n {args : Array Value} {s : State} : ∀ w ∈ ([] : List Cond), w.before args s = true := fun _ h => nomatch h
theorem vx_own {args : Array Value} {s : State} {L : List Cond} (h1 : ∀ w ∈ L.filter vx_no, w.before args s = true)
    (hU : (Cond.isRef (.static Bundle.tN "UNASSIGNED_STACK" Bundle.steD)).before args s = true) (hN : (Cond.isRef (.static Bundle.tN "SUPPRESSED_SENTINEL" Bundle.listD)).before args s = true)
    (lU : (Cond.laysStatic Bundle.tN "UNASSIGNED_STACK" Bundle.steD).before args s = true) (lN : (Cond.laysStatic Bundle.tN "SUPPRESSED_SENTINEL" Bundle.listD).before args s = true) : ∀ w ∈ L, w.before args s = true := by
  intro w hw
  by_cases e1 : w = .isRef (.static Bundle.tN "UNASSIGNED_STACK" Bundle.steD)
  · rw [e1]; exact hU
  · by_cases e2 : w = .isRef (.static Bundle.tN "SUPPRESSED_SENTINEL" Bundle.listD)
    · rw [e2]; exact hN
    · by_cases e3 : w = .laysStatic Bundle.tN "UNASSIGNED_STACK" Bundle.steD
      · rw [e3]; exact lU
      · by_cases e4 : w = .laysStatic Bundle.tN "SUPPRESSED_SENTINEL" Bundle.listD
        · rw [e4]; exact lN
        · exact h1 w (List.mem_filter.mpr ⟨hw, by unfold vx_no; rw [decide_eq_true e1, decide_eq_true e2, decide_eq_true e3, decide_eq_true e4]; rfl⟩)
/-- where a static field lies, its class's statics cell in H -/
def vx_L (C n d : String) (A : Nat → Prop) (U : State) (H : Heap) : Prop := ∃ (c : ClassId) (k : Class) (i : Nat) (f : Field) (a : Nat) (cell : Cell), U.vm.findClass C = some c ∧ U.fieldFound? C n d = some (c, k, i, f) ∧ f.isStatic = true ∧ k.statics = some a ∧ H[a]? = some cell ∧ cell.vm.isStatics = true ∧ cell.cls = c ∧ f.slot < cell.slots.size ∧ k.staticTypes[f.slot]? = some f.type ∧ ¬ A a
theorem vx_L.moved {C n d : String} {A : Nat → Prop} {u U : State} {H : Heap} (hvm : u.vm.Alike U.vm) (h : vx_L C n d A u H) : vx_L C n d A U H := by
  obtain ⟨c, k, i, f, a, cell, h1, h2, h3, h4, h5, h6, h7, h8, h9, h10⟩ := h
  obtain ⟨k', hi', he⟩ := State.fieldFound?_setVm hvm h2
  exact ⟨c, k', i, f, a, cell, by rw [hvm.findClass]; exact h1, hi', h3, by rw [he]; exact h4, h5, h6, h7, h8, by rw [he]; exact h9, h10⟩
theorem vx_L.kept {C n d : String} {A : Nat → Prop} {U : State} {H H1 : Heap} (h : vx_L C n d A U H) (hq : ∀ a : Nat, a < H.size → ¬ A a → H1[a]? = H[a]?) : vx_L C n d A U H1 := by
  obtain ⟨c, k, i, f, a, cell, h1, h2, h3, h4, h5, h6, h7, h8, h9, h10⟩ := h
  exact ⟨c, k, i, f, a, cell, h1, h2, h3, h4, by rw [hq a (Array.getElem?_eq_some_iff.mp h5).1 h10]; exact h5, h6, h7, h8, h9, h10⟩
theorem vx_L.narrow {C n d : String} {A B : Nat → Prop} {U : State} {H : Heap} (h : vx_L C n d A U H) (hAB : ∀ q, B q → A q) : vx_L C n d B U H := by
  obtain ⟨c, k, i, f, a, cell, h1, h2, h3, h4, h5, h6, h7, h8, h9, h10⟩ := h
  exact ⟨c, k, i, f, a, cell, h1, h2, h3, h4, h5, h6, h7, h8, h9, fun z => h10 (hAB _ z)⟩
theorem vx_L.word {C n d : String} {A : Nat → Prop} {s : State} {args : Array Value} (h : vx_L C n d A s s.heap) : (Cond.laysStatic C n d).before args s = true := by
  obtain ⟨c, k, i, f, a, cell, h1, h2, h3, h4, h5, h6, h7, h8, h9, -⟩ := h
  show (Cond.laysStatic C n d).holds args s none s [] = true
  exact Cond.laysStatic_of h1 h2 h3 h4 h5 h6 h7 h8 h9
/-- .. and what it holds: null or some reference -/
def vx_Zq (C n d : String) (A : Nat → Prop) (U : State) (H : Heap) : Prop := va_Zq C n d A U H ∧ vx_L C n d A U H
theorem vx_Zq.moved {C n d : String} {A : Nat → Prop} {u U : State} {H : Heap} (hvm : u.vm.Alike U.vm) (h : vx_Zq C n d A u H) : vx_Zq C n d A U H := ⟨va_Zq.moved hvm h.1, vx_L.moved hvm h.2⟩
theorem vx_Zq.kept {C n d : String} {A : Nat → Prop} {U : State} {H H1 : Heap} (h : vx_Zq C n d A U H) (hq : ∀ a : Nat, a < H.size → ¬ A a → H1[a]? = H[a]?) : vx_Zq C n d A U H1 := ⟨va_Zq.kept h.1 hq, vx_L.kept h.2 hq⟩
theorem vx_Zq.narrow {C n d : String} {A B : Nat → Prop} {U : State} {H : Heap} (h : vx_Zq C n d A U H) (hAB : ∀ q, B q → A q) : vx_Zq C n d B U H := ⟨va_Zq.narrow h.1 hAB, vx_L.narrow h.2 hAB⟩
theorem vx_Zqof {args : Array Value} {s : State} {C n d : String} {A : Nat → Prop} (hl : (Cond.laysStatic C n d).before args s = true) (hini : (Cond.initialized C).before args s = true) (h : (Cond.isRef (.static C n d)).before args s = true) (hA : ∀ a : Nat, a < s.heap.size → ¬ A a) : vx_Zq C n d A s s.heap := by
  refine ⟨va_Zqof hl hini h hA, ?_⟩
  obtain ⟨c, k, i, f, a, cell, h1, h2, h3, h4, h5, h6, h7, h8, h9⟩ := Cond.laysStatic_spec hl
  exact ⟨c, k, i, f, a, cell, h1, h2, h3, h4, h5, h6, h7, h8, h9, hA a (Array.getElem?_eq_some_iff.mp h5).1⟩
theorem vx_isRef {C n d : String} {v : Value} {A : Nat → Prop} {s : State} {args : Array Value} (h : va_Z C n d v A s s.heap) (hv : v.isRef = true) : (Cond.isRef (.static C n d)).before args s = true := by
  obtain ⟨cf, kf, fi, f, a, cell, h1, h2, h3, h4, h5, h6, h7, -⟩ := h
  have he : (Term.static C n d).eval args s none [] s = some v := by
    simp [Term.eval, State.fieldNamed?, h1, h2, h4, h5, h6, h7]
  simp only [Cond.before, Cond.holds, Cond.value, he]
  cases v <;> simp_all [Value.isRef]
theorem vx_isRefq {C n d : String} {A : Nat → Prop} {s : State} {args : Array Value} (h : va_Zq C n d A s s.heap) : (Cond.isRef (.static C n d)).before args s = true := by
  rcases h with h | ⟨t, h⟩
  · exact vx_isRef h rfl
  · exact vx_isRef h rfl
/-- the same frame, seen from here: as if the method were called anew in this heap -/
theorem vx_rebase {T : State} (X : Stand p l e R s m args below meth c T locs cells slots) {R' : Room} (hf : R'.frames ≤ R.frames) (hl : R'.locals ≤ R.locals) (hc : cells + R'.cells ≤ R.cells) (hs : slots + R'.slots ≤ R.slots) :
    Stand p l e R' ((T.setVm s.vm).setFrames (.invoking m args :: below)) m args below meth c T [] 0 0 := by
  have htop : (T.setVm s.vm).topJava?.isSome := X.here.top
  have hF : ((T.setVm s.vm).setFrames (.invoking m args :: below)).frames = .invoking m args :: below := State.frames_setFrames _ (State.cur_lt_of_top htop)
  obtain ⟨g₀, hg0⟩ := Option.isSome_iff_exists.mp htop
  obtain ⟨r, hr⟩ := State.topJava?_eq_some.mp hg0
  have hl9 : e.platform.stackLimits (T.setVm s.vm).me = e.platform.stackLimits s.me := X.limits
  have hb9 : (T.setVm s.vm).me.stackBytes = s.me.stackBytes := X.bytes
  refine ⟨X.admits, X.cas, X.clock, hF, ?_, X.hears, X.method, X.code, X.here, X.tail, X.warmed, ?_, ?_, ?_⟩
  · have h := X.room
    have hU : ((T.setVm s.vm).setFrames (.invoking m args :: below)).localsInUse = s.localsInUse := by
      rw [State.localsInUse_invoking hF (meth := meth) (c := c) X.method X.code, State.localsInUse_invoking X.frames X.method X.code]
    simp only [State.hasRoom, Bool.and_eq_true, decide_eq_true_eq] at h ⊢
    obtain ⟨⟨⟨⟨h1, h2, h3, h4, h5, h6⟩, h7⟩, h8⟩, h9⟩ := h
    rw [X.frames, List.length_cons] at h2 h3
    have q1 := X.heapSize
    have q2 := X.used
    simp only [hF, hU, List.length_cons, State.stackLimits_setFrames, State.stackBytes_setFrames, hl9, hb9]
    refine ⟨⟨⟨⟨by omega, by omega, by omega, by omega, by omega, h6⟩, ?_⟩, ?_⟩, X.book⟩
    · show T.heap.size + R'.cells ≤ e.platform.maxCells
      omega
    · show T.slotsUsed + R'.slots ≤ e.platform.maxSlots
      omega
  · rw [State.stackLimits_setFrames]; rfl
  · rw [State.stackBytes_setFrames]; rfl
  · refine ⟨?_, Nat.le_refl _, Nat.le_refl _, ?_, ?_, fun a c9 h9 => ⟨c9, h9, rfl, rfl, fun _ _ => rfl⟩⟩
    · obtain ⟨t, ht, -⟩ := State.frames_cons hr
      show T.setVm s.vm = { ((T.setVm s.vm).setFrames (.invoking m args :: below)).setFrames (T.setVm s.vm).frames with heap := T.heap, slotsUsed := T.slotsUsed }
      rw [State.setFrames_setFrames, State.setFrames_self ht]
      rfl
    · show T.slotsUsed = T.slotsUsed + ((T.heap.toList.drop T.heap.size).map (·.slots.size)).sum
      rw [List.drop_eq_nil_of_le (Nat.le_of_eq Array.length_toList)]
      rfl
    · show ((T.heap.toList.drop T.heap.size).map (·.slots.size)).sum ≤ 0
      rw [List.drop_eq_nil_of_le (Nat.le_of_eq Array.length_toList)]
      exact Nat.le_refl _
/-- 'throw new E()': new; dup; invokespecial; athrow -/
theorem vx_throw0 {cc : ByteArray} {pc : Nat} (hexec : p.tables.exec = Jvm.exec) (hb : c.code = cc) (hl : l.stackTraces = false) {own cls : String} {names : List String} {ik ic mc ms : Nat} {A : Nat → Prop}
    (hown : s.vm.findClass own = some m.cls) (hcls : Bundle.fit cls = true) (hnames : ∀ n ∈ names, Bundle.fit n = true)
    (hk : (Cond.classLink own ik cls).before args s = true) (hini : (Cond.initialized cls).before args s = true) (hat : ∀ w ∈ vx_at0 own ic cls names, w.before args s = true)
    (hgood : ∀ w ∈ Cond.classLink own ik cls :: Cond.initialized cls :: vx_at0 own ic cls names, vx_ot w = true)
    (hU : vx_Zq Bundle.tN "UNASSIGNED_STACK" Bundle.steD A s s.heap) (hN : vx_Zq Bundle.tN "SUPPRESSED_SENTINEL" Bundle.listD A s s.heap) (hS : va_S A s.heap H locs) (hsize : ls.size = c.maxLocals)
    (d0 : decode cc pc = .ok (.new ik, 3)) (d3 : decode cc (pc + 3) = .ok (.dup, 1)) (d4 : decode cc (pc + 4) = .ok (.invokespecial ic, 3)) (d7 : decode cc (pc + 7) = .ok (.athrow, 1))
    (hout : ∀ x ∈ c.exceptionTable.toList, covers x (pc + 7) = false)
    (hRframes : names.length + 3 < R.frames) (hRlocals : (rest.map fun v => v.category).sum + (13 * (names.length + 1) + 42) ≤ R.locals) (hRcells : cells + 1 ≤ R.cells) (hRslots : slots + 6 ≤ R.slots) (hlocks : meth.locks = false)
    (hx : ∀ t : State, s.vm.Alike t.vm → H.size ≤ t.heap.size → (∀ q : Nat, q < H.size → t.heap[q]? = H[q]?) → XC cls s t)
    (hf : ∀ z ∈ locs, free z.base) (hc : cells + 1 ≤ mc) (hs : slots + 6 ≤ ms) :
    W p l e R s m args below meth c H locs cells slots (vx_MQ below Qc XC args s mc ms free) (F0 m pc ls rest) := by
  intro T hT X
  have htr : e.platform.stackTraces = false := (show e.platform.stackTraces = l.stackTraces by rw [X.admits.platform]).trans hl
  have Y := vx_rebase X (R' := { frames := R.frames, locals := R.locals, cells := 1, slots := 6 }) (Nat.le_refl _) (Nat.le_refl _) hRcells hRslots
  obtain ⟨s', hA⟩ : ∃ z, z = (T.setVm s.vm).setFrames (.invoking m args :: below) := ⟨_, rfl⟩
  rw [← hA] at Y
  have hvm : s'.vm = s.vm := by rw [hA]; rfl
  have hhp : s'.heap = H := by rw [hA]; exact hT
  have hW0 : s.WarmedH s'.vm := by rw [hvm]; exact State.WarmedH.refl s
  have hat' : ∀ w ∈ vx_at0 own ic cls names, w.before args s' = true := fun w hw => vx_ot_at hW0 hvm.symm (hgood w (List.mem_cons_of_mem _ (List.mem_cons_of_mem _ hw))) (hat w hw)
  have hk' : (Cond.classLink own ik cls).before args s' = true := vx_ot_at hW0 hvm.symm (hgood _ List.mem_cons_self) hk
  have hini' : (Cond.initialized cls).before args s' = true := vx_ot_at hW0 hvm.symm (hgood _ (List.mem_cons_of_mem _ List.mem_cons_self)) hini
  have hU' : vx_Zq Bundle.tN "UNASSIGNED_STACK" Bundle.steD A s' s'.heap := by rw [hhp]; exact vx_Zq.moved hW0.alike (hU.kept hS.2.1)
  have hN' : vx_Zq Bundle.tN "SUPPRESSED_SENTINEL" Bundle.listD A s' s'.heap := by rw [hhp]; exact vx_Zq.moved hW0.alike (hN.kept hS.2.1)
  have h : ∀ w ∈ Bundle.ownAtoms0 own ic cls names, w.before args s' = true := vx_own hat' (vx_isRefq hU'.1) (vx_isRefq hN'.1) hU'.2.word hN'.2.word
  have hown' : s'.vm.findClass own = some m.cls := by rw [hvm]; exact hown
  have hins : (Cond.instantiable cls 6).before args s' = true := h _ (by simp [Bundle.ownAtoms0])
  obtain ⟨vm₁, cX, kX, hfX, hkX, -, -, X₁, st1⟩ := Y.newCold hexec (own := own) (C := cls) (index := ik) (n := 6) hown' hk' hins hini'
    (g := F0 m pc ls rest) rfl (by rw [hb]; exact d0) (Nat.le_refl _) (Nat.le_refl _)
  generalize hT1 : (T.setVm vm₁).pushCell { cls := cX, slots := kX.instanceTypes.map defaultValue, vm := .none } = T1 at X₁ st1
  have hcat : (Value.ref T.heap.size).category = 1 := rfl
  have hcellA : T1.heap[T.heap.size]? = some (freshCell cX kX) := by rw [← hT1]; exact State.heap_pushCell_size _ _
  have d3' : decode c.code (pc + 3) = .ok (.dup, 1) := by rw [hb]; exact d3
  obtain ⟨U, hsteps, hrun, hend, hW, hsame, ce, hce, hO⟩ := X₁.ctorThrow0 hexec htr (own := own) (cls := cls) (names := names) (ic := ic) hown' hcls hnames h (fun x hx => nomatch hx) hfX hkX hcellA (by rw [hhp, hT]; exact Nat.le_refl _)
    (g := { method := m, pc := pc + 4, locals := ls, stack := .ref T.heap.size :: .ref T.heap.size :: rest, locked := none }) rfl hsize rfl rfl (rest := rest) rfl
    (by rw [hb]; exact d4) (by rw [hb]; exact d7) hout hRframes (by simp only [List.map_cons, List.sum_cons, hcat]; omega) hlocks
  obtain ⟨f1, f2⟩ := vx_frame hsame
  rw [hhp] at f1 f2
  have hWs : s.WarmedH U.vm := State.WarmedH.trans hW0 hW
  have hcl : s.vm.findClass cls = some ce.cls := by
    have h9 := hO.cls
    rw [hvm] at h9
    exact h9
  have hall : s.sameButNew ({ U with vm := s.vm } : State) locs mc ms := by
    subst hA
    obtain ⟨e1, e2⟩ := hsame
    rw [State.setFrames_setFrames] at e1
    have h2 : (T.setVm s.vm).sameButNew ({ U with vm := s.vm } : State) [] (0 + 1) (0 + 6) := ⟨e1, e2⟩
    have h3 := X.same.trans h2
    rw [List.append_nil] at h3
    exact h3.mono hc hs
  refine ⟨U, ?_, .threw T.heap.size, hrun, hend, Or.inr ⟨T.heap.size, rfl, cls, ce, locs, hx U hWs.alike f1 (fun q hq => f2 q hq (fun z hz => nomatch hz)), hce, hO.vm, hcl, hWs, hall, hf⟩⟩
  refine st1 _ ?_
  show Steps p.tables e below (T1.setTop { method := m, pc := pc + 3, locals := ls, stack := .ref T.heap.size :: rest, locked := none }) _
  jvm_step X₁.here [X₁.here.top, hexec, d3', Value.category]
  exact hsteps
/-- 'throw new E("text")': new; dup; ldc; invokespecial; athrow -/
theorem vx_throwS {cc : ByteArray} {pc : Nat} (hexec : p.tables.exec = Jvm.exec) (hb : c.code = cc) (hl : l.stackTraces = false) {own cls text : String} {names : List String} {ik is ic mc ms sa : Nat} {A : Nat → Prop}
    (hown : s.vm.findClass own = some m.cls) (hcls : Bundle.fit cls = true) (hnames : ∀ n ∈ names, Bundle.fit n = true)
    (hk : (Cond.classLink own ik cls).before args s = true) (hini : (Cond.initialized cls).before args s = true) (hstr : vk_R own is text sa s) (hat : ∀ w ∈ vx_atS own ic cls names, w.before args s = true)
    (hgood : ∀ w ∈ Cond.classLink own ik cls :: Cond.initialized cls :: vx_atS own ic cls names, vx_ot w = true)
    (hU : vx_Zq Bundle.tN "UNASSIGNED_STACK" Bundle.steD A s s.heap) (hN : vx_Zq Bundle.tN "SUPPRESSED_SENTINEL" Bundle.listD A s s.heap) (hS : va_S A s.heap H locs) (hsize : ls.size = c.maxLocals)
    (d0 : decode cc pc = .ok (.new ik, 3)) (d3 : decode cc (pc + 3) = .ok (.dup, 1)) (d4 : decode cc (pc + 4) = .ok (.ldc is, 2)) (d6 : decode cc (pc + 6) = .ok (.invokespecial ic, 3)) (d9 : decode cc (pc + 9) = .ok (.athrow, 1))
    (hout : ∀ x ∈ c.exceptionTable.toList, covers x (pc + 9) = false)
    (hRframes : names.length + 3 < R.frames) (hRlocals : (rest.map fun v => v.category).sum + (13 * (names.length + 1) + 43) ≤ R.locals) (hRcells : cells + 1 ≤ R.cells) (hRslots : slots + 6 ≤ R.slots) (hlocks : meth.locks = false)
    (hx : ∀ t : State, s.vm.Alike t.vm → H.size ≤ t.heap.size → (∀ q : Nat, q < H.size → t.heap[q]? = H[q]?) → XC cls s t)
    (hf : ∀ z ∈ locs, free z.base) (hc : cells + 1 ≤ mc) (hs : slots + 6 ≤ ms) :
    W p l e R s m args below meth c H locs cells slots (vx_MQ below Qc XC args s mc ms free) (F0 m pc ls rest) := by
  intro T hT X
  have htr : e.platform.stackTraces = false := (show e.platform.stackTraces = l.stackTraces by rw [X.admits.platform]).trans hl
  have Y := vx_rebase X (R' := { frames := R.frames, locals := R.locals, cells := 1, slots := 6 }) (Nat.le_refl _) (Nat.le_refl _) hRcells hRslots
  obtain ⟨s', hA⟩ : ∃ z, z = (T.setVm s.vm).setFrames (.invoking m args :: below) := ⟨_, rfl⟩
  rw [← hA] at Y
  have hvm : s'.vm = s.vm := by rw [hA]; rfl
  have hhp : s'.heap = H := by rw [hA]; exact hT
  have hW0 : s.WarmedH s'.vm := by rw [hvm]; exact State.WarmedH.refl s
  have hat' : ∀ w ∈ vx_atS own ic cls names, w.before args s' = true := fun w hw => vx_ot_at hW0 hvm.symm (hgood w (List.mem_cons_of_mem _ (List.mem_cons_of_mem _ hw))) (hat w hw)
  have hk' : (Cond.classLink own ik cls).before args s' = true := vx_ot_at hW0 hvm.symm (hgood _ List.mem_cons_self) hk
  have hini' : (Cond.initialized cls).before args s' = true := vx_ot_at hW0 hvm.symm (hgood _ (List.mem_cons_of_mem _ List.mem_cons_self)) hini
  have hU' : vx_Zq Bundle.tN "UNASSIGNED_STACK" Bundle.steD A s' s'.heap := by rw [hhp]; exact vx_Zq.moved hW0.alike (hU.kept hS.2.1)
  have hN' : vx_Zq Bundle.tN "SUPPRESSED_SENTINEL" Bundle.listD A s' s'.heap := by rw [hhp]; exact vx_Zq.moved hW0.alike (hN.kept hS.2.1)
  have h : ∀ w ∈ Bundle.ownAtoms own ic cls names, w.before args s' = true := vx_own hat' (vx_isRefq hU'.1) (vx_isRefq hN'.1) hU'.2.word hN'.2.word
  have hown' : s'.vm.findClass own = some m.cls := by rw [hvm]; exact hown
  have hins : (Cond.instantiable cls 6).before args s' = true := h _ (by simp [Bundle.ownAtoms])
  obtain ⟨vm₁, cX, kX, hfX, hkX, -, -, X₁, st1⟩ := Y.newCold hexec (own := own) (C := cls) (index := ik) (n := 6) hown' hk' hins hini'
    (g := F0 m pc ls rest) rfl (by rw [hb]; exact d0) (Nat.le_refl _) (Nat.le_refl _)
  generalize hT1 : (T.setVm vm₁).pushCell { cls := cX, slots := kX.instanceTypes.map defaultValue, vm := .none } = T1 at X₁ st1
  have hcat : (Value.ref T.heap.size).category = 1 := rfl
  have hcellA : T1.heap[T.heap.size]? = some (freshCell cX kX) := by rw [← hT1]; exact State.heap_pushCell_size _ _
  have d3' : decode c.code (pc + 3) = .ok (.dup, 1) := by rw [hb]; exact d3
  have d4' : decode c.code (pc + 4) = .ok (.ldc is, 2) := by rw [hb]; exact d4
  have hstr' : vk_R own is text sa s' := vk_R.warm hW0 hstr
  obtain ⟨U, hsteps, hrun, hend, hW, hsame, ce, hce, hO⟩ := X₁.ctorThrowS hexec htr (own := own) (cls := cls) (names := names) (ic := ic) hown' hcls hnames h (fun x hx => nomatch hx) hfX hkX hcellA (by rw [hhp, hT]; exact Nat.le_refl _) (msg := .ref sa) rfl
    (g := { method := m, pc := pc + 6, locals := ls, stack := .ref sa :: .ref T.heap.size :: .ref T.heap.size :: rest, locked := none }) rfl hsize rfl rfl (rest := rest) rfl
    (by rw [hb]; exact d6) (by rw [hb]; exact d9) hout hRframes (by simp only [List.map_cons, List.sum_cons, hcat]; omega) hlocks
  obtain ⟨f1, f2⟩ := vx_frame hsame
  rw [hhp] at f1 f2
  have hWs : s.WarmedH U.vm := State.WarmedH.trans hW0 hW
  have hcl : s.vm.findClass cls = some ce.cls := by
    have h9 := hO.cls
    rw [hvm] at h9
    exact h9
  have hall : s.sameButNew ({ U with vm := s.vm } : State) locs mc ms := by
    subst hA
    obtain ⟨e1, e2⟩ := hsame
    rw [State.setFrames_setFrames] at e1
    have h2 : (T.setVm s.vm).sameButNew ({ U with vm := s.vm } : State) [] (0 + 1) (0 + 6) := ⟨e1, e2⟩
    have h3 := X.same.trans h2
    rw [List.append_nil] at h3
    exact h3.mono hc hs
  refine ⟨U, ?_, .threw T.heap.size, hrun, hend, Or.inr ⟨T.heap.size, rfl, cls, ce, locs, hx U hWs.alike f1 (fun q hq => f2 q hq (fun z hz => nomatch hz)), hce, hO.vm, hcl, hWs, hall, hf⟩⟩
  refine st1 _ ?_
  show Steps p.tables e below (T1.setTop { method := m, pc := pc + 3, locals := ls, stack := .ref T.heap.size :: rest, locked := none }) _
  jvm_step X₁.here [X₁.here.top, hexec, d3', Value.category]
  exact X₁.ldcString hexec (own := own) (text := text) (index := is) (a := sa) hown' hstr'.1 hstr'.2
    (g := { method := m, pc := pc + 4, locals := ls, stack := .ref T.heap.size :: .ref T.heap.size :: rest, locked := none }) rfl d4' _ hsteps
/-- 'throw new E("text")', the text by a wide index -/
theorem vx_throwSW {cc : ByteArray} {pc : Nat} (hexec : p.tables.exec = Jvm.exec) (hb : c.code = cc) (hl : l.stackTraces = false) {own cls text : String} {names : List String} {ik is ic mc ms sa : Nat} {A : Nat → Prop}
    (hown : s.vm.findClass own = some m.cls) (hcls : Bundle.fit cls = true) (hnames : ∀ n ∈ names, Bundle.fit n = true)
    (hk : (Cond.classLink own ik cls).before args s = true) (hini : (Cond.initialized cls).before args s = true) (hstr : vk_R own is text sa s) (hat : ∀ w ∈ vx_atS own ic cls names, w.before args s = true)
    (hgood : ∀ w ∈ Cond.classLink own ik cls :: Cond.initialized cls :: vx_atS own ic cls names, vx_ot w = true)
    (hU : vx_Zq Bundle.tN "UNASSIGNED_STACK" Bundle.steD A s s.heap) (hN : vx_Zq Bundle.tN "SUPPRESSED_SENTINEL" Bundle.listD A s s.heap) (hS : va_S A s.heap H locs) (hsize : ls.size = c.maxLocals)
    (d0 : decode cc pc = .ok (.new ik, 3)) (d3 : decode cc (pc + 3) = .ok (.dup, 1)) (d4 : decode cc (pc + 4) = .ok (.ldc_w is, 3)) (d7 : decode cc (pc + 7) = .ok (.invokespecial ic, 3)) (d10 : decode cc (pc + 10) = .ok (.athrow, 1))
    (hout : ∀ x ∈ c.exceptionTable.toList, covers x (pc + 10) = false)
    (hRframes : names.length + 3 < R.frames) (hRlocals : (rest.map fun v => v.category).sum + (13 * (names.length + 1) + 43) ≤ R.locals) (hRcells : cells + 1 ≤ R.cells) (hRslots : slots + 6 ≤ R.slots) (hlocks : meth.locks = false)
    (hx : ∀ t : State, s.vm.Alike t.vm → H.size ≤ t.heap.size → (∀ q : Nat, q < H.size → t.heap[q]? = H[q]?) → XC cls s t)
    (hf : ∀ z ∈ locs, free z.base) (hc : cells + 1 ≤ mc) (hs : slots + 6 ≤ ms) :
    W p l e R s m args below meth c H locs cells slots (vx_MQ below Qc XC args s mc ms free) (F0 m pc ls rest) := by
  intro T hT X
  have htr : e.platform.stackTraces = false := (show e.platform.stackTraces = l.stackTraces by rw [X.admits.platform]).trans hl
  have Y := vx_rebase X (R' := { frames := R.frames, locals := R.locals, cells := 1, slots := 6 }) (Nat.le_refl _) (Nat.le_refl _) hRcells hRslots
  obtain ⟨s', hA⟩ : ∃ z, z = (T.setVm s.vm).setFrames (.invoking m args :: below) := ⟨_, rfl⟩
  rw [← hA] at Y
  have hvm : s'.vm = s.vm := by rw [hA]; rfl
  have hhp : s'.heap = H := by rw [hA]; exact hT
  have hW0 : s.WarmedH s'.vm := by rw [hvm]; exact State.WarmedH.refl s
  have hat' : ∀ w ∈ vx_atS own ic cls names, w.before args s' = true := fun w hw => vx_ot_at hW0 hvm.symm (hgood w (List.mem_cons_of_mem _ (List.mem_cons_of_mem _ hw))) (hat w hw)
  have hk' : (Cond.classLink own ik cls).before args s' = true := vx_ot_at hW0 hvm.symm (hgood _ List.mem_cons_self) hk
  have hini' : (Cond.initialized cls).before args s' = true := vx_ot_at hW0 hvm.symm (hgood _ (List.mem_cons_of_mem _ List.mem_cons_self)) hini
  have hU' : vx_Zq Bundle.tN "UNASSIGNED_STACK" Bundle.steD A s' s'.heap := by rw [hhp]; exact vx_Zq.moved hW0.alike (hU.kept hS.2.1)
  have hN' : vx_Zq Bundle.tN "SUPPRESSED_SENTINEL" Bundle.listD A s' s'.heap := by rw [hhp]; exact vx_Zq.moved hW0.alike (hN.kept hS.2.1)
  have h : ∀ w ∈ Bundle.ownAtoms own ic cls names, w.before args s' = true := vx_own hat' (vx_isRefq hU'.1) (vx_isRefq hN'.1) hU'.2.word hN'.2.word
  have hown' : s'.vm.findClass own = some m.cls := by rw [hvm]; exact hown
  have hins : (Cond.instantiable cls 6).before args s' = true := h _ (by simp [Bundle.ownAtoms])
  obtain ⟨vm₁, cX, kX, hfX, hkX, -, -, X₁, st1⟩ := Y.newCold hexec (own := own) (C := cls) (index := ik) (n := 6) hown' hk' hins hini'
    (g := F0 m pc ls rest) rfl (by rw [hb]; exact d0) (Nat.le_refl _) (Nat.le_refl _)
  generalize hT1 : (T.setVm vm₁).pushCell { cls := cX, slots := kX.instanceTypes.map defaultValue, vm := .none } = T1 at X₁ st1
  have hcat : (Value.ref T.heap.size).category = 1 := rfl
  have hcellA : T1.heap[T.heap.size]? = some (freshCell cX kX) := by rw [← hT1]; exact State.heap_pushCell_size _ _
  have d3' : decode c.code (pc + 3) = .ok (.dup, 1) := by rw [hb]; exact d3
  have d4' : decode c.code (pc + 4) = .ok (.ldc_w is, 3) := by rw [hb]; exact d4
  have hstr' : vk_R own is text sa s' := vk_R.warm hW0 hstr
  obtain ⟨U, hsteps, hrun, hend, hW, hsame, ce, hce, hO⟩ := X₁.ctorThrowS hexec htr (own := own) (cls := cls) (names := names) (ic := ic) hown' hcls hnames h (fun x hx => nomatch hx) hfX hkX hcellA (by rw [hhp, hT]; exact Nat.le_refl _) (msg := .ref sa) rfl
    (g := { method := m, pc := pc + 7, locals := ls, stack := .ref sa :: .ref T.heap.size :: .ref T.heap.size :: rest, locked := none }) rfl hsize rfl rfl (rest := rest) rfl
    (by rw [hb]; exact d7) (by rw [hb]; exact d10) hout hRframes (by simp only [List.map_cons, List.sum_cons, hcat]; omega) hlocks
  obtain ⟨f1, f2⟩ := vx_frame hsame
  rw [hhp] at f1 f2
  have hWs : s.WarmedH U.vm := State.WarmedH.trans hW0 hW
  have hcl : s.vm.findClass cls = some ce.cls := by
    have h9 := hO.cls
    rw [hvm] at h9
    exact h9
  have hall : s.sameButNew ({ U with vm := s.vm } : State) locs mc ms := by
    subst hA
    obtain ⟨e1, e2⟩ := hsame
    rw [State.setFrames_setFrames] at e1
    have h2 : (T.setVm s.vm).sameButNew ({ U with vm := s.vm } : State) [] (0 + 1) (0 + 6) := ⟨e1, e2⟩
    have h3 := X.same.trans h2
    rw [List.append_nil] at h3
    exact h3.mono hc hs
  refine ⟨U, ?_, .threw T.heap.size, hrun, hend, Or.inr ⟨T.heap.size, rfl, cls, ce, locs, hx U hWs.alike f1 (fun q hq => f2 q hq (fun z hz => nomatch hz)), hce, hO.vm, hcl, hWs, hall, hf⟩⟩
  refine st1 _ ?_
  show Steps p.tables e below (T1.setTop { method := m, pc := pc + 3, locals := ls, stack := .ref T.heap.size :: rest, locked := none }) _
  jvm_step X₁.here [X₁.here.top, hexec, d3', Value.category]
  exact X₁.ldcStringW hexec (own := own) (text := text) (index := is) (a := sa) hown' hstr'.1 hstr'.2
    (g := { method := m, pc := pc + 4, locals := ls, stack := .ref T.heap.size :: .ref T.heap.size :: rest, locked := none }) rfl d4' _ hsteps
end Ends
section Bodies
variable {l : Launch}
theorem vx_ofW {y : MethodName} {ws ws' : List Cond} {rm : Room} {Pc : Array Value → State → Prop} {Qc : Array Value → State → Outcome → State → Prop} {XC : String → State → State → Prop} {mc ms : Nat} {free : Addr → Prop} {cc : ByteArray} {maxL : Nat} {ret : Option FieldType}
    (hy : plainName y.cls = true) (hw : ws = Cond.code y cc maxL ret :: ws')
    (body : ∀ p e s m args below meth c s₁, BodyLoose p l y (headSpec ws rm) cc maxL ret e s m args below meth c s₁ → c.maxLocals = maxL → (∀ x ∈ c.exceptionTable.toList, False) → Pc args s →
      W p l e (headSpec ws rm).room s m args below meth c s.heap [] 0 0 (vx_MQ below Qc XC args s mc ms free) (entryFrame m args maxL)) : vx_Met l y ws rm Pc Qc XC mc ms free := by
  refine MetFree.of_bodyS (code := cc) (maxLocals := maxL) (ret := ret) hy ?_ ?_
  · intro args s m h hn
    obtain ⟨meth, c, h1, h2, h3, h4, h5, h6, -, -⟩ := Cond.code_spec hn (atoms_spec (ws := ws) h _ (by rw [hw]; exact List.mem_cons_self))
    exact ⟨meth, c, h1, h2, h3, h4, h5, h6⟩
  · intro p e s m args below meth c s₁ B hml hP _
    have hh0 : s₁.heap = s.heap := by rw [B.state]; rfl
    have ht : ∀ x ∈ c.exceptionTable.toList, False := by
      obtain ⟨meth9, c9, h1, h2, -, -, -, -, h7, -⟩ := Cond.code_spec B.named (atoms_spec (ws := ws) B.pre _ (by rw [hw]; exact List.mem_cons_self))
      cases Option.some.inj (h1.symm.trans B.method)
      cases Option.some.inj (h2.symm.trans (Stand.of_body B).code)
      intro x hx
      rw [Array.isEmpty_iff.mp h7] at hx
      cases hx
    obtain ⟨t, a1, o, b1, b2, b3⟩ := body p e s m args below meth c s₁ B hml ht hP s₁ hh0 (Stand.of_body B)
    exact ⟨t, o, a1, b1, b2, b3⟩
/-- the table of a body with handlers -/
theorem vx_table {p : Program} {x y : MethodName} {S : Spec} {cc bytes : ByteArray} {maxL maxL' : Nat} {ret ret' : Option FieldType} {e : Env} {s s₁ : State} {m : MethodId} {args : Array Value} {below : List Frame} {meth : Method} {c : Code} {hh : List (Nat × Nat × Nat × Nat)}
    (B : BodyLoose p l y S cc maxL ret e s m args below meth c s₁) (h : (Cond.codeWith y bytes maxL' ret' hh).before args s = true) : c.exceptionTable.toList = tableOf hh := by
  obtain ⟨m9, meth9, c9, hn9, h1, h2, -, -, h6, -⟩ := Cond.codeWith_spec h
  cases Option.some.inj (hn9.symm.trans B.named)
  cases Option.some.inj (h1.symm.trans B.method)
  cases Option.some.inj (h2.symm.trans (Stand.of_body B).code)
  rw [← h6, table_eq]
end Bodies
end VXA
/-! ===== END ===== -/
/-! ===== BEGIN a static call of a method with an exception table ===== -/
section VXS
variable {p : Program} {l : Launch} {e : Env} {R : Room} {s : State} {m : MethodId} {args : Array Value} {below : List Frame} {meth : Method} {c : Code} {T : State} {H : Heap} {locs : List Loc} {cells slots : Nat}
abbrev vx_CSW (R : Room) (s : State) (args : Array Value) (own : String) (index : Nat) (y : MethodName) (bytes : ByteArray) (maxL : Nat) (ret : Option FieldType) (hh : List (Nat × Nat × Nat × Nat)) (ws : List Cond) (rm : Room) (mc ms n : Nat) : Prop :=
  (rm.cells = mc ∧ rm.slots = ms ∧ rm.frames + 1 ≤ R.frames ∧ 8 + (maxL + 11) + rm.locals ≤ R.locals ∧ (∀ w ∈ ws, ∀ (a' : Array Value) (U : State), s.WarmedH U.vm → w.before a' U = true) ∧ Cond.codeWith y bytes maxL ret hh ∈ ws) ∧
  (Cond.codeWith y bytes maxL ret hh).before args s = true ∧ (Cond.initialized y.cls).before args s = true ∧ (y.cls ≠ "java/lang/invoke/MethodHandle" ∧ y.cls ≠ "java/lang/invoke/VarHandle") ∧
  (∀ sig, parseMethodDescriptor y.desc = some sig → n = sig.parameters.length) ∧ (Cond.methodLink own index y).before args s = true ∧ (Cond.static y).before args s = true
theorem vx_cwSW {own : String} {index maxL mc ms : Nat} {y : MethodName} {bytes : ByteArray} {ret : Option FieldType} {hh : List (Nat × Nat × Nat × Nat)} {Ts ws ws' : List Cond} {rm : Room} (n : Nat) (ht : ∀ w ∈ Ts, w.before args s = true) (hT : GoodIn Ts (va_wsS own index y ws)) (hw : ws = Cond.codeWith y bytes maxL ret hh :: ws') (hrc : rm.cells = mc) (hrs : rm.slots = ms)
    (hd : y.cls ≠ "java/lang/invoke/MethodHandle" ∧ y.cls ≠ "java/lang/invoke/VarHandle" ∧ (parseMethodDescriptor y.desc).map (fun d => d.parameters.length) = some n) (hR : rm.frames + 1 ≤ R.frames ∧ 8 + (maxL + 11) + rm.locals ≤ R.locals) :
    vx_CSW R s args own index y bytes maxL ret hh ws rm mc ms n := by
  have ok : ∀ w ∈ va_wsS own index y ws, w.before args s = true := fun w h => ht w (hT w h).1
  have hG : GoodIn Ts ws := fun w h => hT w (by unfold va_wsS; exact List.mem_append_right _ h)
  have hc : Cond.codeWith y bytes maxL ret hh ∈ ws := by rw [hw]; exact List.mem_cons_self
  refine ⟨⟨hrc, hrs, hR.1, hR.2, pay_in ht hG, hc⟩, ht _ (hG _ hc).1, ok _ (by simp [va_wsS]), ⟨hd.1, hd.2.1⟩, fun sig h => ?_, ok _ (by simp [va_wsS]), ok _ (by simp [va_wsS])⟩
  have h2 := hd.2.2
  rw [h] at h2
  exact (Option.some.inj h2).symm
theorem vx_callSW (X : Stand p l e R s m args below meth c T locs cells slots) (hexec : p.tables.exec = Jvm.exec) {own : String} {index : Nat} {y : MethodName} {bytes : ByteArray} {maxL : Nat} {ret : Option FieldType} {hh : List (Nat × Nat × Nat × Nat)}
    (hown : s.vm.findClass own = some m.cls) (hlink : (Cond.methodLink own index y).before args s = true) (hstat : (Cond.static y).before args s = true) (hinit : (Cond.initialized y.cls).before args s = true)
    (hcode : (Cond.codeWith y bytes maxL ret hh).before args s = true) (hy : y.cls ≠ "java/lang/invoke/MethodHandle" ∧ y.cls ≠ "java/lang/invoke/VarHandle")
    {W9 : Nat} {Pre : Pt → Array Value → Prop} {Post : Pt → Array Value → Option Value → Pt → Prop} (hK : Back l R p e below s args y 3 W9 Pre Post)
    {g : JFrame} (hg : g.method = m) (hsize : g.locals.size = c.maxLocals) {argsL rest : List Value} (hlen : ∀ sig, parseMethodDescriptor y.desc = some sig → argsL.length = sig.parameters.length)
    (hstack : g.stack = argsL.reverse ++ rest) (hW : 2 * g.monitorRoom + (rest.map fun v => v.category).sum ≤ W9) (hdg : decode c.code g.pc = .ok (.invokestatic index, 3))
    (hpre : ∀ vm₁, s.WarmedH vm₁ → Pre ⟨T.setVm vm₁, locs, cells, slots⟩ argsL.toArray) :
    ∃ (v : Option Value) (vm₁ : Vm) (B : Pt), s.WarmedH vm₁ ∧ Stand p l e R s m args below meth c B.U B.locs B.cells B.slots ∧ Post ⟨T.setVm vm₁, locs, cells, slots⟩ argsL.toArray v B ∧
      ∀ target, Steps p.tables e below (B.U.setTop { g with pc := g.pc + 3, stack := v.toList ++ rest }) target → Steps p.tables e below (T.setTop g) target := by
  obtain ⟨mk, methM, cM, hnamed, hmethM, -, -, -, -, -, -, hsigM⟩ := Cond.codeWith_spec hcode
  have hstatic : methM.isStatic = true := Cond.static_spec hnamed hmethM hstat
  obtain ⟨kP, hkP, -⟩ := className_of_methodNamed hnamed
  have hinitP : kP.init = .initialized := Cond.initialized_spec (findClass_of_methodNamed hnamed) hkP hinit
  obtain ⟨vm₁, X₁, hstep₁⟩ := X.invokestatic hexec hown hlink hnamed hmethM hstatic hkP hinitP hy (g := g) hg (argsL := argsL) (rest := rest) (hlen _ hsigM) hstack hdg
  obtain ⟨v, B, X', hpost, hsteps⟩ := hK m meth c ⟨T.setVm vm₁, locs, cells, slots⟩ { g with stack := rest } (.invokestatic index) mk argsL.toArray X₁ hg hsize hdg hW (X₁.named hnamed) (hpre vm₁ X₁.warmed)
  exact ⟨v, vm₁, B, X₁.warmed, X', hpost, fun target h => hstep₁ _ fun acts => by rw [doInvoke_state]; exact hsteps.trans h⟩
theorem vx_runSW {y : MethodName} {bytes cc : ByteArray} {maxL nL mc ms n index : Nat} {ret : Option FieldType} {hh : List (Nat × Nat × Nat × Nat)} {ws : List Cond} {rm : Room} {Pc : Array Value → State → Prop} {Qc : Array Value → State → Outcome → State → Prop} {free : Addr → Prop} {Ts : List Cond} {own : String} {As rest : List Value} {g : JFrame}
    (S : CallFix p m c cc nL s args Ts own) (hM : Met l y ws rm Pc Qc mc ms free) (cw : vx_CSW R s args own index y bytes maxL ret hh ws rm mc ms n) (hp : PreS s H Pc As)
    (hg : g.method = m) (hn : As.length = n) (hsize : g.locals.size = nL) (hstack : g.stack = As.reverse ++ rest) (hW : 2 * g.monitorRoom + (rest.map fun v => v.category).sum ≤ 8) (hdg : decode cc g.pc = .ok (.invokestatic index, 3)) (hf : cells + mc ≤ R.cells ∧ slots + ms ≤ R.slots) :
    va_Run p l e R s m args below meth c H locs cells slots mc ms g rest (Qc As.toArray) (free) := by
  obtain ⟨⟨hrc, hrs, hfr, hlo, hws, hcw⟩, hcode, hini, hy, hlen, hl, hstt⟩ := cw
  have hK : Back l R p e below s args y 3 8 (PreOf R mc ms Pc) (PostOf Qc mc ms free) := va_backW (hh := hh) (bytes := bytes) (maxL := maxL) (ret := ret) hM hp.1 hrc hrs hfr hlo hws hcw (fun a' U hW => word_at hW (Or.inl (by first | rfl | simp [Cond.onTables, Cond.keeps, Cond.steady])) hini)
  obtain ⟨hx, hb, hml, ho, -⟩ := S
  intro T hT X
  obtain ⟨v, vm₁, ⟨U', l2, c2, s2⟩, hW₁, X', ⟨g', mk, t, L, e1, e2, hq, h1, hL, h2, h3⟩, st⟩ := vx_callSW X hx (hh := hh) (bytes := bytes) (maxL := maxL) (ret := ret) ho hl hstt hini hcode hy hK hg (hsize.trans hml.symm) (argsL := As) (rest := rest) (fun sig h => hn.trans (hlen sig h)) hstack hW (by rw [hb]; exact hdg)
    (fun vm₁ hW₁ => ⟨hf.1, hf.2, hp.2 (T.setVm vm₁) hT hW₁⟩)
  dsimp only [Pt.U, Pt.locs, Pt.cells, Pt.slots] at X' e1 e2 h1 h2 h3 st
  subst h1; subst h2; subst h3
  exact ⟨v, (T.setVm vm₁).calling g' mk As.toArray, t, U', L, hT, X', hL, e1, e2, hq, st⟩
/-- not caught here, past rows that name other classes: it goes on to the caller -/
theorem vx_outP {p : Program} {l : Launch} {e : Env} {R : Room} {s : State} {m : MethodId} {args : Array Value} {below : List Frame} {meth : Method} {c : Code} {H : Heap} {locs : List Loc} {cells slots : Nat} {free : Addr → Prop} {ls : Array Slot} {rest : List Value} {Qc : Array Value → State → Outcome → State → Prop} {XC : String → State → State → Prop}
    {pc : Nat} {own E : String} {ce : Cell} {q : Addr} {mc ms : Nat} (hown : s.vm.findClass own = some m.cls) (hlocks : meth.locks = false)
    (hpass : ∀ z ∈ c.exceptionTable.toList, covers z pc = false ∨ (z.catchType ≠ 0 ∧ ∃ nm : String, (Cond.classLink own z.catchType nm).before args s = true ∧ va_Nc E nm s)) (hcell : H[q]? = some ce) (hv : ce.vm = .none) (hcl : s.vm.findClass E = some ce.cls)
    (hx : ∀ t : State, t.heap = H → s.vm.Alike t.vm → XC E s t) (hf : ∀ z ∈ locs, free z.base) (hc : cells ≤ mc) (hs : slots ≤ ms) :
    vx_W p l e R s m args below meth c H locs cells slots (vx_MQ below Qc XC args s mc ms free) (F0 m pc ls rest) q := by
  intro T hT X
  have hpl : e.platform.magicAccessors = ({} : Platform).magicAccessors := by rw [X.admits.platform]
  obtain ⟨vm', hW', X', st⟩ := X.outThrough hlocks q (g := F0 m pc ls rest) rfl rfl rfl (cell := ce) (by rw [hT]; exact hcell) (by rw [hv]; rfl)
    (by obtain ⟨k9, h9, -⟩ := Vm.findClass_spec hcl; exact ⟨k9, h9⟩) (fun z hz => by
      rcases hpass z hz with h | ⟨hz0, nm, hl1, hn1⟩
      · exact Or.inl h
      · obtain ⟨c6, hc6, hcl6⟩ := Cond.classLink_spec hown hl1 e.platform hpl
        obtain ⟨a8, b8, h1, h2, h3⟩ := hn1
        cases Option.some.inj (h1.symm.trans hcl)
        cases Option.some.inj (h2.symm.trans hc6)
        exact Or.inr ⟨hz0, _, hcl6, h3⟩)
  obtain ⟨g₀, hfr⟩ := X'.frames_eq
  have hcell9 : ((T.setVm vm').setFrames (.throwing q :: below)).heap[q]? = some ce := by
    show T.heap[q]? = some ce
    rw [hT]; exact hcell
  have hend : Ended ((T.setVm vm').setFrames (.throwing q :: below)) below (.threw q) := State.frames_setFrames _ (State.cur_lt_of_frames hfr)
  refine ⟨(T.setVm vm').setFrames (.throwing q :: below), ?_, .threw q, X'.here.running, hend, Or.inr ⟨q, rfl, E, ce, locs, hx _ hT (X'.ends _).1.alike, hcell9, hv, hcl, (X'.ends _).1, (X'.ends _).2.mono hc hs, hf⟩⟩
  rw [X.pushThrowing_eq]
  exact st
/-- a thing of a world lies in the heap -/
theorem vx_lt {D : va_G} {cl : List vw_C} {ws : va_W} {H1 : Heap} (h : va_P D cl ws H1) {k : Nat} {q : Nat × va_E} (hk : ws[k]? = some q) : q.1 < H1.size := (h k q hk).lt
end VXS
/-! ===== END ===== -/
/-! ===== BEGIN methods with a table of their own: called by a name, returning or throwing ===== -/
section VXH
/-! vx_backW, vx_callVX, vx_callSX, vx_callVW, vx_runVW, vx_runVX, vx_runSX, vx_ofWH follow the same proofs as their sisters above (Free/Laws.lean, Shelf42/LK1.lean); vx_outP calls Shelf42/NT130.lean (outThrough). -/
section
variable {l : Launch} {R : Room} {p : Program} {e : Env} {below : List Frame} {s : State} {sargs : Array Value} {y : MethodName} {len W9 : Nat}
theorem vx_backW {ws : List Cond} {rm : Room} {Pc : Array Value → State → Prop} {Qc : Array Value → State → Outcome → State → Prop} {XC : String → State → State → Prop} {mc ms : Nat} {free : Addr → Prop} {bytes : ByteArray} {maxL : Nat} {ret : Option FieldType} {hh : List (Nat × Nat × Nat × Nat)}
    (hM : vx_Met l y ws rm Pc Qc XC mc ms free) (hblind : FrameBlind Pc) (hrc : rm.cells = mc) (hrs : rm.slots = ms)
    (hframes : rm.frames + 1 ≤ R.frames) (hlocals : W9 + (maxL + 11) + rm.locals ≤ R.locals)
    (hws : ∀ w ∈ ws, ∀ a' U, s.WarmedH U.vm → w.before a' U = true) (hcode : Cond.codeWith y bytes maxL ret hh ∈ ws) (hinit : ∀ a' U, s.WarmedH U.vm → (Cond.initialized y.cls).before a' U = true) :
    vx_Back l R p e below s sargs y len W9 (PreOf R mc ms Pc) (PostOf Qc mc ms free) (vx_Post XC mc ms free) := by
  intro m meth c A g ig mk a X hg hsize hdg hW hn hp
  have h1 : (headSpec ws rm).pre.before a A.U = true := atoms_intro fun w hw => hws w hw _ _ X.warmed
  have h2 : (Cond.codeWith y bytes maxL ret hh).before a A.U = true := hws _ hcode _ _ X.warmed
  have h3 : (Cond.initialized y.cls).before a A.U = true := hinit _ _ X.warmed
  have h4 : A.cells + (headSpec ws rm).room.cells ≤ R.cells := by rw [show (headSpec ws rm).room.cells = mc from hrc]; exact hp.1
  have h5 : A.slots + (headSpec ws rm).room.slots ≤ R.slots := by rw [show (headSpec ws rm).room.slots = ms from hrs]; exact hp.2.1
  have hPc : Pc a (A.U.calling g mk a) := hblind _ _ _ _ hp.2.2
  obtain ⟨U, Ls, c0, s0⟩ := A
  dsimp only [Pt.U, Pt.locs, Pt.cells, Pt.slots] at h1 h2 h3 h4 h5 X hn hPc ⊢
  obtain ⟨m9, methY, cY, hn9, hmY, hcY, -, hlY, -⟩ := Cond.codeWith_spec h2
  cases Option.some.inj (hn9.symm.trans hn)
  obtain ⟨kY, hkY, -⟩ := className_of_methodNamed hn
  have hinitY : kY.init = .initialized := Cond.initialized_spec (findClass_of_methodNamed hn) hkY h3
  have h : At U g.method c below := by rw [hg]; exact X.here
  have hlocals9 : W9 + (maxL + 11) + (headSpec ws rm).room.locals ≤ R.locals := hlocals
  have happ : (headSpec ws rm).appliesLoose y e.platform (U.calling g mk a) = true :=
    Spec.appliesLoose_calling (g := g) h hdg hn hkY hinitY
      (X.room_calling (g := g) (R' := (headSpec ws rm).room) hsize hmY hcY hframes (by rw [hlY]; omega) h4 h5) h1
  obtain ⟨mid, hmid⟩ := h.above
  have hfr : (U.setTop g).frames = (.java g :: mid) ++ below := by rw [State.frames_setTop' g h.top, hmid]; rfl
  obtain ⟨o, s₂, hsteps, -, hend, hq⟩ := Steps.callFree hM p X.admits X.cas X.clock (acts := []) hfr happ hPc trivial
  have hq' : vx_Q Qc XC mc ms free a (U.calling g mk a) o s₂ := hq
  rw [State.frames_setTop' g h.top] at hend
  obtain ⟨g₀, hg0⟩ := Option.isSome_iff_exists.mp h.top
  obtain ⟨r, hr⟩ := State.topJava?_eq_some.mp hg0
  have hr' : (({ U with heap := s₂.heap, slotsUsed := s₂.slotsUsed } : State).setVm s₂.vm).frames = .java g₀ :: r := hr
  rcases hq' with ⟨hqc, L, hfe, hL⟩ | ⟨q, rfl, E, ce, L, hx, hce, hcv, hcl, hW₂, hsm, hL⟩
  · obtain ⟨⟨v, rfl⟩, hW₂, e2, q2, q3, q4, q5, q6⟩ := id hfe
    have e3 : s₂ = ({ (U.calling g mk a).setFrames s₂.frames with heap := s₂.heap, slotsUsed := s₂.slotsUsed } : State).setVm s₂.vm := by
      have : s₂ = ({ s₂ with vm := (U.calling g mk a).vm } : State).setVm s₂.vm := rfl
      rw [e2] at this
      exact this
    obtain ⟨c₂, i₂, len₂, hc₂, hd₂, hf₂⟩ := hend
    have hW' : U.WarmedH s₂.vm := hW₂
    have hcc : c₂ = c := by
      have h1 : s₂.code? g.method = U.code? g.method := by
        rw [State.code?_eq, State.code?_eq, hW'.alike.method?]
      exact Option.some.inj (hc₂.symm.trans (h1.trans h.code))
    subst hcc
    have hlen : len₂ = len := by rw [hdg] at hd₂; cases hd₂; rfl
    subst hlen
    have hs₂ : s₂ = (({ U with heap := s₂.heap, slotsUsed := s₂.slotsUsed } : State).setVm s₂.vm).setTop { g with pc := g.pc + len₂, stack := v.toList ++ g.stack } := by
      refine e3.trans ?_
      rw [hf₂, State.calling_eq h.top, State.setFrames_setFrames, State.setTop_of_frames _ hr', hr]
      rfl
    have hsame : U.sameButNew ({ U with heap := s₂.heap, slotsUsed := s₂.slotsUsed } : State) L mc ms := by
      refine ⟨?_, q2, q3, q4, q5, q6⟩
      obtain ⟨t, ht, -⟩ := State.frames_cons hr
      show ({ U with heap := s₂.heap, slotsUsed := s₂.slotsUsed } : State) = { U.setFrames U.frames with heap := s₂.heap, slotsUsed := s₂.slotsUsed }
      rw [State.setFrames_self ht]
    subst hg
    refine Or.inl ⟨v, ⟨(({ U with heap := s₂.heap, slotsUsed := s₂.slotsUsed } : State).setVm s₂.vm), Ls ++ L, c0 + mc, s0 + ms⟩,
      ⟨X.admits, X.cas, X.clock, X.frames, X.room, X.hears, X.method, X.code, (X.here.setHeapUsed s₂.heap s₂.slotsUsed).setVm hW'.alike, X.tail, State.WarmedH.trans X.warmed hW', X.limits, X.bytes, X.same.trans (hsame.setVm s.vm)⟩,
      ⟨g, mk, s₂, L, rfl, rfl, hqc, rfl, hL, rfl, rfl⟩, ?_⟩
    show Steps p.tables e below _ ((({ U with heap := s₂.heap, slotsUsed := s₂.slotsUsed } : State).setVm s₂.vm).setTop { g with pc := g.pc + len₂, stack := v.toList ++ g.stack })
    rw [← hs₂]
    exact hsteps
  · obtain ⟨e2, q2, q3, q4, q5, q6⟩ := id hsm
    have e3 : s₂ = ({ (U.calling g mk a).setFrames s₂.frames with heap := s₂.heap, slotsUsed := s₂.slotsUsed } : State).setVm s₂.vm := by
      have : s₂ = ({ s₂ with vm := (U.calling g mk a).vm } : State).setVm s₂.vm := rfl
      rw [e2] at this
      exact this
    have hf₂ : s₂.frames = .throwing q :: .java g :: U.frames.tail := hend
    have hW' : U.WarmedH s₂.vm := hW₂
    have hs₂ : s₂ = ((({ U with heap := s₂.heap, slotsUsed := s₂.slotsUsed } : State).setVm s₂.vm).setTop g).pushFrame (.throwing q) := by
      refine e3.trans ?_
      rw [hf₂, State.calling_eq h.top, State.setFrames_setFrames, State.pushFrame, State.frames_setTop _ hr', State.setTop_of_frames _ hr', State.setFrames_setFrames, hr]
      rfl
    have hsame : U.sameButNew ({ U with heap := s₂.heap, slotsUsed := s₂.slotsUsed } : State) L mc ms := by
      refine ⟨?_, q2, q3, q4, q5, q6⟩
      obtain ⟨t, ht, -⟩ := State.frames_cons hr
      show ({ U with heap := s₂.heap, slotsUsed := s₂.slotsUsed } : State) = { U.setFrames U.frames with heap := s₂.heap, slotsUsed := s₂.slotsUsed }
      rw [State.setFrames_self ht]
    subst hg
    refine Or.inr ⟨q, ⟨(({ U with heap := s₂.heap, slotsUsed := s₂.slotsUsed } : State).setVm s₂.vm), Ls ++ L, c0 + mc, s0 + ms⟩,
      ⟨X.admits, X.cas, X.clock, X.frames, X.room, X.hears, X.method, X.code, (X.here.setHeapUsed s₂.heap s₂.slotsUsed).setVm hW'.alike, X.tail, State.WarmedH.trans X.warmed hW', X.limits, X.bytes, X.same.trans (hsame.setVm s.vm)⟩,
      ⟨g, mk, s₂, L, E, ce, rfl, rfl, hx, hce, hcv, hcl, rfl, hL, rfl, rfl⟩, ?_⟩
    show Steps p.tables e below _ (((({ U with heap := s₂.heap, slotsUsed := s₂.slotsUsed } : State).setVm s₂.vm).setTop g).pushFrame (.throwing q))
    rw [← hs₂]
    exact hsteps
end
variable {p : Program} {l : Launch} {e : Env} {R : Room} {s : State} {m : MethodId} {args : Array Value} {below : List Frame} {meth : Method} {c : Code} {T : State} {H : Heap} {locs : List Loc} {cells slots : Nat}
theorem vx_callVX (X : Stand p l e R s m args below meth c T locs cells slots) (hexec : p.tables.exec = Jvm.exec) {own C : String} {index : Nat} {y : MethodName} {bytes : ByteArray} {maxL : Nat} {ret : Option FieldType} {hh : List (Nat × Nat × Nat × Nat)}
    (hown : s.vm.findClass own = some m.cls) (hlink : (Cond.methodLink own index y).before args s = true) (hinst : (Cond.instanceMethod y).before args s = true) (hsel : (Cond.selects C y y).before args s = true)
    (hcode : (Cond.codeWith y bytes maxL ret hh).before args s = true) (hy : y.cls ≠ "java/lang/invoke/MethodHandle" ∧ y.cls ≠ "java/lang/invoke/VarHandle")
    {W9 : Nat} {Pre : Pt → Array Value → Prop} {Post : Pt → Array Value → Option Value → Pt → Prop} {PostX : Pt → Array Value → Addr → Pt → Prop} (hK : vx_Back l R p e below s args y 3 W9 Pre Post PostX)
    {b : Addr} {cellB : Cell} (hcell : T.heap[b]? = some cellB) (hobj : cellB.vm.isStatics = false) (hcls : s.vm.findClass C = some cellB.cls)
    {g : JFrame} (hg : g.method = m) (hsize : g.locals.size = c.maxLocals) {argsL rest : List Value} (hlen : ∀ sig, parseMethodDescriptor y.desc = some sig → argsL.length = sig.parameters.length)
    (hstack : g.stack = argsL.reverse ++ .ref b :: rest) (hW : 2 * g.monitorRoom + (rest.map fun v => v.category).sum ≤ W9) (hdg : decode c.code g.pc = .ok (.invokevirtual index, 3))
    (hpre : ∀ vm₁, s.WarmedH vm₁ → Pre ⟨T.setVm vm₁, locs, cells, slots⟩ (Value.ref b :: argsL).toArray) :
    (∃ (v : Option Value) (vm₁ : Vm) (B : Pt), s.WarmedH vm₁ ∧ Stand p l e R s m args below meth c B.U B.locs B.cells B.slots ∧ Post ⟨T.setVm vm₁, locs, cells, slots⟩ (Value.ref b :: argsL).toArray v B ∧
      ∀ target, Steps p.tables e below (B.U.setTop { g with pc := g.pc + 3, stack := v.toList ++ rest }) target → Steps p.tables e below (T.setTop g) target) ∨
    (∃ (q : Addr) (vm₁ : Vm) (B : Pt), s.WarmedH vm₁ ∧ Stand p l e R s m args below meth c B.U B.locs B.cells B.slots ∧ PostX ⟨T.setVm vm₁, locs, cells, slots⟩ (Value.ref b :: argsL).toArray q B ∧
      Steps p.tables e below (T.setTop g) ((B.U.setTop { g with stack := rest }).pushFrame (.throwing q))) := by
  obtain ⟨mk, methM, hnamed, hmethM, hstM, habM⟩ := Cond.instanceMethod_spec hinst
  obtain ⟨m8, methM', cM, hn8, hmethM', -, -, -, -, -, -, hsigM⟩ := Cond.codeWith_spec hcode
  cases Option.some.inj (hn8.symm.trans hnamed)
  cases hmethM.symm.trans hmethM'
  obtain ⟨c2, r2, m2, q1, q2, q3, q4, kP, hkP, hkPi⟩ := Cond.selects_spec hsel
  cases hcls.symm.trans q1
  cases (State.methodFound?_of_named hnamed hy).symm.trans q2
  cases hnamed.symm.trans q3
  have hselP : selectMethod e.platform s.vm cellB.cls mk = .method mk := by rw [Launch.admits_selectMethod X.admits]; exact q4
  obtain ⟨vm₁, X₁, hstep₁⟩ := X.invokevirtual hexec hown hlink hnamed hmethM hstM hkP hkPi hy (a := b) (cell := cellB) hcell
    (fun z h => by rw [h] at hobj; cases hobj) hselP hmethM habM hkP hkPi (g := g) hg (argsL := argsL) (rest := rest) (hlen _ hsigM) hstack hdg
  rcases hK m meth c ⟨T.setVm vm₁, locs, cells, slots⟩ { g with stack := rest } (.invokevirtual index) mk (Value.ref b :: argsL).toArray X₁ hg hsize hdg hW (X₁.named hnamed) (hpre vm₁ X₁.warmed) with ⟨v, B, X', hpost, hsteps⟩ | ⟨q, B, X', hpost, hsteps⟩
  · exact Or.inl ⟨v, vm₁, B, X₁.warmed, X', hpost, fun target h => hstep₁ _ fun acts => by rw [doInvoke_state]; exact hsteps.trans h⟩
  · exact Or.inr ⟨q, vm₁, B, X₁.warmed, X', hpost, hstep₁ _ fun acts => by rw [doInvoke_state]; exact hsteps⟩
theorem vx_callSX (X : Stand p l e R s m args below meth c T locs cells slots) (hexec : p.tables.exec = Jvm.exec) {own : String} {index : Nat} {y : MethodName} {bytes : ByteArray} {maxL : Nat} {ret : Option FieldType} {hh : List (Nat × Nat × Nat × Nat)}
    (hown : s.vm.findClass own = some m.cls) (hlink : (Cond.methodLink own index y).before args s = true) (hstat : (Cond.static y).before args s = true) (hinit : (Cond.initialized y.cls).before args s = true)
    (hcode : (Cond.codeWith y bytes maxL ret hh).before args s = true) (hy : y.cls ≠ "java/lang/invoke/MethodHandle" ∧ y.cls ≠ "java/lang/invoke/VarHandle")
    {W9 : Nat} {Pre : Pt → Array Value → Prop} {Post : Pt → Array Value → Option Value → Pt → Prop} {PostX : Pt → Array Value → Addr → Pt → Prop} (hK : vx_Back l R p e below s args y 3 W9 Pre Post PostX)
    {g : JFrame} (hg : g.method = m) (hsize : g.locals.size = c.maxLocals) {argsL rest : List Value} (hlen : ∀ sig, parseMethodDescriptor y.desc = some sig → argsL.length = sig.parameters.length)
    (hstack : g.stack = argsL.reverse ++ rest) (hW : 2 * g.monitorRoom + (rest.map fun v => v.category).sum ≤ W9) (hdg : decode c.code g.pc = .ok (.invokestatic index, 3))
    (hpre : ∀ vm₁, s.WarmedH vm₁ → Pre ⟨T.setVm vm₁, locs, cells, slots⟩ argsL.toArray) :
    (∃ (v : Option Value) (vm₁ : Vm) (B : Pt), s.WarmedH vm₁ ∧ Stand p l e R s m args below meth c B.U B.locs B.cells B.slots ∧ Post ⟨T.setVm vm₁, locs, cells, slots⟩ argsL.toArray v B ∧
      ∀ target, Steps p.tables e below (B.U.setTop { g with pc := g.pc + 3, stack := v.toList ++ rest }) target → Steps p.tables e below (T.setTop g) target) ∨
    (∃ (q : Addr) (vm₁ : Vm) (B : Pt), s.WarmedH vm₁ ∧ Stand p l e R s m args below meth c B.U B.locs B.cells B.slots ∧ PostX ⟨T.setVm vm₁, locs, cells, slots⟩ argsL.toArray q B ∧
      Steps p.tables e below (T.setTop g) ((B.U.setTop { g with stack := rest }).pushFrame (.throwing q))) := by
  obtain ⟨mk, methM, cM, hnamed, hmethM, -, -, -, -, -, -, hsigM⟩ := Cond.codeWith_spec hcode
  have hstatic : methM.isStatic = true := Cond.static_spec hnamed hmethM hstat
  obtain ⟨kP, hkP, -⟩ := className_of_methodNamed hnamed
  have hinitP : kP.init = .initialized := Cond.initialized_spec (findClass_of_methodNamed hnamed) hkP hinit
  obtain ⟨vm₁, X₁, hstep₁⟩ := X.invokestatic hexec hown hlink hnamed hmethM hstatic hkP hinitP hy (g := g) hg (argsL := argsL) (rest := rest) (hlen _ hsigM) hstack hdg
  rcases hK m meth c ⟨T.setVm vm₁, locs, cells, slots⟩ { g with stack := rest } (.invokestatic index) mk argsL.toArray X₁ hg hsize hdg hW (X₁.named hnamed) (hpre vm₁ X₁.warmed) with ⟨v, B, X', hpost, hsteps⟩ | ⟨q, B, X', hpost, hsteps⟩
  · exact Or.inl ⟨v, vm₁, B, X₁.warmed, X', hpost, fun target h => hstep₁ _ fun acts => by rw [doInvoke_state]; exact hsteps.trans h⟩
  · exact Or.inr ⟨q, vm₁, B, X₁.warmed, X', hpost, hstep₁ _ fun acts => by rw [doInvoke_state]; exact hsteps⟩
theorem vx_callVW (X : Stand p l e R s m args below meth c T locs cells slots) (hexec : p.tables.exec = Jvm.exec) {own C : String} {index : Nat} {y : MethodName} {bytes : ByteArray} {maxL : Nat} {ret : Option FieldType} {hh : List (Nat × Nat × Nat × Nat)}
    (hown : s.vm.findClass own = some m.cls) (hlink : (Cond.methodLink own index y).before args s = true) (hinst : (Cond.instanceMethod y).before args s = true) (hsel : (Cond.selects C y y).before args s = true)
    (hcode : (Cond.codeWith y bytes maxL ret hh).before args s = true) (hy : y.cls ≠ "java/lang/invoke/MethodHandle" ∧ y.cls ≠ "java/lang/invoke/VarHandle")
    {W9 : Nat} {Pre : Pt → Array Value → Prop} {Post : Pt → Array Value → Option Value → Pt → Prop} (hK : Back l R p e below s args y 3 W9 Pre Post)
    {b : Addr} {cellB : Cell} (hcell : T.heap[b]? = some cellB) (hobj : cellB.vm.isStatics = false) (hcls : s.vm.findClass C = some cellB.cls)
    {g : JFrame} (hg : g.method = m) (hsize : g.locals.size = c.maxLocals) {argsL rest : List Value} (hlen : ∀ sig, parseMethodDescriptor y.desc = some sig → argsL.length = sig.parameters.length)
    (hstack : g.stack = argsL.reverse ++ .ref b :: rest) (hW : 2 * g.monitorRoom + (rest.map fun v => v.category).sum ≤ W9) (hdg : decode c.code g.pc = .ok (.invokevirtual index, 3))
    (hpre : ∀ vm₁, s.WarmedH vm₁ → Pre ⟨T.setVm vm₁, locs, cells, slots⟩ (Value.ref b :: argsL).toArray) :
    ∃ (v : Option Value) (vm₁ : Vm) (B : Pt), s.WarmedH vm₁ ∧ Stand p l e R s m args below meth c B.U B.locs B.cells B.slots ∧ Post ⟨T.setVm vm₁, locs, cells, slots⟩ (Value.ref b :: argsL).toArray v B ∧
      ∀ target, Steps p.tables e below (B.U.setTop { g with pc := g.pc + 3, stack := v.toList ++ rest }) target → Steps p.tables e below (T.setTop g) target := by
  obtain ⟨mk, methM, hnamed, hmethM, hstM, habM⟩ := Cond.instanceMethod_spec hinst
  obtain ⟨m8, methM', cM, hn8, hmethM', -, -, -, -, -, -, hsigM⟩ := Cond.codeWith_spec hcode
  cases Option.some.inj (hn8.symm.trans hnamed)
  cases hmethM.symm.trans hmethM'
  obtain ⟨c2, r2, m2, q1, q2, q3, q4, kP, hkP, hkPi⟩ := Cond.selects_spec hsel
  cases hcls.symm.trans q1
  cases (State.methodFound?_of_named hnamed hy).symm.trans q2
  cases hnamed.symm.trans q3
  have hselP : selectMethod e.platform s.vm cellB.cls mk = .method mk := by rw [Launch.admits_selectMethod X.admits]; exact q4
  obtain ⟨vm₁, X₁, hstep₁⟩ := X.invokevirtual hexec hown hlink hnamed hmethM hstM hkP hkPi hy (a := b) (cell := cellB) hcell
    (fun z h => by rw [h] at hobj; cases hobj) hselP hmethM habM hkP hkPi (g := g) hg (argsL := argsL) (rest := rest) (hlen _ hsigM) hstack hdg
  obtain ⟨v, B, X', hpost, hsteps⟩ := hK m meth c ⟨T.setVm vm₁, locs, cells, slots⟩ { g with stack := rest } (.invokevirtual index) mk (Value.ref b :: argsL).toArray X₁ hg hsize hdg hW (X₁.named hnamed) (hpre vm₁ X₁.warmed)
  exact ⟨v, vm₁, B, X₁.warmed, X', hpost, fun target h => hstep₁ _ fun acts => by rw [doInvoke_state]; exact hsteps.trans h⟩
abbrev vx_CVW (R : Room) (s : State) (args : Array Value) (own C : String) (index : Nat) (y : MethodName) (bytes : ByteArray) (maxL : Nat) (ret : Option FieldType) (hh : List (Nat × Nat × Nat × Nat)) (ws : List Cond) (rm : Room) (mc ms n : Nat) : Prop :=
  (rm.cells = mc ∧ rm.slots = ms ∧ rm.frames + 1 ≤ R.frames ∧ 8 + (maxL + 11) + rm.locals ≤ R.locals ∧ (∀ w ∈ ws, ∀ (a' : Array Value) (U : State), s.WarmedH U.vm → w.before a' U = true) ∧ Cond.codeWith y bytes maxL ret hh ∈ ws) ∧
  (Cond.codeWith y bytes maxL ret hh).before args s = true ∧ (Cond.initialized y.cls).before args s = true ∧ (y.cls ≠ "java/lang/invoke/MethodHandle" ∧ y.cls ≠ "java/lang/invoke/VarHandle") ∧
  (∀ sig, parseMethodDescriptor y.desc = some sig → n = sig.parameters.length) ∧ (Cond.methodLink own index y).before args s = true ∧ (Cond.instanceMethod y).before args s = true ∧ (Cond.selects C y y).before args s = true
theorem vx_cwVW {own C : String} {index maxL mc ms : Nat} {y : MethodName} {bytes : ByteArray} {ret : Option FieldType} {hh : List (Nat × Nat × Nat × Nat)} {Ts ws ws' : List Cond} {rm : Room} (n : Nat) (ht : ∀ w ∈ Ts, w.before args s = true) (hT : GoodIn Ts (wsV own index C y ws)) (hw : ws = Cond.codeWith y bytes maxL ret hh :: ws') (hrc : rm.cells = mc) (hrs : rm.slots = ms)
    (hd : y.cls = C ∧ y.cls ≠ "java/lang/invoke/MethodHandle" ∧ y.cls ≠ "java/lang/invoke/VarHandle" ∧ (parseMethodDescriptor y.desc).map (fun d => d.parameters.length) = some n) (hR : rm.frames + 1 ≤ R.frames ∧ 8 + (maxL + 11) + rm.locals ≤ R.locals) :
    vx_CVW R s args own C index y bytes maxL ret hh ws rm mc ms n := by
  obtain ⟨hC, hd⟩ := hd
  subst hC
  have ok : ∀ w ∈ wsV own index y.cls y ws, w.before args s = true := fun w h => ht w (hT w h).1
  have hG : GoodIn Ts ws := fun w h => hT w (by unfold wsV; exact List.mem_append_right _ h)
  have hc : Cond.codeWith y bytes maxL ret hh ∈ ws := by rw [hw]; exact List.mem_cons_self
  refine ⟨⟨hrc, hrs, hR.1, hR.2, pay_in ht hG, hc⟩, ht _ (hG _ hc).1, ok _ (by simp [wsV]), ⟨hd.1, hd.2.1⟩, fun sig h => ?_, ok _ (by simp [wsV]), ok _ (by simp [wsV]), ok _ (by simp [wsV])⟩
  have h2 := hd.2.2
  rw [h] at h2
  exact (Option.some.inj h2).symm
theorem vx_runVW {y : MethodName} {bytes cc : ByteArray} {maxL nL mc ms n index : Nat} {ret : Option FieldType} {hh : List (Nat × Nat × Nat × Nat)} {ws : List Cond} {rm : Room} {Pc : Array Value → State → Prop} {Qc : Array Value → State → Outcome → State → Prop} {free : Addr → Prop} {Ts : List Cond} {own C : String} {b : Addr} {As rest : List Value} {g : JFrame}
    (S : CallFix p m c cc nL s args Ts own) (hM : Met l y ws rm Pc Qc mc ms free) (cw : vx_CVW R s args own C index y bytes maxL ret hh ws rm mc ms n) (hp : PreV s H C b Pc As)
    (hg : g.method = m) (hn : As.length = n) (hsize : g.locals.size = nL) (hstack : g.stack = As.reverse ++ .ref b :: rest) (hW : 2 * g.monitorRoom + (rest.map fun v => v.category).sum ≤ 8) (hdg : decode cc g.pc = .ok (.invokevirtual index, 3)) (hf : cells + mc ≤ R.cells ∧ slots + ms ≤ R.slots) :
    va_Run p l e R s m args below meth c H locs cells slots mc ms g rest (Qc (Value.ref b :: As).toArray) free := by
  obtain ⟨⟨hrc, hrs, hfr, hlo, hws, hcw⟩, hcode, hini, hy, hlen, hl, hin, hse⟩ := cw
  have hK : Back l R p e below s args y 3 8 (PreOf R mc ms Pc) (PostOf Qc mc ms free) := va_backW (hh := hh) (bytes := bytes) (maxL := maxL) (ret := ret) hM hp.1 hrc hrs hfr hlo hws hcw (fun a' U hW => word_at hW (Or.inl (by first | rfl | simp [Cond.onTables, Cond.keeps, Cond.steady])) hini)
  obtain ⟨hx, hb, hml, ho, -⟩ := S
  obtain ⟨-, ⟨cellB, hcB, hoB, hclB⟩, hPc⟩ := hp
  intro T hT X
  obtain ⟨v, vm₁, ⟨U', l2, c2, s2⟩, hW₁, X', ⟨g', mk, t, L, e1, e2, hq, h1, hL, h2, h3⟩, st⟩ := vx_callVW X hx (C := C) (hh := hh) (bytes := bytes) (maxL := maxL) (ret := ret) ho hl hin hse hcode hy hK (by rw [hT]; exact hcB) hoB hclB hg (hsize.trans hml.symm) (argsL := As) (rest := rest) (fun sig h => hn.trans (hlen sig h)) hstack hW (by rw [hb]; exact hdg)
    (fun vm₁ hW₁ => ⟨hf.1, hf.2, hPc (T.setVm vm₁) hT hW₁⟩)
  dsimp only [Pt.U, Pt.locs, Pt.cells, Pt.slots] at X' e1 e2 h1 h2 h3 st
  subst h1; subst h2; subst h3
  exact ⟨v, (T.setVm vm₁).calling g' mk (Value.ref b :: As).toArray, t, U', L, hT, X', hL, e1, e2, hq, st⟩
section
variable {y : MethodName} {bytes cc : ByteArray} {maxL nL mc ms n index : Nat} {ret : Option FieldType} {ws : List Cond} {rm : Room} {Pc : Array Value → State → Prop} {Qc : Array Value → State → Outcome → State → Prop} {XC : String → State → State → Prop} {free : Addr → Prop} {Ts : List Cond} {own C : String} {b : Addr} {As rest : List Value} {g : JFrame}
theorem vx_runVX {hh : List (Nat × Nat × Nat × Nat)} (S : CallFix p m c cc nL s args Ts own) (hM : vx_Met l y ws rm Pc Qc XC mc ms free) (cw : vx_CVW R s args own C index y bytes maxL ret hh ws rm mc ms n) (hp : PreV s H C b Pc As)
    (hg : g.method = m) (hn : As.length = n) (hsize : g.locals.size = nL) (hstack : g.stack = As.reverse ++ .ref b :: rest) (hW : 2 * g.monitorRoom + (rest.map fun v => v.category).sum ≤ 8) (hdg : decode cc g.pc = .ok (.invokevirtual index, 3)) (hf : cells + mc ≤ R.cells ∧ slots + ms ≤ R.slots) :
    vx_Run p l e R s m args below meth c H locs cells slots mc ms g rest (Qc (Value.ref b :: As).toArray) XC free := by
  obtain ⟨⟨hrc, hrs, hfr, hlo, hws, hcw⟩, hcode, hini, hy, hlen, hl, hin, hse⟩ := cw
  have hK : vx_Back l R p e below s args y 3 8 (PreOf R mc ms Pc) (PostOf Qc mc ms free) (vx_Post XC mc ms free) := vx_backW (hh := hh) (bytes := bytes) (maxL := maxL) (ret := ret) hM hp.1 hrc hrs hfr hlo hws hcw (fun a' U hW => word_at hW (Or.inl (by first | rfl | simp [Cond.onTables, Cond.keeps, Cond.steady])) hini)
  obtain ⟨hx, hb, hml, ho, -⟩ := S
  obtain ⟨-, ⟨cellB, hcB, hoB, hclB⟩, hPc⟩ := hp
  intro T hT X
  rcases vx_callVX X hx (C := C) (hh := hh) (bytes := bytes) (maxL := maxL) (ret := ret) ho hl hin hse hcode hy hK (by rw [hT]; exact hcB) hoB hclB hg (hsize.trans hml.symm) (argsL := As) (rest := rest) (fun sig h => hn.trans (hlen sig h)) hstack hW (by rw [hb]; exact hdg)
    (fun vm₁ hW₁ => ⟨hf.1, hf.2, hPc (T.setVm vm₁) hT hW₁⟩) with ⟨v, vm₁, ⟨U', l2, c2, s2⟩, hW₁, X', ⟨g', mk, t, L, e1, e2, hq, h1, hL, h2, h3⟩, st⟩ | ⟨q, vm₁, ⟨U', l2, c2, s2⟩, hW₁, X', ⟨g', mk, t, L, E, ce, e1, e2, hq, hce, hcv, hcl, h1, hL, h2, h3⟩, st⟩
  · dsimp only [Pt.U, Pt.locs, Pt.cells, Pt.slots] at X' e1 e2 h1 h2 h3 st
    subst h1; subst h2; subst h3
    exact Or.inl ⟨v, (T.setVm vm₁).calling g' mk (Value.ref b :: As).toArray, t, U', L, hT, X', hL, e1, e2, hq, st⟩
  · dsimp only [Pt.U, Pt.locs, Pt.cells, Pt.slots] at X' e1 e2 h1 h2 h3 st hcl
    subst h1; subst h2; subst h3
    exact Or.inr ⟨q, (T.setVm vm₁).calling g' mk (Value.ref b :: As).toArray, t, U', L, E, ce, hT, X', hL, e1, e2, hq, hce, hcv, vx_cls hW₁ hcl, st⟩
theorem vx_runSX {hh : List (Nat × Nat × Nat × Nat)} (S : CallFix p m c cc nL s args Ts own) (hM : vx_Met l y ws rm Pc Qc XC mc ms free) (cw : vx_CSW R s args own index y bytes maxL ret hh ws rm mc ms n) (hp : PreS s H Pc As)
    (hg : g.method = m) (hn : As.length = n) (hsize : g.locals.size = nL) (hstack : g.stack = As.reverse ++ rest) (hW : 2 * g.monitorRoom + (rest.map fun v => v.category).sum ≤ 8) (hdg : decode cc g.pc = .ok (.invokestatic index, 3)) (hf : cells + mc ≤ R.cells ∧ slots + ms ≤ R.slots) :
    vx_Run p l e R s m args below meth c H locs cells slots mc ms g rest (Qc As.toArray) XC free := by
  obtain ⟨⟨hrc, hrs, hfr, hlo, hws, hcw⟩, hcode, hini, hy, hlen, hl, hstt⟩ := cw
  have hK : vx_Back l R p e below s args y 3 8 (PreOf R mc ms Pc) (PostOf Qc mc ms free) (vx_Post XC mc ms free) := vx_backW (hh := hh) (bytes := bytes) (maxL := maxL) (ret := ret) hM hp.1 hrc hrs hfr hlo hws hcw (fun a' U hW => word_at hW (Or.inl (by first | rfl | simp [Cond.onTables, Cond.keeps, Cond.steady])) hini)
  obtain ⟨hx, hb, hml, ho, -⟩ := S
  intro T hT X
  rcases vx_callSX X hx (hh := hh) (bytes := bytes) (maxL := maxL) (ret := ret) ho hl hstt hini hcode hy hK hg (hsize.trans hml.symm) (argsL := As) (rest := rest) (fun sig h => hn.trans (hlen sig h)) hstack hW (by rw [hb]; exact hdg)
    (fun vm₁ hW₁ => ⟨hf.1, hf.2, hp.2 (T.setVm vm₁) hT hW₁⟩) with ⟨v, vm₁, ⟨U', l2, c2, s2⟩, hW₁, X', ⟨g', mk, t, L, e1, e2, hq, h1, hL, h2, h3⟩, st⟩ | ⟨q, vm₁, ⟨U', l2, c2, s2⟩, hW₁, X', ⟨g', mk, t, L, E, ce, e1, e2, hq, hce, hcv, hcl, h1, hL, h2, h3⟩, st⟩
  · dsimp only [Pt.U, Pt.locs, Pt.cells, Pt.slots] at X' e1 e2 h1 h2 h3 st
    subst h1; subst h2; subst h3
    exact Or.inl ⟨v, (T.setVm vm₁).calling g' mk As.toArray, t, U', L, hT, X', hL, e1, e2, hq, st⟩
  · dsimp only [Pt.U, Pt.locs, Pt.cells, Pt.slots] at X' e1 e2 h1 h2 h3 st hcl
    subst h1; subst h2; subst h3
    exact Or.inr ⟨q, (T.setVm vm₁).calling g' mk As.toArray, t, U', L, E, ce, hT, X', hL, e1, e2, hq, hce, hcv, vx_cls hW₁ hcl, st⟩
end
end VXH
theorem vx_ofWH {l : Launch} {y : MethodName} {ws ws' : List Cond} {rm : Room} {Pc : Array Value → State → Prop} {Qc : Array Value → State → Outcome → State → Prop} {XC : String → State → State → Prop} {mc ms : Nat} {free : Addr → Prop} {cc : ByteArray} {maxL : Nat} {ret : Option FieldType} {hh : List (Nat × Nat × Nat × Nat)}
    (hy : plainName y.cls = true) (hw : ws = Cond.codeWith y cc maxL ret hh :: ws')
    (body : ∀ p e s m args below meth c s₁, BodyLoose p l y (headSpec ws rm) cc maxL ret e s m args below meth c s₁ → c.maxLocals = maxL → Pc args s →
      W p l e (headSpec ws rm).room s m args below meth c s.heap [] 0 0 (vx_MQ below Qc XC args s mc ms free) (entryFrame m args maxL)) : vx_Met l y ws rm Pc Qc XC mc ms free := by
  refine MetFree.of_bodyS (code := cc) (maxLocals := maxL) (ret := ret) hy ?_ ?_
  · intro args s m h hn
    obtain ⟨m9, meth, c, hn9, h1, h2, h3, h4, -, h5, h6, -⟩ := Cond.codeWith_spec (atoms_spec (ws := ws) h _ (by rw [hw]; exact List.mem_cons_self))
    cases hn.symm.trans hn9
    exact ⟨meth, c, h1, h2, h3, h4, h5, h6⟩
  · intro p e s m args below meth c s₁ B hml hP _
    have hh0 : s₁.heap = s.heap := by rw [B.state]; rfl
    obtain ⟨t, a1, o, b1, b2, b3⟩ := body p e s m args below meth c s₁ B hml hP s₁ hh0 (Stand.of_body B)
    exact ⟨t, o, a1, b1, b2, b3⟩
/-! ===== END ===== -/
end
section
/-! the methods: names, codes, what their instructions link, by the places of the statement's words (wip/p65/static2.py writes this) -/
/-- a value with the kind of the thing that it refers to (0: no reference) -/
abbrev xV : Type := Nat × Value
abbrev xM : Type := Nat → Nat → Nat → Value
/-- an entry: pc, instruction, resolved numbers, constant -/
abbrev xE : Type := Nat × Instr × List Nat × Int32
def xnth (l : List Nat) (i : Nat) : Nat := match l, i with
  | [], _ => 0
  | a :: _, 0 => a
  | _ :: r, i + 1 => xnth r i
/-- arrays of references: the kind of their elements, the number of the first -/
def xae (k : Nat) : Option (Nat × Nat) := match k with
  | 18 => some (2, 1)
  | 23 => some (24, 0)
  | 25 => some (2, 7)
  | _ => none
def xwx : List Cond := [.selects "java/lang/StringBuilder" ⟨"java/lang/AbstractStringBuilder", "ensureCapacityInternal", "(I)V"⟩ ⟨"java/lang/AbstractStringBuilder", "ensureCapacityInternal", "(I)V"⟩, .selects "java/lang/StringBuilder" ⟨"java/lang/AbstractStringBuilder", "newCapacity", "(I)I"⟩ ⟨"java/lang/AbstractStringBuilder", "newCapacity", "(I)I"⟩, .selects "java/lang/StringBuilder" ⟨"java/lang/AbstractStringBuilder", "putStringAt", "(ILjava/lang/String;)V"⟩ ⟨"java/lang/AbstractStringBuilder", "putStringAt", "(ILjava/lang/String;)V"⟩, .selects "java/lang/StringBuilder" ⟨"java/lang/AbstractStringBuilder", "inflateIfNeededFor", "(Ljava/lang/String;)V"⟩ ⟨"java/lang/AbstractStringBuilder", "inflateIfNeededFor", "(Ljava/lang/String;)V"⟩]
def xTb : List Cond := xwx ++ lw_tbl
def xwA : List Cond := xTb.filter goodWord
theorem xwA_mem {i : Nat} {w : Cond} (h : xTb[i]? = some w) (hg : goodWord w = true) : w ∈ xwA := List.mem_filter.mpr ⟨List.mem_of_getElem? h, hg⟩
theorem xwA_good {w : Cond} (h : w ∈ xwA) : goodWord w = true := (List.mem_filter.mp h).2
theorem xwA_map {α : Type} {f : α → Cond} : ∀ (ps : List Nat) (L : List α), ps.map (fun i => xTb[i]?) = L.map (fun q => some (f q)) → (∀ q, goodWord (f q) = true) → ∀ q ∈ L, f q ∈ xwA
  | [], [], _, _, _, h => nomatch h
  | [], _ :: _, e, _, _, _ => nomatch e
  | _ :: _, [], _, _, _, h => nomatch h
  | i :: ps, a :: L, e, hg, q, h => by
    injection e with e1 e2
    rcases List.mem_cons.mp h with h | h
    · subst h; exact xwA_mem e1 (hg _)
    · exact xwA_map ps L e2 hg q h
def xcn (c : Nat) : String := match c with
  | 0 => "ProjectPlanner$Plan"
  | 1 => "ProjectPlanner$History"
  | 2 => "ProjectPlanner$Input"
  | 3 => "ProjectPlanner$Tokens"
  | 4 => "ProjectPlanner$Command"
  | 5 => "ProjectPlanner$Script"
  | 6 => "ProjectPlanner$Dates"
  | 7 => "ProjectPlanner$Schedule"
  | 8 => "java/lang/String"
  | 9 => "jdk/internal/util/Preconditions"
  | 10 => "java/lang/StringLatin1"
  | 11 => "ProjectPlanner"
  | 12 => "ProjectPlanner$Setup"
  | 13 => "ProjectPlannerLaw"
  | 14 => "java/lang/Math"
  | 15 => "jdk/internal/util/ArraysSupport"
  | 16 => "java/lang/AbstractStringBuilder"
  | 17 => "java/util/Arrays"
  | 18 => "java/lang/StringBuilder"
  | 19 => "java/lang/Integer"
  | 20 => "ProjectPlannerLaw$Plan"
  | _ => ""
def xcl (k : Nat) : String := match k with
  | 1 => "ProjectPlanner"
  | 2 => "ProjectPlanner$Plan"
  | 10 => "ProjectPlanner$Dates"
  | 15 => "ProjectPlanner$Schedule"
  | 17 => "ProjectPlanner$History"
  | 19 => "ProjectPlanner$Input"
  | 21 => "ProjectPlanner$Tokens"
  | 22 => "ProjectPlanner$Script"
  | 24 => "ProjectPlanner$Command"
  | 27 => "ProjectPlannerLaw$Plan"
  | 42 => "ProjectPlanner$TokenKind"
  | 43 => "ProjectPlanner$CommandKind"
  | 46 => "java/lang/String"
  | 50 => "java/lang/StringBuilder"
  | _ => ""
def xTf (k f : Nat) : String × String × String × Bool := match k with
  | 1 => (match f with
    | 0 => ("ProjectPlanner", "plan", "LProjectPlanner$Plan;", true)
    | 1 => ("ProjectPlanner", "draft", "LProjectPlanner$Plan;", true)
    | 2 => ("ProjectPlanner", "history", "LProjectPlanner$History;", true)
    | 3 => ("ProjectPlanner", "saved", "[LProjectPlanner$Plan;", true)
    | 4 => ("ProjectPlanner", "isSaved", "[Z", true)
    | 5 => ("ProjectPlanner", "tokens", "LProjectPlanner$Tokens;", true)
    | 6 => ("ProjectPlanner", "script", "LProjectPlanner$Script;", true)
    | 7 => ("ProjectPlanner", "schedule", "LProjectPlanner$Schedule;", true)
    | 8 => ("ProjectPlanner", "output", "Ljava/lang/String;", false)
    | _ => ("", "", "", false))
  | 2 => (match f with
    | 0 => ("ProjectPlanner$Plan", "rule", "I", false)
    | 1 => ("ProjectPlanner$Plan", "resources", "I", false)
    | 2 => ("ProjectPlanner$Plan", "tasks", "I", false)
    | 3 => ("ProjectPlanner$Plan", "resourceNames", "[J", true)
    | 4 => ("ProjectPlanner$Plan", "capacities", "[I", true)
    | 5 => ("ProjectPlanner$Plan", "taskNames", "[J", true)
    | 6 => ("ProjectPlanner$Plan", "durations", "[I", true)
    | 7 => ("ProjectPlanner$Plan", "releases", "[I", true)
    | 8 => ("ProjectPlanner$Plan", "predecessors", "[I", true)
    | 9 => ("ProjectPlanner$Plan", "demands", "[I", true)
    | _ => ("", "", "", false))
  | 10 => (match f with
    | 0 => ("ProjectPlanner$Dates", "order", "[I", true)
    | 1 => ("ProjectPlanner$Dates", "before", "[I", true)
    | 2 => ("ProjectPlanner$Dates", "earliest", "[I", true)
    | 3 => ("ProjectPlanner$Dates", "latest", "[I", true)
    | 4 => ("ProjectPlanner$Dates", "length", "I", false)
    | _ => ("", "", "", false))
  | 15 => (match f with
    | 0 => ("ProjectPlanner$Schedule", "dates", "LProjectPlanner$Dates;", true)
    | 1 => ("ProjectPlanner$Schedule", "starts", "[I", true)
    | 2 => ("ProjectPlanner$Schedule", "placed", "I", false)
    | 3 => ("ProjectPlanner$Schedule", "length", "I", false)
    | _ => ("", "", "", false))
  | 17 => (match f with
    | 0 => ("ProjectPlanner$History", "states", "[LProjectPlanner$Plan;", true)
    | 1 => ("ProjectPlanner$History", "newest", "I", false)
    | 2 => ("ProjectPlanner$History", "count", "I", false)
    | _ => ("", "", "", false))
  | 19 => (match f with
    | 0 => ("ProjectPlanner$Input", "bytes", "[B", true)
    | 1 => ("ProjectPlanner$Input", "length", "I", false)
    | _ => ("", "", "", false))
  | 21 => (match f with
    | 0 => ("ProjectPlanner$Tokens", "input", "LProjectPlanner$Input;", true)
    | 1 => ("ProjectPlanner$Tokens", "start", "I", false)
    | 2 => ("ProjectPlanner$Tokens", "end", "I", false)
    | 3 => ("ProjectPlanner$Tokens", "kind", "LProjectPlanner$TokenKind;", false)
    | 4 => ("ProjectPlanner$Tokens", "word", "J", false)
    | 5 => ("ProjectPlanner$Tokens", "number", "I", false)
    | 6 => ("ProjectPlanner$Tokens", "takenName", "J", false)
    | 7 => ("ProjectPlanner$Tokens", "takenNumber", "I", false)
    | 8 => ("ProjectPlanner$Tokens", "errorCode", "I", false)
    | 9 => ("ProjectPlanner$Tokens", "errorPosition", "I", false)
    | _ => ("", "", "", false))
  | 22 => (match f with
    | 0 => ("ProjectPlanner$Script", "commands", "[LProjectPlanner$Command;", true)
    | 1 => ("ProjectPlanner$Script", "count", "I", false)
    | _ => ("", "", "", false))
  | 24 => (match f with
    | 0 => ("ProjectPlanner$Command", "kind", "LProjectPlanner$CommandKind;", false)
    | 1 => ("ProjectPlanner$Command", "task", "J", false)
    | 2 => ("ProjectPlanner$Command", "otherTask", "J", false)
    | 3 => ("ProjectPlanner$Command", "resource", "J", false)
    | 4 => ("ProjectPlanner$Command", "number", "I", false)
    | _ => ("", "", "", false))
  | 27 => (match f with
    | 0 => ("ProjectPlannerLaw$Plan", "x", "LProjectPlanner;", true)
    | 1 => ("ProjectPlannerLaw$Plan", "many", "I", true)
    | 2 => ("ProjectPlannerLaw$Plan", "start", "[I", true)
    | 3 => ("ProjectPlannerLaw$Plan", "length", "I", false)
    | _ => ("", "", "", false))
  | 46 => (match f with
    | 0 => ("java/lang/String", "value", "[B", true)
    | 1 => ("java/lang/String", "coder", "B", true)
    | _ => ("", "", "", false))
  | 50 => (match f with
    | 0 => ("java/lang/AbstractStringBuilder", "value", "[B", false)
    | 1 => ("java/lang/AbstractStringBuilder", "coder", "B", false)
    | 2 => ("java/lang/AbstractStringBuilder", "count", "I", false)
    | _ => ("", "", "", false))
  | _ => ("", "", "", false)
def xat (k : Nat) : Option FieldType := match k with
  | 3 => some (.long)
  | 4 => some (.int)
  | 5 => some (.long)
  | 6 => some (.int)
  | 7 => some (.int)
  | 8 => some (.int)
  | 9 => some (.int)
  | 11 => some (.int)
  | 12 => some (.int)
  | 13 => some (.int)
  | 14 => some (.int)
  | 16 => some (.int)
  | 18 => some (.object "ProjectPlanner$Plan")
  | 20 => some (.byte)
  | 23 => some (.object "ProjectPlanner$Command")
  | 25 => some (.object "ProjectPlanner$Plan")
  | 26 => some (.boolean)
  | 28 => some (.int)
  | 29 => some (.boolean)
  | 41 => some (.int)
  | 47 => some (.byte)
  | 48 => some (.byte)
  | 49 => some (.byte)
  | 52 => some (.byte)
  | _ => none
def xmet : List (Nat × String × String) := [(0, "<init>", "()V"), (1, "<init>", "()V"), (2, "<init>", "()V"), (3, "<init>", "()V"), (4, "<init>", "()V"), (5, "<init>", "()V"), (6, "<init>", "()V"), (7, "<init>", "()V"), (8, "coder", "()B"), (8, "length", "()I"), (8, "isLatin1", "()Z"), (9, "checkIndex", "(IILjava/util/function/BiFunction;)I"), (8, "checkIndex", "(II)V"), (10, "charAt", "([BI)C"), (8, "charAt", "(I)C"), (2, "putByte", "(I)V"), (2, "putText", "(Ljava/lang/String;)V"), (3, "isSeparator", "(I)Z"), (11, "isLetter", "(I)Z"), (3, "scanWord", "()V"), (11, "isDigit", "(I)Z"), (3, "scanNumber", "()V"), (3, "advance", "()V"), (3, "open", "()V"), (11, "packed", "(Ljava/lang/String;)J"), (3, "isAt", "(Ljava/lang/String;)Z"), (3, "fail", "(I)Z"), (3, "takeOpening", "(Ljava/lang/String;Z)Z"), (3, "takeNumber", "(II)Z"), (3, "takeSemicolon", "()Z"), (12, "readHead", "(LProjectPlanner$Tokens;LProjectPlanner$Plan;)Z"), (0, "resourceNamed", "(J)I"), (3, "takeNewName", "(I)Z"), (12, "readResource", "(LProjectPlanner$Tokens;LProjectPlanner$Plan;)Z"), (0, "taskNamed", "(J)I"), (12, "readDemands", "(LProjectPlanner$Tokens;LProjectPlanner$Plan;I)Z"), (3, "isAtKnownName", "(I)Z"), (11, "contains", "(II)Z"), (0, "isLinked", "(II)Z"), (12, "readLinks", "(LProjectPlanner$Tokens;LProjectPlanner$Plan;I)Z"), (12, "readTask", "(LProjectPlanner$Tokens;LProjectPlanner$Plan;)Z"), (12, "read", "(LProjectPlanner$Tokens;LProjectPlanner$Plan;)Z"), (11, "<init>", "()V"), (13, "pick", "([III)I"), (14, "max", "(II)I"), (15, "newLength", "(III)I"), (16, "newCapacity", "(I)I"), (14, "min", "(II)I"), (17, "copyOf", "([BI)[B"), (16, "ensureCapacityInternal", "(I)V"), (16, "inflateIfNeededFor", "(Ljava/lang/String;)V"), (8, "getBytes", "([BIB)V"), (16, "putStringAt", "(ILjava/lang/String;)V"), (16, "append", "(Ljava/lang/String;)Ljava/lang/AbstractStringBuilder;"), (18, "append", "(Ljava/lang/String;)Ljava/lang/StringBuilder;"), (18, "append", "(Ljava/lang/String;)Ljava/lang/AbstractStringBuilder;"), (16, "<init>", "(Ljava/lang/String;)V"), (18, "<init>", "(Ljava/lang/String;)V"), (19, "stringSize", "(I)I"), (16, "isLatin1", "()Z"), (19, "getChars", "(II[B)I"), (16, "append", "(I)Ljava/lang/AbstractStringBuilder;"), (18, "append", "(I)Ljava/lang/StringBuilder;"), (10, "canEncode", "(C)Z"), (16, "append", "(C)Ljava/lang/AbstractStringBuilder;"), (18, "append", "(C)Ljava/lang/StringBuilder;"), (16, "getValue", "()[B"), (16, "length", "()I"), (18, "length", "()I"), (17, "checkLength", "(II)V"), (17, "copyOfRangeByte", "([BII)[B"), (17, "copyOfRange", "([BII)[B"), (8, "<init>", "(Ljava/lang/AbstractStringBuilder;Ljava/lang/Void;)V"), (8, "<init>", "(Ljava/lang/StringBuilder;)V"), (18, "toString", "()Ljava/lang/String;"), (13, "setup", "([III)Ljava/lang/String;"), (11, "truncate", "(I)I"), (13, "word", "(Ljava/lang/String;I)I"), (2, "putBytes", "(I)V"), (11, "append", "(IIIII)I"), (13, "say", "(LProjectPlanner;Ljava/lang/String;)Z"), (0, "copyFrom", "(LProjectPlanner$Plan;)V"), (11, "load", "()I"), (11, "taskCount", "()I"), (0, "hasTask", "(I)Z"), (11, "requireTask", "(I)V"), (11, "release", "(I)I"), (11, "hasLink", "(II)Z"), (11, "duration", "(I)I"), (20, "early", "(I)I"), (20, "early", "(I)I"), (20, "early", "(I)I"), (20, "early", "(I)I"), (20, "early", "(I)I"), (20, "early", "(I)I"), (20, "early", "(I)I"), (20, "early", "(I)I"), (20, "<init>", "(LProjectPlanner;)V"), (11, "rule", "()I"), (20, "ready", "(I)I"), (20, "late", "(I)I"), (20, "late", "(I)I"), (20, "late", "(I)I"), (20, "late", "(I)I"), (20, "late", "(I)I"), (20, "late", "(I)I"), (20, "late", "(I)I"), (20, "late", "(I)I"), (20, "after", "(I[Z)I"), (20, "after", "(I[Z)I"), (20, "after", "(I[Z)I"), (20, "after", "(I[Z)I"), (20, "after", "(I[Z)I"), (20, "after", "(I[Z)I"), (20, "after", "(I[Z)I"), (20, "after", "(I[Z)I"), (20, "isAhead", "(III)Z"), (11, "resourceCount", "()I"), (20, "isOn", "(II)Z"), (0, "hasResource", "(I)Z"), (11, "requireResource", "(I)V"), (0, "demandOf", "(II)I"), (11, "demand", "(II)I"), (20, "usage", "(II)I"), (11, "capacity", "(I)I"), (20, "fits", "(II)Z"), (20, "build", "(I)I"), (0, "isReady", "(II)Z"), (6, "sortTasks", "(LProjectPlanner$Plan;)V"), (6, "findEarliest", "(LProjectPlanner$Plan;I)V"), (6, "findLatest", "(LProjectPlanner$Plan;I)V"), (6, "compute", "(LProjectPlanner$Plan;)V"), (6, "countFollowers", "(LProjectPlanner$Plan;I)I"), (7, "rankOf", "(LProjectPlanner$Plan;I)I"), (7, "bestReady", "(LProjectPlanner$Plan;)I"), (7, "predecessorsFinish", "(LProjectPlanner$Plan;I)I"), (0, "runsOn", "(III)Z"), (0, "loadOn", "([IIII)I"), (7, "hasRoomOn", "(LProjectPlanner$Plan;II)Z"), (7, "firstFreeDay", "(LProjectPlanner$Plan;I)I"), (7, "build", "(LProjectPlanner$Plan;)V"), (11, "currentSchedule", "()LProjectPlanner$Schedule;"), (11, "makespan", "()I"), (11, "currentDates", "()LProjectPlanner$Dates;"), (11, "projectLength", "()I"), (7, "countBrokenLinks", "(LProjectPlanner$Plan;)I"), (7, "usageOn", "(LProjectPlanner$Plan;II)I"), (7, "peakOf", "(LProjectPlanner$Plan;I)I"), (7, "countOverusedResources", "(LProjectPlanner$Plan;)I"), (0, "workFor", "(I)I"), (0, "daysOfWork", "(I)I"), (6, "leastMakespan", "(LProjectPlanner$Plan;)I"), (11, "inconsistencies", "()I"), (11, "startDay", "(I)I"), (11, "finishDay", "(I)I"), (11, "earliestStart", "(I)I"), (11, "latestStart", "(I)I"), (11, "delay", "(I)I"), (6, "slackOf", "(I)I"), (11, "slack", "(I)I"), (11, "requireDay", "(I)V"), (11, "usage", "(II)I"), (11, "peakUsage", "(I)I"), (11, "lowerBound", "()I"), (20, "agrees", "()Z"), (11, "requireRule", "(I)V"), (11, "lengthWithRule", "(I)I"), (11, "makespanWith", "(I)I"), (11, "requireDuration", "(I)V"), (1, "remember", "(LProjectPlanner$Plan;)V"), (0, "changeDuration", "(II)Z"), (11, "setDuration", "(II)I"), (0, "changeDemand", "(III)Z"), (11, "setDemand", "(III)I"), (0, "changeRelease", "(II)Z"), (11, "setRelease", "(II)I"), (0, "predecessorsOf", "(I)I"), (0, "cycleLength", "(II)I"), (11, "closedCycleLength", "(II)I"), (0, "canLink", "(II)Z"), (0, "link", "(II)Z"), (19, "bitCount", "(I)I"), (0, "countLinks", "()I"), (11, "addLink", "(II)I"), (0, "unlink", "(II)Z"), (11, "removeLink", "(II)I"), (0, "greatestDemand", "(I)I"), (0, "changeCapacity", "(II)Z"), (11, "setCapacity", "(II)I"), (0, "moveTask", "(II)V"), (0, "withoutBit", "(II)I"), (0, "removeTask", "(I)Z"), (11, "dropTask", "(I)I"), (0, "changeRule", "(I)Z"), (11, "setRule", "(I)I"), (13, "act", "(LProjectPlanner;I)V"), (13, "law", "([I)Z")]
noncomputable def xcodeL : List ByteArray := [prog_8_method_1_code, prog_6_method_1_code, prog_7_method_1_code, prog_13_method_1_code, prog_3_method_1_code, prog_10_method_1_code, prog_5_method_1_code, prog_9_method_1_code, prog_28_method_152_code, prog_28_method_54_code, prog_28_method_154_code, prog_36_method_11_code, prog_28_method_155_code, prog_30_method_2_code, prog_28_method_56_code, prog_7_method_2_code, prog_7_method_4_code, prog_13_method_4_code, prog_1_method_77_code, prog_13_method_5_code, prog_1_method_78_code, prog_13_method_6_code, prog_13_method_3_code, prog_13_method_2_code, prog_1_method_75_code, prog_13_method_8_code, prog_13_method_7_code, prog_13_method_9_code, prog_13_method_11_code, prog_13_method_10_code, prog_11_method_3_code, prog_8_method_6_code, prog_13_method_12_code, prog_11_method_4_code, prog_8_method_5_code, prog_11_method_6_code, prog_13_method_13_code, prog_1_method_74_code, prog_8_method_14_code, prog_11_method_7_code, prog_11_method_5_code, prog_11_method_2_code, prog_1_method_1_code, method_2_code, prog_25_method_65_code, prog_35_method_27_code, prog_17_method_10_code, prog_25_method_69_code, prog_34_method_121_code, prog_17_method_9_code, prog_17_method_71_code, prog_28_method_147_code, prog_17_method_73_code, prog_17_method_22_code, prog_29_method_7_code, prog_29_method_80_code, prog_17_method_3_code, prog_29_method_3_code, prog_24_method_13_code, prog_17_method_68_code, prog_24_method_12_code, prog_17_method_32_code, prog_29_method_15_code, prog_30_method_3_code, prog_17_method_31_code, prog_29_method_14_code, prog_17_method_64_code, prog_17_method_6_code, prog_29_method_93_code, prog_34_method_131_code, prog_34_method_133_code, prog_34_method_132_code, prog_28_method_150_code, prog_28_method_53_code, prog_29_method_42_code, method_5_code, prog_1_method_3_code, method_3_code, prog_7_method_3_code, prog_1_method_2_code, method_4_code, prog_8_method_2_code, prog_1_method_4_code, prog_1_method_7_code, prog_8_method_3_code, prog_1_method_64_code, prog_1_method_15_code, prog_1_method_18_code, prog_1_method_14_code, prog_15_method_2_code, prog_15_method_2_code, prog_15_method_2_code, prog_15_method_2_code, prog_15_method_2_code, prog_15_method_2_code, prog_15_method_2_code, prog_15_method_2_code, prog_15_method_1_code, prog_1_method_9_code, prog_15_method_8_code, prog_15_method_3_code, prog_15_method_3_code, prog_15_method_3_code, prog_15_method_3_code, prog_15_method_3_code, prog_15_method_3_code, prog_15_method_3_code, prog_15_method_3_code, prog_15_method_4_code, prog_15_method_4_code, prog_15_method_4_code, prog_15_method_4_code, prog_15_method_4_code, prog_15_method_4_code, prog_15_method_4_code, prog_15_method_4_code, prog_15_method_9_code, prog_1_method_8_code, prog_15_method_5_code, prog_8_method_4_code, prog_1_method_65_code, prog_8_method_7_code, prog_1_method_16_code, prog_15_method_6_code, prog_1_method_13_code, prog_15_method_7_code, prog_15_method_10_code, prog_8_method_15_code, prog_5_method_3_code, prog_5_method_4_code, prog_5_method_5_code, prog_5_method_2_code, prog_5_method_8_code, prog_9_method_4_code, prog_9_method_3_code, prog_9_method_6_code, prog_8_method_11_code, prog_8_method_12_code, prog_9_method_7_code, prog_9_method_5_code, prog_9_method_2_code, prog_1_method_71_code, prog_1_method_35_code, prog_1_method_70_code, prog_1_method_30_code, prog_9_method_11_code, prog_9_method_9_code, prog_9_method_10_code, prog_9_method_12_code, prog_8_method_9_code, prog_8_method_10_code, prog_5_method_10_code, prog_1_method_44_code, prog_1_method_32_code, prog_1_method_33_code, prog_1_method_24_code, prog_1_method_25_code, prog_1_method_34_code, prog_5_method_6_code, prog_1_method_26_code, prog_1_method_67_code, prog_1_method_36_code, prog_1_method_37_code, prog_1_method_41_code, prog_15_method_11_code, prog_1_method_69_code, prog_1_method_72_code, prog_1_method_45_code, prog_1_method_68_code, prog_6_method_2_code, prog_8_method_19_code, prog_1_method_50_code, prog_8_method_20_code, prog_1_method_51_code, prog_8_method_21_code, prog_1_method_52_code, prog_8_method_17_code, prog_8_method_16_code, prog_1_method_23_code, prog_8_method_18_code, prog_8_method_22_code, prog_24_method_49_code, prog_8_method_13_code, prog_1_method_53_code, prog_8_method_23_code, prog_1_method_54_code, prog_8_method_8_code, prog_8_method_24_code, prog_1_method_55_code, prog_8_method_27_code, prog_8_method_28_code, prog_8_method_26_code, prog_1_method_57_code, prog_8_method_25_code, prog_1_method_56_code, method_6_code, code]
def xretL : List (Option FieldType) := [none, none, none, none, none, none, none, none, (.some .byte), (.some .int), (.some .boolean), (.some .int), none, (.some .char), (.some .char), none, none, (.some .boolean), (.some .boolean), none, (.some .boolean), none, none, none, (.some .long), (.some .boolean), (.some .boolean), (.some .boolean), (.some .boolean), (.some .boolean), (.some .boolean), (.some .int), (.some .boolean), (.some .boolean), (.some .int), (.some .boolean), (.some .boolean), (.some .boolean), (.some .boolean), (.some .boolean), (.some .boolean), (.some .boolean), none, (.some .int), (.some .int), (.some .int), (.some .int), (.some .int), (.some (.array .byte)), none, none, none, none, (.some (.object "java/lang/AbstractStringBuilder")), (.some (.object "java/lang/StringBuilder")), (.some (.object "java/lang/AbstractStringBuilder")), none, none, (.some .int), (.some .boolean), (.some .int), (.some (.object "java/lang/AbstractStringBuilder")), (.some (.object "java/lang/StringBuilder")), (.some .boolean), (.some (.object "java/lang/AbstractStringBuilder")), (.some (.object "java/lang/StringBuilder")), (.some (.array .byte)), (.some .int), (.some .int), none, (.some (.array .byte)), (.some (.array .byte)), none, none, (.some (.object "java/lang/String")), (.some (.object "java/lang/String")), (.some .int), (.some .int), none, (.some .int), (.some .boolean), none, (.some .int), (.some .int), (.some .boolean), none, (.some .int), (.some .boolean), (.some .int), (.some .int), (.some .int), (.some .int), (.some .int), (.some .int), (.some .int), (.some .int), (.some .int), none, (.some .int), (.some .int), (.some .int), (.some .int), (.some .int), (.some .int), (.some .int), (.some .int), (.some .int), (.some .int), (.some .int), (.some .int), (.some .int), (.some .int), (.some .int), (.some .int), (.some .int), (.some .int), (.some .boolean), (.some .int), (.some .boolean), (.some .boolean), none, (.some .int), (.some .int), (.some .int), (.some .int), (.some .boolean), (.some .int), (.some .boolean), none, none, none, none, (.some .int), (.some .int), (.some .int), (.some .int), (.some .boolean), (.some .int), (.some .boolean), (.some .int), none, (.some (.object "ProjectPlanner$Schedule")), (.some .int), (.some (.object "ProjectPlanner$Dates")), (.some .int), (.some .int), (.some .int), (.some .int), (.some .int), (.some .int), (.some .int), (.some .int), (.some .int), (.some .int), (.some .int), (.some .int), (.some .int), (.some .int), (.some .int), (.some .int), none, (.some .int), (.some .int), (.some .int), (.some .boolean), none, (.some .int), (.some .int), none, none, (.some .boolean), (.some .int), (.some .boolean), (.some .int), (.some .boolean), (.some .int), (.some .int), (.some .int), (.some .int), (.some .boolean), (.some .boolean), (.some .int), (.some .int), (.some .int), (.some .boolean), (.some .int), (.some .int), (.some .boolean), (.some .int), none, (.some .int), (.some .boolean), (.some .int), (.some .boolean), (.some .int), none, some .boolean]
def xmlL : List Nat := [1, 2, 1, 1, 1, 2, 1, 1, 1, 1, 1, 3, 2, 2, 2, 2, 3, 1, 1, 1, 1, 1, 1, 1, 4, 2, 2, 3, 3, 1, 2, 4, 2, 3, 4, 4, 2, 2, 3, 5, 3, 4, 3, 3, 2, 4, 6, 2, 3, 3, 2, 4, 3, 3, 2, 2, 5, 2, 4, 1, 7, 4, 2, 1, 2, 2, 1, 1, 1, 2, 5, 3, 5, 2, 1, 8, 2, 4, 2, 7, 3, 2, 3, 1, 2, 2, 2, 3, 2, 4, 4, 4, 4, 4, 4, 4, 4, 3, 1, 4, 4, 4, 4, 4, 4, 4, 4, 4, 5, 5, 5, 5, 5, 5, 5, 5, 4, 1, 3, 2, 2, 3, 3, 5, 2, 5, 6, 3, 5, 6, 5, 3, 5, 3, 6, 5, 4, 7, 7, 5, 4, 1, 1, 1, 1, 5, 4, 5, 4, 4, 3, 4, 3, 2, 2, 2, 2, 3, 2, 2, 1, 3, 2, 1, 6, 1, 2, 2, 1, 2, 3, 4, 4, 5, 3, 4, 4, 5, 3, 3, 3, 1, 3, 3, 3, 3, 4, 3, 4, 4, 3, 3, 2, 2, 3, 7, 8]
def xml (y : Nat) : Nat := xnth xmlL y
def xstaL : List Bool := [false, false, false, false, false, false, false, false, false, false, false, true, true, true, false, false, false, true, true, false, true, false, false, false, true, false, false, false, false, false, true, false, false, true, false, true, false, true, false, true, true, true, false, true, true, true, false, true, true, false, false, false, false, false, false, false, false, false, true, false, true, false, false, true, false, false, false, false, false, true, true, true, false, false, false, true, false, true, false, false, true, false, false, false, false, false, false, false, false, false, false, false, false, false, false, false, false, false, false, false, false, false, false, false, false, false, false, false, false, false, false, false, false, false, false, false, false, false, false, false, false, false, false, false, false, false, false, false, false, false, false, false, false, false, false, false, false, false, false, false, false, false, false, false, false, false, false, false, false, false, false, false, false, false, false, false, false, false, false, false, true, false, false, false, false, true, false, false, true, false, false, false, false, false, false, false, false, false, false, false, false, true, false, false, false, false, false, false, false, false, true, false, false, false, false, true, true]
def xnpL : List Nat := [0, 0, 0, 0, 0, 0, 0, 0, 0, 0, 0, 3, 2, 2, 1, 1, 1, 1, 1, 0, 1, 0, 0, 0, 1, 1, 1, 2, 2, 0, 2, 1, 1, 2, 1, 3, 1, 2, 2, 3, 2, 2, 0, 3, 2, 3, 1, 2, 2, 1, 1, 3, 2, 1, 1, 1, 1, 1, 1, 0, 3, 1, 1, 1, 1, 1, 0, 0, 0, 2, 3, 3, 2, 1, 0, 3, 1, 2, 1, 5, 2, 1, 0, 0, 1, 1, 1, 2, 1, 1, 1, 1, 1, 1, 1, 1, 1, 1, 0, 1, 1, 1, 1, 1, 1, 1, 1, 1, 2, 2, 2, 2, 2, 2, 2, 2, 3, 0, 2, 1, 1, 2, 2, 2, 1, 2, 1, 2, 1, 2, 2, 1, 2, 2, 1, 2, 3, 4, 3, 2, 1, 0, 0, 0, 0, 1, 3, 2, 1, 1, 1, 1, 0, 1, 1, 1, 1, 1, 1, 1, 1, 2, 1, 0, 0, 1, 1, 1, 1, 1, 2, 2, 3, 3, 2, 2, 1, 2, 2, 2, 2, 1, 0, 2, 2, 2, 1, 2, 2, 2, 2, 1, 1, 1, 1, 2, 1]
def xregL : List Bool := [true, true, true, true, true, true, true, true, false, false, false, false, false, false, false, false, false, false, false, false, false, false, false, false, false, false, false, false, false, false, false, false, false, false, false, false, false, false, false, false, false, false, true, true, false, false, false, false, false, false, false, false, false, false, false, false, false, false, false, false, false, false, false, false, false, false, false, false, false, false, false, false, false, false, false, true, false, true, false, false, true, false, false, false, false, false, false, false, false, true, true, true, true, true, true, true, true, true, false, true, true, true, true, true, true, true, true, true, true, true, true, true, true, true, true, true, true, false, true, false, false, false, false, true, false, true, true, false, false, false, false, false, false, false, false, false, false, false, false, false, false, false, false, false, false, false, false, false, false, false, false, false, false, false, false, false, false, false, false, false, false, false, false, false, true, false, false, false, false, false, false, false, false, false, false, false, false, false, false, false, false, false, false, false, false, false, false, false, false, false, false, false, false, false, false, true, true]
def xdepL : List Nat := [0, 1, 0, 1, 0, 1, 0, 1, 0, 1, 0, 0, 1, 2, 3, 0, 4, 0, 0, 1, 0, 1, 2, 3, 4, 5, 0, 6, 3, 3, 7, 0, 3, 7, 0, 4, 1, 0, 1, 6, 7, 8, 9, 0, 0, 1, 2, 0, 1, 3, 1, 1, 2, 4, 5, 6, 7, 8, 0, 0, 0, 4, 5, 0, 4, 5, 0, 0, 1, 0, 1, 2, 3, 4, 5, 9, 0, 4, 1, 2, 5, 0, 9, 0, 0, 1, 2, 2, 2, 3, 4, 5, 6, 7, 8, 9, 10, 11, 0, 3, 3, 4, 5, 6, 7, 8, 9, 10, 3, 4, 5, 6, 7, 8, 9, 10, 11, 0, 3, 0, 1, 0, 2, 4, 2, 5, 12, 1, 2, 2, 2, 3, 1, 2, 3, 2, 0, 1, 2, 3, 4, 5, 6, 4, 5, 2, 2, 3, 4, 1, 2, 3, 6, 6, 6, 5, 5, 6, 0, 5, 0, 6, 6, 5, 13, 0, 5, 6, 0, 1, 1, 2, 1, 2, 1, 2, 1, 2, 3, 3, 4, 0, 1, 5, 2, 3, 1, 2, 3, 0, 0, 1, 2, 0, 2, 6, 14]
def xhhL : List (List (Nat × Nat × Nat × Nat)) := [[], [], [], [], [], [], [], [], [], [], [], [], [], [], [], [], [], [], [], [], [], [], [], [], [], [], [], [], [], [], [], [], [], [], [], [], [], [], [], [], [], [], [], [], [], [], [], [], [], [], [], [], [], [], [], [], [], [], [], [], [], [], [], [], [], [], [], [], [], [], [], [], [], [], [], [], [], [], [], [], [], [], [], [], [], [], [], [], [], [], [], [], [], [], [], [], [], [], [], [], [], [], [], [], [], [], [], [], [], [], [], [], [], [], [], [], [], [], [], [], [], [], [], [], [], [], [], [], [], [], [], [], [], [], [], [], [], [], [], [], [], [], [], [], [], [], [], [], [], [], [], [], [], [], [], [], [], [], [], [], [], [], [], [], [], [], [], [], [], [], [], [], [], [], [], [], [], [], [], [], [], [], [], [], [], [], [], [], [], [], [], [], [], [], [], [], []]
def xget0 {α : Type} (d : α) : List α → Nat → α
  | [], _ => d
  | a :: _, 0 => a
  | _ :: r, i + 1 => xget0 d r i
def xoc (y : Nat) : Nat := (xget0 (0, "", "") xmet y).1
def xY (y : Nat) : MethodName := ⟨xcn (xoc y), (xget0 (0, "", "") xmet y).2.1, (xget0 (0, "", "") xmet y).2.2⟩
noncomputable def xCode (y : Nat) : ByteArray := xget0 ⟨#[]⟩ xcodeL y
def xRet (y : Nat) : Option FieldType := xget0 none xretL y
def xsta (y : Nat) : Bool := xget0 false xstaL y
def xnp (y : Nat) : Nat := xget0 0 xnpL y
def xreg (y : Nat) : Bool := xget0 false xregL y
def xdep (y : Nat) : Nat := xget0 0 xdepL y
def xhh (y : Nat) : List (Nat × Nat × Nat × Nat) := xget0 [] xhhL y
def xnor : List Nat := [0, 1, 2, 3, 4, 5, 6, 7, 8, 9, 10, 11, 12, 13, 14, 15, 16, 17, 18, 19, 20, 21, 22, 23, 24, 25, 26, 27, 28, 29, 30, 31, 32, 33, 34, 35, 36, 37, 38, 39, 40, 41, 42, 43, 44, 45, 46, 47, 48, 49, 50, 51, 52, 53, 54, 55, 56, 57, 58, 59, 60, 61, 62, 63, 64, 65, 66, 67, 68, 69, 70, 71, 72, 73, 74, 75, 76, 77, 78, 79, 80, 81, 82, 83, 84, 85, 86, 87, 88, 89, 90, 91, 92, 93, 94, 95, 96, 97, 98, 99, 100, 101, 102, 103, 104, 105, 106, 107, 108, 109, 110, 111, 112, 113, 114, 115, 116, 117, 118, 119, 120, 121, 122, 123, 124, 125, 126, 127, 128, 129, 130, 131, 132, 133, 134, 135, 136, 137, 138, 139, 140, 141, 142, 143, 144, 145, 146, 147, 148, 149, 150, 151, 152, 153, 154, 155, 156, 157, 158, 159, 160, 161, 162, 163, 164, 165, 166, 167, 168, 169, 170, 171, 172, 173, 174, 175, 176, 177, 178, 179, 180, 181, 182, 183, 184, 185, 186, 187, 188, 189, 190, 191, 192, 193, 194, 195]
def xhan : List Nat := []
set_option maxRecDepth 100000 in
theorem xcode_ok : ∀ q ∈ xnor, Cond.code (xY q) (xCode q) (xml q) (xRet q) ∈ xwA := xwA_map [67, 132, 158, 152, 221, 214, 253, 247, 304, 300, 314, 325, 320, 317, 310, 348, 296, 364, 367, 371, 378, 382, 361, 357, 401, 398, 407, 394, 411, 415, 389, 423, 427, 418, 436, 439, 449, 456, 453, 442, 431, 353, 59, 875, 600, 965, 962, 607, 973, 958, 1011, 1034, 1007, 950, 947, 943, 925, 922, 1058, 987, 1061, 1055, 1052, 1083, 1080, 1077, 1112, 1120, 1118, 1130, 1127, 1124, 1106, 1103, 1098, 916, 883, 888, 913, 893, 879, 561, 490, 658, 674, 670, 666, 694, 699, 662, 662, 662, 662, 662, 662, 662, 662, 653, 776, 721, 729, 729, 729, 729, 729, 729, 729, 729, 734, 734, 734, 734, 734, 734, 734, 734, 725, 742, 750, 762, 758, 647, 754, 746, 768, 738, 717, 592, 588, 596, 604, 584, 620, 616, 611, 629, 643, 639, 635, 625, 580, 785, 781, 793, 789, 802, 814, 810, 806, 826, 822, 818, 798, 830, 834, 838, 842, 846, 854, 850, 861, 858, 867, 872, 772, 571, 576, 568, 1163, 1168, 1174, 1160, 1185, 1180, 1195, 1190, 1208, 1204, 1200, 1216, 1223, 1231, 1228, 1212, 1243, 1238, 1254, 1260, 1249, 1274, 1277, 1270, 1265, 1285, 1281, 1154] _ rfl (fun _ => rfl)
set_option maxRecDepth 100000 in
theorem xcodeW_ok : ∀ q ∈ xhan, Cond.codeWith (xY q) (xCode q) (xml q) (xRet q) (xhh q) ∈ xwA := xwA_map [] _ rfl (fun _ => rfl)
def xini : List Nat := [0, 1, 2, 3, 4, 5, 6, 7, 8, 9, 10, 11, 12, 13, 14, 15, 16, 17, 18, 19, 20]
set_option maxRecDepth 100000 in
theorem xini_ok : ∀ q ∈ xini, Cond.initialized (xcn q) ∈ xwA := xwA_map [24, 25, 27, 26, 31, 30, 34, 33, 35, 37, 36, 23, 39, 22, 43, 42, 40, 44, 41, 47, 53] _ rfl (fun _ => rfl)
def xinik : List Nat := [1, 2, 10, 15, 17, 19, 21, 22, 24, 27, 42, 43, 46, 50]
set_option maxRecDepth 100000 in
theorem xinik_ok : ∀ q ∈ xinik, Cond.initialized (xcl q) ∈ xwA := xwA_map [23, 24, 34, 33, 25, 27, 26, 30, 31, 53, 29, 32, 35, 41] _ rfl (fun _ => rfl)
def xfl : List ((Nat × Nat) × Nat × Nat) := [((0, 9), 2, 3), ((0, 15), 2, 4), ((0, 19), 2, 5), ((0, 22), 2, 6), ((0, 25), 2, 7), ((0, 28), 2, 8), ((0, 31), 2, 9), ((0, 34), 2, 0), ((0, 38), 2, 1), ((0, 41), 2, 2), ((1, 11), 17, 0), ((1, 18), 17, 1), ((1, 26), 17, 2), ((2, 9), 19, 0), ((2, 15), 19, 1), ((3, 12), 21, 0), ((3, 24), 21, 3), ((3, 27), 21, 9), ((3, 31), 21, 8), ((3, 34), 21, 2), ((3, 40), 21, 1), ((3, 43), 19, 1), ((3, 46), 19, 0), ((3, 54), 21, 4), ((3, 58), 21, 5), ((3, 96), 21, 7), ((3, 99), 21, 6), ((4, 13), 24, 0), ((5, 11), 22, 0), ((6, 9), 10, 0), ((6, 15), 10, 1), ((6, 18), 10, 2), ((6, 21), 10, 3), ((6, 28), 10, 4), ((6, 32), 2, 2), ((6, 48), 2, 7), ((6, 54), 2, 6), ((6, 76), 2, 1), ((7, 12), 15, 0), ((7, 18), 15, 1), ((7, 26), 15, 2), ((7, 30), 15, 3), ((7, 33), 2, 2), ((7, 46), 2, 6), ((7, 62), 2, 0), ((7, 65), 10, 3), ((7, 71), 2, 7), ((7, 84), 2, 1), ((7, 94), 2, 4), ((8, 9), 46, 0), ((8, 15), 46, 1), ((11, 10), 1, 1), ((11, 19), 1, 2), ((11, 23), 1, 3), ((11, 27), 1, 4), ((11, 34), 1, 5), ((11, 41), 1, 6), ((11, 48), 1, 7), ((11, 54), 1, 8), ((11, 58), 21, 0), ((11, 80), 1, 0), ((11, 83), 19, 1), ((11, 108), 17, 2), ((11, 111), 2, 2), ((11, 120), 2, 1), ((11, 123), 2, 0), ((11, 163), 2, 4), ((11, 167), 2, 6), ((11, 170), 2, 7), ((11, 218), 10, 2), ((11, 221), 10, 3), ((11, 230), 10, 4), ((11, 238), 15, 1), ((11, 241), 15, 0), ((11, 245), 15, 3), ((12, 9), 2, 1), ((12, 15), 2, 2), ((12, 41), 21, 3), ((12, 60), 21, 7), ((12, 63), 2, 0), ((12, 70), 21, 4), ((12, 82), 2, 3), ((12, 86), 21, 6), ((12, 89), 2, 4), ((12, 98), 2, 5), ((12, 101), 2, 6), ((12, 104), 2, 7), ((12, 107), 2, 8), ((12, 117), 2, 9), ((16, 15), 50, 0), ((16, 22), 50, 1), ((16, 79), 50, 2), ((20, 7), 27, 2), ((20, 13), 27, 0), ((20, 23), 27, 1), ((20, 27), 27, 3)]
set_option maxRecDepth 100000 in
theorem xfl_ok : ∀ q ∈ xfl, Cond.fieldLink (xcn q.1.1) q.1.2 (xTf q.2.1 q.2.2).1 (xTf q.2.1 q.2.2).2.1 (xTf q.2.1 q.2.2).2.2.1 ∈ xwA := xwA_map [83, 85, 89, 91, 96, 101, 103, 69, 74, 80, 137, 138, 139, 160, 162, 174, 178, 188, 187, 177, 176, 164, 161, 180, 182, 186, 184, 225, 237, 255, 256, 257, 259, 262, 79, 97, 93, 77, 275, 277, 279, 280, 81, 92, 71, 260, 98, 75, 87, 1141, 1142, 460, 461, 462, 463, 464, 465, 466, 467, 175, 459, 163, 140, 82, 76, 72, 88, 95, 100, 258, 261, 263, 278, 276, 281, 73, 78, 179, 185, 70, 181, 84, 183, 86, 90, 94, 99, 102, 104, 1037, 1038, 1040, 703, 701, 702, 704] _ rfl (fun _ => rfl)
def xlay : List (Nat × Nat) := [(1, 8), (2, 0), (2, 1), (2, 2), (10, 4), (15, 2), (15, 3), (17, 1), (17, 2), (19, 1), (21, 1), (21, 2), (21, 3), (21, 4), (21, 5), (21, 6), (21, 7), (21, 8), (21, 9), (22, 1), (24, 0), (24, 1), (24, 2), (24, 3), (24, 4), (27, 3), (50, 0), (50, 1), (50, 2)]
def xlayF : List (Nat × Nat) := [(1, 0), (1, 1), (1, 2), (1, 3), (1, 4), (1, 5), (1, 6), (1, 7), (2, 3), (2, 4), (2, 5), (2, 6), (2, 7), (2, 8), (2, 9), (10, 0), (10, 1), (10, 2), (10, 3), (15, 0), (15, 1), (17, 0), (19, 0), (21, 0), (22, 0), (27, 0), (27, 1), (27, 2), (46, 0), (46, 1)]
set_option maxRecDepth 100000 in
theorem xlay_ok : ∀ q ∈ xlay, Cond.lays (xcl q.1) (xTf q.1 q.2).1 (xTf q.1 q.2).2.1 (xTf q.1 q.2).2.2.1 ∈ xwA := xwA_map [484, 105, 107, 109, 272, 286, 288, 143, 145, 167, 191, 193, 195, 197, 199, 201, 203, 205, 207, 240, 226, 228, 230, 232, 234, 711, 1041, 1043, 1047] _ rfl (fun _ => rfl)
set_option maxRecDepth 100000 in
theorem xlayF_ok : ∀ q ∈ xlayF, Cond.laysFinal (xcl q.1) (xTf q.1 q.2).1 (xTf q.1 q.2).2.1 (xTf q.1 q.2).2.2.1 ∈ xwA := xwA_map [468, 470, 472, 474, 476, 478, 480, 482, 111, 113, 115, 117, 119, 121, 123, 264, 266, 268, 270, 282, 284, 141, 165, 189, 238, 705, 707, 709, 1143, 1145] _ rfl (fun _ => rfl)
def xstt : List (String × String × String × xV) := [("ProjectPlanner$TokenKind", "END", "LProjectPlanner$TokenKind;", (42, .ref 4)), ("ProjectPlanner$CommandKind", "RULE", "LProjectPlanner$CommandKind;", (43, .ref 0)), ("java/lang/String", "COMPACT_STRINGS", "Z", (0, .int 1)), ("jdk/internal/util/Preconditions", "SIOOBE_FORMATTER", "Ljava/util/function/BiFunction;", (51, .ref 0)), ("ProjectPlanner$TokenKind", "WORD", "LProjectPlanner$TokenKind;", (42, .ref 0)), ("ProjectPlanner$TokenKind", "INVALID", "LProjectPlanner$TokenKind;", (42, .ref 3)), ("ProjectPlanner$TokenKind", "NUMBER", "LProjectPlanner$TokenKind;", (42, .ref 1)), ("ProjectPlanner$TokenKind", "SEMICOLON", "LProjectPlanner$TokenKind;", (42, .ref 2)), ("java/lang/Integer", "DigitOnes", "[B", (48, .ref 0)), ("java/lang/Integer", "DigitTens", "[B", (52, .ref 0))]
def xst0 : String × String × String × xV := ("", "", "", (0, .null))
def xgs : List ((Nat × Nat) × Nat) := [((3, 18), 0), ((3, 73), 7), ((3, 76), 5), ((3, 79), 4), ((3, 82), 6), ((4, 7), 1), ((8, 38), 2), ((8, 1053), 3), ((12, 45), 0), ((12, 125), 4), ((16, 18), 2), ((19, 83), 8), ((19, 87), 9)]
set_option maxRecDepth 100000 in
theorem xgs_ok : ∀ q ∈ xgs, Cond.fieldLink (xcn q.1.1) q.1.2 (xget0 xst0 xstt q.2).1 (xget0 xst0 xstt q.2).2.1 (xget0 xst0 xstt q.2).2.2.1 ∈ xwA := xwA_map [172, 385, 374, 372, 383, 223, 305, 321, 458, 445, 988, 1062, 1064] _ rfl (fun _ => rfl)
def xgsN : List ((Nat × Nat) × Nat) := []
def xldi : List ((Nat × Nat) × Int32) := [((13, 7), 2147483647), ((13, 56), 268435456), ((13, 59), 262144), ((13, 62), 4194304), ((15, 200), 2147483639), ((16, 38), 2147483631), ((16, 39), 2147483647), ((19, 265), 1431655765), ((19, 266), 858993459), ((19, 267), 252645135)]
set_option maxRecDepth 100000 in
theorem xldi_ok : ∀ q ∈ xldi, Cond.constant (xcn q.1.1) q.1.2 q.2 ∈ xwA := xwA_map [876, 1089, 1091, 1093, 967, 928, 929, 1232, 1233, 1234] _ rfl (fun _ => rfl)
def xldl : List ((Nat × Nat) × Nat) := []
set_option maxRecDepth 100000 in
theorem xldl_ok : ∀ q ∈ xldl, Cond.constantLong (xcn q.1.1) q.1.2 (Int64.ofNat q.2) ∈ xwA := xwA_map [] _ rfl (fun _ => rfl)
def xlds : List ((Nat × Nat) × Nat) := [((11, 52), 0), ((11, 62), 1), ((11, 70), 2), ((11, 72), 3), ((12, 32), 5), ((12, 50), 4), ((12, 93), 6), ((12, 120), 7), ((13, 36), 8), ((13, 51), 9), ((13, 57), 10), ((13, 60), 11), ((13, 63), 12)]
def xtxt : List String := ["", "project 1;resource crew 3;resource crane 1;", "task dig 3 2 0;task wall 5 2 1 after dig;task roof 2 1 1 after wall;", "task pipe 4 1 0 after dig;task paint 3 1 0 after wall pipe;", "project", "resource", "task", "after", "project ", "resource \x72", "task t", " after t", " t"]
def xnewL : List ((Nat × Nat) × Nat × Nat) := [((1, 9), 2, 10), ((3, 9), 19, 2), ((5, 9), 24, 5), ((7, 9), 10, 5), ((11, 7), 2, 10), ((11, 16), 17, 3), ((11, 31), 21, 10), ((11, 38), 22, 2), ((11, 45), 15, 4), ((13, 19), 1, 9), ((13, 34), 50, 4), ((13, 131), 27, 4), ((18, 18), 46, 4)]
set_option maxRecDepth 100000 in
theorem xnew1_ok : ∀ q ∈ xnewL, Cond.classLink (xcn q.1.1) q.1.2 (xcl q.2.1) ∈ xwA := xwA_map [134, 154, 216, 249, 63, 128, 148, 210, 243, 55, 917, 649, 1099] _ rfl (fun _ => rfl)
set_option maxRecDepth 100000 in
theorem xnew2_ok : ∀ q ∈ xnewL, Cond.instantiable (xcl q.2.1) q.2.2 ∈ xwA := xwA_map [64, 155, 218, 250, 64, 129, 149, 211, 244, 56, 918, 650, 1100] _ rfl (fun _ => rfl)
def xarr : List ((Nat × Nat) × Nat) := [((1, 9), 18), ((5, 9), 23), ((11, 7), 25)]
set_option maxRecDepth 100000 in
theorem xarr_ok : ∀ q ∈ xarr, Cond.classLink (xcn q.1.1) q.1.2 (match xae q.2 with
  | some t => xcl t.1
  | none => "") ∈ xwA := xwA_map [134, 216, 63] _ rfl (fun _ => rfl)
/-- calls: class and index; manner (0 instance, 1 static, 2 static of a nest mate, 3 constructor of a nest mate, 4 constructor, 5 inherited, 6 super, 7 overriding, 8 static with rows that catch), method, kind of the receiver -/
def xcal : List ((Nat × Nat) × Nat × Nat × Nat) := [((0, 50), 0, 121, 2), ((0, 54), 1, 44, 0), ((0, 59), 0, 149, 2), ((0, 63), 2, 37, 0), ((0, 67), 0, 136, 2), ((0, 71), 1, 181, 0), ((0, 76), 0, 176, 2), ((0, 79), 0, 38, 2), ((0, 82), 0, 177, 2), ((0, 85), 0, 84, 2), ((0, 89), 0, 119, 2), ((0, 92), 0, 179, 2), ((0, 95), 0, 186, 2), ((0, 98), 0, 189, 2), ((0, 102), 1, 190, 0), ((1, 17), 3, 0, 2), ((1, 22), 0, 81, 2), ((1, 29), 1, 47, 0), ((2, 19), 0, 15, 19), ((2, 23), 0, 9, 46), ((2, 28), 0, 14, 46), ((3, 11), 3, 2, 19), ((3, 37), 0, 22, 21), ((3, 50), 1, 17, 0), ((3, 61), 2, 18, 0), ((3, 64), 0, 19, 21), ((3, 67), 2, 20, 0), ((3, 70), 0, 21, 21), ((3, 85), 2, 24, 0), ((3, 89), 0, 25, 21), ((3, 93), 0, 26, 21), ((5, 17), 3, 4, 24), ((6, 24), 0, 128, 10), ((6, 37), 0, 129, 10), ((6, 41), 0, 130, 10), ((6, 44), 0, 127, 2), ((6, 51), 0, 38, 2), ((6, 57), 1, 44, 0), ((6, 63), 1, 47, 0), ((6, 66), 2, 37, 0), ((6, 79), 0, 150, 2), ((7, 11), 3, 6, 10), ((7, 22), 0, 131, 10), ((7, 38), 0, 134, 15), ((7, 42), 0, 139, 15), ((7, 49), 1, 44, 0), ((7, 55), 0, 127, 2), ((7, 59), 0, 133, 15), ((7, 68), 0, 132, 10), ((7, 74), 0, 135, 15), ((7, 77), 0, 138, 15), ((7, 81), 0, 38, 2), ((7, 87), 0, 137, 2), ((7, 91), 0, 121, 2), ((7, 97), 0, 146, 15), ((7, 101), 0, 147, 15), ((8, 54), 1, 71, 0), ((8, 335), 0, 8, 46), ((8, 489), 4, 72, 46), ((8, 492), 0, 10, 46), ((8, 495), 1, 13, 0), ((8, 549), 7, 68, 50), ((8, 552), 0, 66, 50), ((8, 1047), 0, 59, 50), ((8, 1059), 1, 11, 0), ((10, 9), 1, 12, 0), ((11, 9), 3, 0, 2), ((11, 18), 4, 1, 17), ((11, 33), 3, 3, 21), ((11, 40), 4, 5, 22), ((11, 47), 3, 7, 15), ((11, 64), 0, 16, 19), ((11, 74), 1, 41, 0), ((11, 93), 0, 78, 19), ((11, 104), 0, 81, 2), ((11, 126), 0, 85, 1), ((11, 160), 0, 120, 1), ((11, 173), 0, 121, 2), ((11, 177), 0, 182, 2), ((11, 181), 0, 38, 2), ((11, 185), 0, 143, 1), ((11, 215), 0, 177, 2), ((11, 224), 0, 158, 10), ((11, 234), 0, 141, 1), ((11, 246), 1, 160, 0), ((11, 249), 0, 146, 15), ((11, 253), 0, 147, 15), ((11, 266), 0, 151, 10), ((11, 270), 0, 145, 15), ((11, 273), 0, 148, 15), ((11, 276), 1, 165, 0), ((11, 279), 0, 166, 1), ((11, 285), 1, 168, 0), ((11, 288), 0, 170, 2), ((11, 291), 0, 140, 15), ((11, 294), 0, 169, 17), ((11, 299), 0, 172, 2), ((11, 304), 0, 174, 2), ((11, 307), 0, 179, 2), ((11, 312), 0, 180, 2), ((11, 317), 0, 184, 2), ((11, 322), 0, 186, 2), ((11, 327), 0, 187, 2), ((11, 330), 0, 193, 2), ((11, 336), 0, 191, 2), ((11, 359), 0, 9, 46), ((11, 365), 0, 14, 46), ((11, 369), 0, 84, 2), ((11, 374), 0, 119, 2), ((11, 387), 0, 131, 10), ((12, 18), 0, 23, 21), ((12, 23), 1, 30, 0), ((12, 29), 1, 33, 0), ((12, 34), 0, 25, 21), ((12, 38), 1, 40, 0), ((12, 52), 0, 27, 21), ((12, 56), 0, 28, 21), ((12, 66), 0, 29, 21), ((12, 74), 0, 31, 2), ((12, 78), 0, 32, 21), ((12, 95), 0, 34, 2), ((12, 110), 1, 35, 0), ((12, 114), 1, 39, 0), ((12, 122), 0, 22, 21), ((12, 128), 0, 36, 21), ((12, 131), 0, 38, 2), ((12, 134), 0, 26, 21), ((13, 8), 0, 9, 46), ((13, 14), 0, 14, 46), ((13, 18), 0, 76, 1), ((13, 24), 1, 77, 0), ((13, 30), 0, 79, 1), ((13, 38), 4, 57, 50), ((13, 41), 1, 43, 0), ((13, 45), 0, 62, 50), ((13, 48), 0, 65, 50), ((13, 53), 0, 54, 50), ((13, 65), 0, 74, 50), ((13, 69), 0, 83, 1), ((13, 72), 0, 117, 1), ((13, 75), 0, 171, 1), ((13, 79), 0, 124, 1), ((13, 82), 0, 173, 1), ((13, 86), 0, 175, 1), ((13, 89), 0, 87, 1), ((13, 93), 0, 178, 1), ((13, 96), 0, 183, 1), ((13, 99), 0, 185, 1), ((13, 102), 0, 122, 1), ((13, 105), 1, 44, 0), ((13, 110), 0, 188, 1), ((13, 113), 0, 192, 1), ((13, 116), 0, 194, 1), ((13, 119), 4, 42, 1), ((13, 120), 1, 75, 0), ((13, 124), 1, 80, 0), ((13, 128), 0, 82, 1), ((13, 133), 4, 97, 27), ((13, 136), 0, 164, 27), ((13, 140), 0, 167, 1), ((13, 143), 0, 126, 27), ((13, 146), 1, 195, 0), ((15, 194), 1, 44, 0), ((16, 32), 0, 9, 46), ((16, 40), 0, 8, 46), ((16, 43), 7, 55, 50), ((16, 83), 0, 59, 50), ((16, 100), 0, 49, 50), ((16, 104), 0, 46, 50), ((16, 108), 1, 48, 0), ((16, 114), 1, 45, 0), ((16, 191), 1, 63, 0), ((16, 208), 0, 52, 50), ((16, 245), 1, 58, 0), ((16, 248), 1, 60, 0), ((16, 397), 0, 50, 50), ((16, 399), 0, 51, 46), ((17, 304), 1, 47, 0), ((17, 339), 1, 70, 0), ((17, 343), 1, 69, 0), ((18, 7), 4, 56, 50), ((18, 23), 0, 54, 50), ((18, 29), 6, 53, 50), ((18, 50), 6, 64, 50), ((18, 53), 6, 61, 50), ((18, 137), 4, 73, 46), ((18, 343), 6, 67, 50), ((20, 17), 0, 83, 1), ((20, 30), 0, 89, 27), ((20, 30), 0, 90, 27), ((20, 30), 0, 91, 27), ((20, 30), 0, 92, 27), ((20, 30), 0, 93, 27), ((20, 30), 0, 94, 27), ((20, 30), 0, 95, 27), ((20, 30), 0, 96, 27), ((20, 34), 0, 88, 1), ((20, 37), 1, 44, 0), ((20, 43), 0, 86, 1), ((20, 46), 0, 87, 1), ((20, 50), 0, 100, 27), ((20, 50), 0, 101, 27), ((20, 50), 0, 102, 27), ((20, 50), 0, 103, 27), ((20, 50), 0, 104, 27), ((20, 50), 0, 105, 27), ((20, 50), 0, 106, 27), ((20, 50), 0, 107, 27), ((20, 53), 1, 47, 0), ((20, 56), 0, 108, 27), ((20, 56), 0, 109, 27), ((20, 56), 0, 110, 27), ((20, 56), 0, 111, 27), ((20, 56), 0, 112, 27), ((20, 56), 0, 113, 27), ((20, 56), 0, 114, 27), ((20, 56), 0, 115, 27), ((20, 60), 0, 118, 27), ((20, 63), 0, 122, 1), ((20, 66), 0, 117, 1), ((20, 69), 0, 123, 27), ((20, 72), 0, 124, 1), ((20, 75), 0, 99, 27), ((20, 78), 0, 116, 27), ((20, 82), 0, 125, 27), ((20, 85), 0, 98, 1), ((20, 88), 0, 126, 27), ((20, 91), 0, 142, 1), ((20, 94), 0, 144, 1), ((20, 97), 0, 152, 1), ((20, 100), 0, 153, 1), ((20, 103), 0, 154, 1), ((20, 106), 0, 155, 1), ((20, 109), 0, 156, 1), ((20, 112), 0, 157, 1), ((20, 115), 0, 159, 1), ((20, 118), 0, 161, 1), ((20, 119), 0, 162, 1), ((20, 122), 0, 163, 1)]
def xcal0 : List ((Nat × Nat) × Nat × Nat × Nat) := xcal.filter (fun q => Nat.beq q.2.1 0)
def xcal1 : List ((Nat × Nat) × Nat × Nat × Nat) := xcal.filter (fun q => Nat.beq q.2.1 1)
def xcal2 : List ((Nat × Nat) × Nat × Nat × Nat) := xcal.filter (fun q => Nat.beq q.2.1 2)
def xcal3 : List ((Nat × Nat) × Nat × Nat × Nat) := xcal.filter (fun q => Nat.beq q.2.1 3)
def xcal4 : List ((Nat × Nat) × Nat × Nat × Nat) := xcal.filter (fun q => Nat.beq q.2.1 4)
def xcal5 : List ((Nat × Nat) × Nat × Nat × Nat) := xcal.filter (fun q => Nat.beq q.2.1 5)
def xcal6 : List ((Nat × Nat) × Nat × Nat × Nat) := xcal.filter (fun q => Nat.beq q.2.1 6)
def xcal7 : List ((Nat × Nat) × Nat × Nat × Nat) := xcal.filter (fun q => Nat.beq q.2.1 7)
def xcal8 : List ((Nat × Nat) × Nat × Nat × Nat) := xcal.filter (fun q => Nat.beq q.2.1 8)
set_option maxRecDepth 100000 in
theorem xcalL0 : ∀ q ∈ xcal0, Cond.methodLink (xcn q.1.1) q.1.2 (xY q.2.2.1) ∈ xwA := xwA_map [644, 823, 640, 1205, 1217, 1218, 1175, 1186, 1224, 1261, 1271, 1169, 345, 297, 307, 358, 368, 379, 395, 404, 585, 593, 601, 589, 597, 819, 581, 608, 622, 612, 613, 617, 626, 632, 630, 636, 648, 811, 807, 301, 311, 1108, 1121, 293, 910, 558, 667, 755, 764, 1225, 695, 790, 1201, 851, 782, 863, 868, 815, 799, 803, 573, 1171, 577, 1165, 1182, 1192, 1213, 1220, 1240, 1251, 1257, 1282, 1267, 402, 403, 671, 759, 794, 354, 428, 391, 408, 412, 420, 424, 433, 444, 446, 450, 457, 885, 889, 880, 890, 1049, 1074, 1088, 1095, 1155, 1156, 1157, 1176, 1177, 1187, 1196, 1197, 1209, 1235, 1244, 1246, 1262, 1278, 487, 769, 565, 714, 927, 930, 983, 955, 959, 1004, 1008, 1031, 944, 655, 659, 659, 659, 659, 659, 659, 659, 659, 696, 663, 691, 726, 726, 726, 726, 726, 726, 726, 726, 731, 731, 731, 731, 731, 731, 731, 731, 747, 751, 739, 743, 765, 718, 722, 735, 773, 777, 778, 786, 795, 827, 831, 835, 839, 843, 847, 855, 864, 869] _ rfl (fun _ => rfl)
set_option maxRecDepth 100000 in
theorem xcalL1 : ∀ q ∈ xcal1, Cond.methodLink (xcn q.1.1) q.1.2 (xY q.2.2.1) ∈ xwA := xwA_map [1255, 1229, 1275, 1170, 362, 598, 605, 631, 1122, 315, 323, 318, 351, 859, 569, 1161, 387, 416, 429, 437, 440, 886, 873, 1245, 914, 877, 1152, 966, 971, 963, 1081, 1056, 1059, 981, 1125, 1128, 700, 730] _ rfl (fun _ => rfl)
set_option maxRecDepth 100000 in
theorem xcalL4 : ∀ q ∈ xcal4, Cond.methodLink (xcn q.1.1) q.1.2 (xY q.2.2.1) ∈ xwA := xwA_map [1104, 130, 212, 920, 57, 651, 923, 1101] _ rfl (fun _ => rfl)
set_option maxRecDepth 100000 in
theorem xcalL6 : ∀ q ∈ xcal6, Cond.methodLink (xcn q.1.1) q.1.2 (xY q.2.2.1) ∈ xwA := xwA_map [948, 1078, 1053, 1119] _ rfl (fun _ => rfl)
set_option maxRecDepth 100000 in
theorem xcalL8 : ∀ q ∈ xcal8, Cond.methodLink (xcn q.1.1) q.1.2 (xY q.2.2.1) ∈ xwA := xwA_map [] _ rfl (fun _ => rfl)
set_option maxRecDepth 100000 in
theorem xcalI0 : ∀ q ∈ xcal0, Cond.instanceMethod (xY q.2.2.1) ∈ xwA := xwA_map [645, 824, 641, 1207, 451, 1202, 672, 760, 1214, 1252, 1273, 559, 346, 298, 308, 359, 370, 381, 396, 405, 587, 595, 603, 590, 451, 820, 582, 610, 624, 590, 615, 618, 628, 634, 451, 637, 645, 812, 808, 302, 312, 1109, 984, 294, 911, 559, 669, 757, 645, 1226, 451, 792, 1202, 852, 784, 812, 808, 816, 800, 804, 575, 1172, 578, 1166, 1183, 1193, 1214, 1221, 1241, 1252, 1258, 1283, 1268, 298, 308, 672, 760, 582, 355, 396, 392, 409, 413, 421, 425, 434, 359, 447, 451, 405, 298, 308, 881, 891, 1050, 1075, 945, 1096, 656, 740, 1158, 766, 1178, 1188, 692, 1198, 1210, 1236, 752, 1247, 1263, 1279, 488, 770, 566, 715, 298, 302, 984, 957, 961, 1006, 1010, 1032, 945, 656, 660, 660, 660, 660, 660, 660, 660, 660, 697, 664, 692, 727, 727, 727, 727, 727, 727, 727, 727, 732, 732, 732, 732, 732, 732, 732, 732, 748, 752, 740, 744, 766, 719, 723, 736, 774, 715, 779, 787, 796, 828, 832, 836, 840, 844, 848, 856, 865, 870] _ rfl (fun _ => rfl)
set_option maxRecDepth 100000 in
theorem xcalI3 : ∀ q ∈ xcal3, Cond.instanceMethod (xY q.2.2.1) ∈ xwA := xwA_map [66, 157, 220, 252, 66, 151, 246] _ rfl (fun _ => rfl)
set_option maxRecDepth 100000 in
theorem xcalI4 : ∀ q ∈ xcal4, Cond.instanceMethod (xY q.2.2.1) ∈ xwA := xwA_map [1105, 131, 213, 921, 58, 652, 924, 1102] _ rfl (fun _ => rfl)
set_option maxRecDepth 100000 in
theorem xcalI5 : ∀ q ∈ xcal5, Cond.instanceMethod (xY q.2.2.1) ∈ xwA := xwA_map [] _ rfl (fun _ => rfl)
set_option maxRecDepth 100000 in
theorem xcalI6 : ∀ q ∈ xcal6, Cond.instanceMethod (xY q.2.2.1) ∈ xwA := xwA_map [939, 1079, 1054, 1114] _ rfl (fun _ => rfl)
set_option maxRecDepth 100000 in
theorem xcalI7 : ∀ q ∈ xcal7, Cond.instanceMethod (xY q.2.2.1) ∈ xwA := xwA_map [1117, 942] _ rfl (fun _ => rfl)
set_option maxRecDepth 100000 in
theorem xcalS1 : ∀ q ∈ xcal1, Cond.static (xY q.2.2.1) ∈ xwA := xwA_map [599, 1230, 1276, 606, 363, 599, 606, 599, 1123, 316, 324, 319, 352, 860, 570, 1162, 388, 417, 430, 438, 441, 887, 874, 599, 915, 878, 1153, 599, 972, 964, 1082, 1057, 1060, 606, 1126, 1129, 599, 606] _ rfl (fun _ => rfl)
set_option maxRecDepth 100000 in
theorem xcalS2 : ∀ q ∈ xcal2, Cond.static (xY q.2.2.1) ∈ xwA := xwA_map [455, 366, 377, 400, 455] _ rfl (fun _ => rfl)
set_option maxRecDepth 100000 in
theorem xcalS8 : ∀ q ∈ xcal8, Cond.static (xY q.2.2.1) ∈ xwA := xwA_map [] _ rfl (fun _ => rfl)
set_option maxRecDepth 100000 in
theorem xcalV0 : ∀ q ∈ xcal0, Cond.selects (xcl q.2.2.2) (xY q.2.2.1) (xY q.2.2.1) ∈ xwA := xwA_map [646, 825, 642, 20, 452, 1203, 673, 761, 1215, 1253, 21, 560, 347, 299, 309, 360, 4, 5, 397, 406, 8, 9, 10, 591, 452, 821, 583, 11, 13, 591, 12, 619, 14, 15, 452, 638, 646, 813, 809, 303, 313, 1111, 986, 295, 912, 560, 16, 17, 646, 1227, 452, 19, 1203, 853, 18, 813, 809, 817, 801, 805, 7, 1173, 579, 1167, 1184, 1194, 1215, 1222, 1242, 1253, 1259, 1284, 1269, 299, 309, 673, 761, 583, 356, 397, 393, 410, 414, 422, 426, 435, 360, 448, 452, 406, 299, 309, 882, 892, 1051, 1076, 946, 1097, 657, 741, 1159, 767, 1179, 1189, 693, 1199, 1211, 1237, 753, 1248, 1264, 1280, 489, 771, 567, 716, 299, 303, 986, 0, 1, 2, 3, 1033, 946, 657, 661, 661, 661, 661, 661, 661, 661, 661, 698, 665, 693, 728, 728, 728, 728, 728, 728, 728, 728, 733, 733, 733, 733, 733, 733, 733, 733, 749, 753, 741, 745, 767, 720, 724, 737, 775, 716, 780, 788, 797, 829, 833, 837, 841, 845, 849, 857, 866, 871] _ rfl (fun _ => rfl)
set_option maxRecDepth 100000 in
theorem xcalP6 : ∀ q ∈ xcal6, Cond.superclass (xcn q.1.1) (xY q.2.2.1).cls ∈ xwA := xwA_map [949, 949, 949, 949] _ rfl (fun _ => rfl)
set_option maxRecDepth 100000 in
theorem xcalM6 : ∀ q ∈ xcal6, Cond.sameMethod (xY q.2.2.1).cls (xY q.2.2.1).cls (xY q.2.2.1).name (xY q.2.2.1).desc ∈ xwA := xwA_map [940, 1294, 1293, 1115] _ rfl (fun _ => rfl)
end
section
/-! kinds of things (wip/p65/kinds.py writes this): a kind's fields: (tag: 0 int, 1 long, 2 the same number, 3 a fixed number, 4 a number that is stored, 5 the number and so many more; the kind referred to; the number) -/
def xfd (k : Nat) : List (Nat × Nat × Nat) := match k with
  | 1 => [(3, 2, 9), (3, 2, 0), (3, 17, 0), (3, 25, 0), (3, 26, 0), (3, 21, 0), (3, 22, 0), (3, 15, 0), (4, 46, 0)]
  | 2 => [(0, 0, 0), (0, 0, 0), (0, 0, 0), (2, 3, 0), (2, 4, 0), (2, 5, 0), (2, 6, 0), (2, 7, 0), (2, 8, 0), (2, 9, 0)]
  | 10 => [(2, 11, 0), (2, 12, 0), (2, 13, 0), (2, 14, 0), (0, 0, 0)]
  | 15 => [(2, 10, 0), (2, 16, 0), (0, 0, 0), (0, 0, 0)]
  | 17 => [(2, 18, 0), (0, 0, 0), (0, 0, 0)]
  | 19 => [(2, 20, 0), (0, 0, 0)]
  | 21 => [(2, 19, 0), (0, 0, 0), (0, 0, 0), (4, 42, 0), (1, 0, 0), (0, 0, 0), (1, 0, 0), (0, 0, 0), (0, 0, 0), (0, 0, 0)]
  | 22 => [(2, 23, 0), (0, 0, 0)]
  | 24 => [(4, 43, 0), (1, 0, 0), (1, 0, 0), (1, 0, 0), (0, 0, 0)]
  | 27 => [(3, 1, 0), (0, 0, 0), (2, 28, 0), (0, 0, 0)]
  | 46 => [(2, 47, 0), (0, 0, 0)]
  | 50 => [(4, 49, 0), (0, 0, 0), (0, 0, 0)]
  | _ => []
def xra (k : Nat) : Bool := match k with
  | 18 => true
  | 23 => true
  | 25 => true
  | _ => false
/-- the components of an array: 1 int, 2 byte, 3 boolean, 4 long, 5 double, 6 references; 0: no array -/
def xtc (k : Nat) : Nat := match k with
  | 3 => 4
  | 4 => 1
  | 5 => 4
  | 6 => 1
  | 7 => 1
  | 8 => 1
  | 9 => 1
  | 11 => 1
  | 12 => 1
  | 13 => 1
  | 14 => 1
  | 16 => 1
  | 18 => 6
  | 20 => 2
  | 23 => 6
  | 25 => 6
  | 26 => 3
  | 28 => 1
  | 29 => 3
  | 41 => 1
  | 47 => 2
  | 48 => 2
  | 49 => 2
  | 52 => 2
  | _ => 0
/-- things that may change: not the constants, there from the start -/
def xmut (k o : Nat) : Bool := match k with
  | 41 => false
  | 42 => false
  | 43 => false
  | 44 => false
  | 45 => false
  | 48 => false
  | 52 => false
  | 46 => Nat.ble 13 o
  | 47 => Nat.ble 13 o
  | _ => true
/-- kinds whose references are read without a look: only of things of a list -/
def xstrk (k : Nat) : Bool := match k with
  | 1 => true
  | 2 => true
  | 10 => true
  | 15 => true
  | 17 => true
  | 18 => true
  | 19 => true
  | 21 => true
  | 22 => true
  | 23 => true
  | 24 => true
  | 25 => true
  | _ => false
def xsl (i : Nat) : List (Nat × Nat) := match i with
  | 0 => [(1, 0), (2, 0), (2, 1), (2, 2), (2, 3), (2, 4), (2, 5), (2, 6), (2, 7), (2, 8), (2, 9), (10, 0), (15, 0), (17, 0), (19, 0), (21, 0), (22, 0), (24, 0), (24, 1), (24, 2), (24, 3), (24, 4), (24, 5), (24, 6), (24, 7), (24, 8), (24, 9), (24, 10), (24, 11), (24, 12), (24, 13), (24, 14), (24, 15), (24, 16), (24, 17), (24, 18), (24, 19), (24, 20), (24, 21), (24, 22), (24, 23), (24, 24), (24, 25), (24, 26), (24, 27), (24, 28), (24, 29), (18, 0), (23, 0), (25, 0)]
  | 1 => [(19, 1)]
  | 2 => [(21, 1), (19, 1), (2, 9)]
  | _ => []
end
section
/-! the tables of the methods (wip/p65/gen.py, blocks.py, mk.py write this) -/
/-- ProjectPlanner$Plan <init> ()V -/
noncomputable def T_P_init : List xE := [(0, .aload_n 0, [], 0), (1, .invokespecial 3, [9999, 1, 0, 0, 0, 5], 0), (4, .aload_n 0, [], 0), (5, .iconst 3, [], 3), (6, .newarray .long, [3], 0), (8, .putfield 9, [2, 3, 12, 3, 0], 0), (11, .aload_n 0, [], 0), (12, .iconst 3, [], 3), (13, .newarray .int, [4], 0), (15, .putfield 15, [2, 4, 12, 4, 0], 0), (18, .aload_n 0, [], 0), (19, .bipush 12, [], 12), (21, .newarray .long, [5], 0), (23, .putfield 19, [2, 5, 12, 5, 0], 0), (26, .aload_n 0, [], 0), (27, .bipush 12, [], 12), (29, .newarray .int, [6], 0), (31, .putfield 22, [2, 6, 12, 6, 0], 0), (34, .aload_n 0, [], 0), (35, .bipush 12, [], 12), (37, .newarray .int, [7], 0), (39, .putfield 25, [2, 7, 12, 7, 0], 0), (42, .aload_n 0, [], 0), (43, .bipush 12, [], 12), (45, .newarray .int, [8], 0), (47, .putfield 28, [2, 8, 12, 8, 0], 0), (50, .aload_n 0, [], 0), (51, .bipush 36, [], 36), (53, .newarray .int, [9], 0), (55, .putfield 31, [2, 9, 12, 9, 0], 0), (58, .return_, [], 0)]
/-- ProjectPlanner$History <init> ()V -/
noncomputable def T_H_init : List xE := [(0, .aload_n 0, [], 0), (1, .invokespecial 3, [9999, 1, 0, 0, 0, 5], 0), (4, .aload_n 0, [], 0), (5, .bipush 6, [], 6), (7, .anewarray 9, [18], 0), (10, .putfield 11, [17, 0, 12, 18, 0], 0), (13, .iconst 0, [], 0), (14, .istore_n 1, [], 0), (15, .nop, [], 0), (15, .iload_n 1, [], 0), (16, .bipush 6, [], 6), (18, .if_icmp .ge 22, [21], 0), (21, .aload_n 0, [], 0), (22, .getfield 11, [17, 0, 12, 18, 0], 0), (25, .iload_n 1, [], 0), (26, .new 9, [2, 10, 0], 0), (29, .dup, [], 0), (30, .invokespecial 17, [0, 1, 0, 0, 2, 0], 0), (33, .aastore, [18, 2, 1], 0), (34, .iinc 1 1, [], 1), (37, .goto (-22), [8], 0), (40, .return_, [], 0)]
/-- ProjectPlanner$Input <init> ()V -/
noncomputable def T_I_init : List xE := [(0, .aload_n 0, [], 0), (1, .invokespecial 3, [9999, 1, 0, 0, 0, 5], 0), (4, .aload_n 0, [], 0), (5, .sipush 600, [], 600), (8, .newarray .byte, [20], 0), (10, .putfield 9, [19, 0, 12, 20, 0], 0), (13, .return_, [], 0)]
/-- ProjectPlanner$Tokens <init> ()V -/
noncomputable def T_T_init : List xE := [(0, .aload_n 0, [], 0), (1, .invokespecial 3, [9999, 1, 0, 0, 0, 5], 0), (4, .aload_n 0, [], 0), (5, .new 9, [19, 2, 0], 0), (8, .dup, [], 0), (9, .invokespecial 11, [2, 1, 0, 0, 19, 0], 0), (12, .putfield 12, [21, 0, 12, 19, 0], 0), (15, .aload_n 0, [], 0), (16, .getstatic 18, [42, 4], 0), (19, .putfield 24, [21, 3, 14, 42, 0], 0), (22, .aload_n 0, [], 0), (23, .iconst (-1), [], (-1)), (24, .putfield 27, [21, 9, 0, 0, 0], 0), (27, .return_, [], 0)]
/-- ProjectPlanner$Command <init> ()V -/
noncomputable def T_K_init : List xE := [(0, .aload_n 0, [], 0), (1, .invokespecial 1, [9999, 1, 0, 0, 0, 5], 0), (4, .aload_n 0, [], 0), (5, .getstatic 7, [43, 0], 0), (8, .putfield 13, [24, 0, 14, 43, 0], 0), (11, .return_, [], 0)]
/-- ProjectPlanner$Script <init> ()V -/
noncomputable def T_R_init : List xE := [(0, .aload_n 0, [], 0), (1, .invokespecial 3, [9999, 1, 0, 0, 0, 5], 0), (4, .aload_n 0, [], 0), (5, .bipush 30, [], 30), (7, .anewarray 9, [23], 0), (10, .putfield 11, [22, 0, 12, 23, 0], 0), (13, .iconst 0, [], 0), (14, .istore_n 1, [], 0), (15, .nop, [], 0), (15, .iload_n 1, [], 0), (16, .bipush 30, [], 30), (18, .if_icmp .ge 22, [21], 0), (21, .aload_n 0, [], 0), (22, .getfield 11, [22, 0, 12, 23, 0], 0), (25, .iload_n 1, [], 0), (26, .new 9, [24, 5, 0], 0), (29, .dup, [], 0), (30, .invokespecial 17, [4, 1, 0, 0, 24, 0], 0), (33, .aastore, [23, 24, 0], 0), (34, .iinc 1 1, [], 1), (37, .goto (-22), [8], 0), (40, .return_, [], 0)]
/-- ProjectPlanner$Dates <init> ()V -/
noncomputable def T_D_init : List xE := [(0, .aload_n 0, [], 0), (1, .invokespecial 3, [9999, 1, 0, 0, 0, 5], 0), (4, .aload_n 0, [], 0), (5, .bipush 12, [], 12), (7, .newarray .int, [11], 0), (9, .putfield 9, [10, 0, 12, 11, 0], 0), (12, .aload_n 0, [], 0), (13, .bipush 12, [], 12), (15, .newarray .int, [12], 0), (17, .putfield 15, [10, 1, 12, 12, 0], 0), (20, .aload_n 0, [], 0), (21, .bipush 12, [], 12), (23, .newarray .int, [13], 0), (25, .putfield 18, [10, 2, 12, 13, 0], 0), (28, .aload_n 0, [], 0), (29, .bipush 12, [], 12), (31, .newarray .int, [14], 0), (33, .putfield 21, [10, 3, 12, 14, 0], 0), (36, .return_, [], 0)]
/-- ProjectPlanner$Schedule <init> ()V -/
noncomputable def T_S_init : List xE := [(0, .aload_n 0, [], 0), (1, .invokespecial 3, [9999, 1, 0, 0, 0, 5], 0), (4, .aload_n 0, [], 0), (5, .new 9, [10, 5, 0], 0), (8, .dup, [], 0), (9, .invokespecial 11, [6, 1, 0, 0, 10, 0], 0), (12, .putfield 12, [15, 0, 12, 10, 0], 0), (15, .aload_n 0, [], 0), (16, .bipush 12, [], 12), (18, .newarray .int, [16], 0), (20, .putfield 18, [15, 1, 12, 16, 0], 0), (23, .return_, [], 0)]
/-- java/lang/String coder ()B -/
noncomputable def T_JS_coder : List xE := [(0, .getstatic 38, [], 1), (3, .ifCond .eq 10, [5], 0), (6, .aload_n 0, [], 0), (7, .getfield 15, [46, 1, 0, 0, 0], 0), (10, .goto 4, [6], 0), (13, .iconst 1, [], 1), (14, .ireturn, [3], 0)]
/-- java/lang/String length ()I -/
noncomputable def T_JS_length : List xE := [(0, .aload_n 0, [], 0), (1, .getfield 9, [46, 0, 12, 47, 0], 0), (4, .arraylength, [], 0), (5, .aload_n 0, [], 0), (6, .invokevirtual 335, [8, 1, 1, 0, 46, 0], 0), (9, .ishr, [], 0), (10, .ireturn, [], 0)]
/-- java/lang/String isLatin1 ()Z -/
noncomputable def T_JS_isLatin1 : List xE := [(0, .getstatic 38, [], 1), (3, .ifCond .eq 14, [7], 0), (6, .aload_n 0, [], 0), (7, .getfield 15, [46, 1, 0, 0, 0], 0), (10, .ifCond .ne 7, [7], 0), (13, .iconst 1, [], 1), (14, .goto 4, [8], 0), (17, .iconst 0, [], 0), (18, .ireturn, [1], 0)]
/-- jdk/internal/util/Preconditions checkIndex (IILjava/util/function/BiFunction;)I -/
noncomputable def T_JPreconditions_checkIndex : List xE := [(0, .iload_n 0, [], 0), (1, .ifCond .lt 8, [5], 0), (4, .iload_n 0, [], 0), (5, .iload_n 1, [], 0), (6, .if_icmp .lt 10, [10], 0), (9, .aload_n 2, [], 0), (10, .iload_n 0, [], 0), (11, .iload_n 1, [], 0), (12, .invokestatic 95, [], 0), (15, .athrow, [], 0), (16, .iload_n 0, [], 0), (17, .ireturn, [], 0)]
/-- java/lang/String checkIndex (II)V -/
noncomputable def T_JS_checkIndex : List xE := [(0, .iload_n 0, [], 0), (1, .iload_n 1, [], 0), (2, .getstatic 1053, [51, 0], 0), (5, .invokestatic 1059, [11, 3, 1, 0, 0, 0], 0), (8, .pop, [], 0), (9, .return_, [], 0)]
/-- java/lang/StringLatin1 charAt ([BI)C -/
noncomputable def T_JL_charAt : List xE := [(0, .iload_n 1, [], 0), (1, .aload_n 0, [], 0), (2, .arraylength, [], 0), (3, .invokestatic 9, [12, 2, 0, 0, 0, 0], 0), (6, .aload_n 0, [], 0), (7, .iload_n 1, [], 0), (8, .baload, [1], 0), (9, .sipush 255, [], 255), (12, .iand, [], 0), (13, .i2c, [], 0), (14, .ireturn, [2], 0)]
/-- java/lang/String charAt (I)C -/
noncomputable def T_JS_charAt : List xE := [(0, .aload_n 0, [], 0), (1, .invokevirtual 492, [10, 1, 1, 0, 46, 0], 0), (4, .ifCond .eq 12, [8], 0), (7, .aload_n 0, [], 0), (8, .getfield 9, [46, 0, 12, 47, 0], 0), (11, .iload_n 1, [], 0), (12, .invokestatic 495, [13, 2, 1, 0, 0, 0], 0), (15, .ireturn, [2], 0), (16, .aload_n 0, [], 0), (17, .getfield 9, [46, 0, 12, 47, 0], 0), (20, .iload_n 1, [], 0), (21, .invokestatic 498, [], 0), (24, .ireturn, [2], 0)]
/-- ProjectPlanner$Input putByte (I)V -/
noncomputable def T_I_putByte : List xE := [(0, .aload_n 0, [], 0), (1, .getfield 15, [19, 1, 0, 0, 0], 0), (4, .sipush 600, [], 600), (7, .if_icmp .ge 24, [17], 0), (10, .aload_n 0, [], 0), (11, .getfield 9, [19, 0, 2, 20, 0], 0), (14, .aload_n 0, [], 0), (15, .getfield 15, [19, 1, 0, 0, 0], 0), (18, .iload_n 1, [], 0), (19, .i2b, [], 0), (20, .bastore, [], 0), (21, .aload_n 0, [], 0), (22, .dup, [], 0), (23, .getfield 15, [19, 1, 0, 0, 0], 0), (26, .iconst 1, [], 1), (27, .iadd, [], 0), (28, .putfield 15, [19, 1, 0, 0, 0], 0), (31, .return_, [], 0)]
/-- ProjectPlanner$Input putText (Ljava/lang/String;)V -/
noncomputable def T_I_putText : List xE := [(0, .iconst 0, [], 0), (1, .istore_n 2, [], 0), (2, .nop, [], 0), (2, .iload_n 2, [], 0), (3, .aload_n 1, [], 0), (4, .invokevirtual 23, [9, 1, 1, 0, 46, 0], 0), (7, .if_icmp .ge 18, [14], 0), (10, .aload_n 0, [], 0), (11, .aload_n 1, [], 0), (12, .iload_n 2, [], 0), (13, .invokevirtual 28, [14, 2, 1, 0, 46, 0], 0), (16, .invokevirtual 19, [15, 2, 0, 0, 19], 0), (19, .iinc 2 1, [], 1), (22, .goto (-20), [2], 0), (25, .return_, [], 0)]
/-- ProjectPlanner$Tokens isSeparator (I)Z -/
noncomputable def T_T_isSeparator : List xE := [(0, .iload_n 0, [], 0), (1, .bipush 32, [], 32), (3, .if_icmp .eq 9, [6], 0), (6, .iload_n 0, [], 0), (7, .bipush 10, [], 10), (9, .if_icmp .ne 7, [8], 0), (12, .iconst 1, [], 1), (13, .goto 4, [9], 0), (16, .iconst 0, [], 0), (17, .ireturn, [1], 0)]
/-- ProjectPlanner isLetter (I)Z -/
noncomputable def T_C_isLetter : List xE := [(0, .iload_n 0, [], 0), (1, .bipush 97, [], 97), (3, .if_icmp .lt 13, [8], 0), (6, .iload_n 0, [], 0), (7, .bipush 122, [], 122), (9, .if_icmp .gt 7, [8], 0), (12, .iconst 1, [], 1), (13, .goto 4, [9], 0), (16, .iconst 0, [], 0), (17, .ireturn, [1], 0)]
/-- ProjectPlanner$Tokens scanWord ()V -/
noncomputable def T_T_scanWord : List xE := [(0, .nop, [], 0), (0, .aload_n 0, [], 0), (1, .getfield 34, [21, 2, 0, 0, 0], 0), (4, .aload_n 0, [], 0), (5, .getfield 12, [21, 0, 2, 19, 0], 0), (8, .getfield 43, [19, 1, 0, 0, 0], 0), (11, .if_icmp .ge 83, [49], 0), (14, .aload_n 0, [], 0), (15, .getfield 12, [21, 0, 2, 19, 0], 0), (18, .getfield 46, [19, 0, 2, 20, 0], 0), (21, .aload_n 0, [], 0), (22, .getfield 34, [21, 2, 0, 0, 0], 0), (25, .baload, [1], 0), (26, .invokestatic 61, [18, 1, 1, 0, 0, 0], 0), (29, .ifCond .eq 65, [49], 0), (32, .aload_n 0, [], 0), (33, .getfield 34, [21, 2, 0, 0, 0], 0), (36, .aload_n 0, [], 0), (37, .getfield 40, [21, 1, 0, 0, 0], 0), (40, .isub, [], 0), (41, .bipush 8, [], 8), (43, .if_icmp .ge 38, [42], 0), (46, .aload_n 0, [], 0), (47, .dup, [], 0), (48, .getfield 54, [21, 4, 1, 0, 0], 0), (51, .aload_n 0, [], 0), (52, .getfield 12, [21, 0, 2, 19, 0], 0), (55, .getfield 46, [19, 0, 2, 20, 0], 0), (58, .aload_n 0, [], 0), (59, .getfield 34, [21, 2, 0, 0, 0], 0), (62, .baload, [1], 0), (63, .i2l, [], 0), (64, .bipush 8, [], 8), (66, .aload_n 0, [], 0), (67, .getfield 34, [21, 2, 0, 0, 0], 0), (70, .aload_n 0, [], 0), (71, .getfield 40, [21, 1, 0, 0, 0], 0), (74, .isub, [], 0), (75, .imul, [], 0), (76, .lshl, [], 0), (77, .lor, [], 0), (78, .putfield 54, [21, 4, 1, 0, 0], 0), (81, .aload_n 0, [], 0), (82, .dup, [], 0), (83, .getfield 34, [21, 2, 0, 0, 0], 0), (86, .iconst 1, [], 1), (87, .iadd, [], 0), (88, .putfield 34, [21, 2, 0, 0, 0], 0), (91, .goto (-91), [0], 0), (94, .aload_n 0, [], 0), (95, .getstatic 79, [42, 0], 0), (98, .putfield 24, [21, 3, 4, 42, 0], 0), (101, .aload_n 0, [], 0), (102, .getfield 34, [21, 2, 0, 0, 0], 0), (105, .aload_n 0, [], 0), (106, .getfield 40, [21, 1, 0, 0, 0], 0), (109, .isub, [], 0), (110, .bipush 8, [], 8), (112, .if_icmp .le 15, [65], 0), (115, .aload_n 0, [], 0), (116, .getstatic 76, [42, 3], 0), (119, .putfield 24, [21, 3, 4, 42, 0], 0), (122, .aload_n 0, [], 0), (123, .lconst 0, [], 0), (124, .putfield 54, [21, 4, 1, 0, 0], 0), (127, .return_, [], 0)]
/-- ProjectPlanner isDigit (I)Z -/
noncomputable def T_C_isDigit : List xE := [(0, .iload_n 0, [], 0), (1, .bipush 48, [], 48), (3, .if_icmp .lt 13, [8], 0), (6, .iload_n 0, [], 0), (7, .bipush 57, [], 57), (9, .if_icmp .gt 7, [8], 0), (12, .iconst 1, [], 1), (13, .goto 4, [9], 0), (16, .iconst 0, [], 0), (17, .ireturn, [1], 0)]
/-- ProjectPlanner$Tokens scanNumber ()V -/
noncomputable def T_T_scanNumber : List xE := [(0, .nop, [], 0), (0, .aload_n 0, [], 0), (1, .getfield 34, [21, 2, 0, 0, 0], 0), (4, .aload_n 0, [], 0), (5, .getfield 12, [21, 0, 2, 19, 0], 0), (8, .getfield 43, [19, 1, 0, 0, 0], 0), (11, .if_icmp .ge 74, [44], 0), (14, .aload_n 0, [], 0), (15, .getfield 12, [21, 0, 2, 19, 0], 0), (18, .getfield 46, [19, 0, 2, 20, 0], 0), (21, .aload_n 0, [], 0), (22, .getfield 34, [21, 2, 0, 0, 0], 0), (25, .baload, [1], 0), (26, .invokestatic 67, [20, 1, 1, 0, 0, 0], 0), (29, .ifCond .eq 56, [44], 0), (32, .aload_n 0, [], 0), (33, .getfield 34, [21, 2, 0, 0, 0], 0), (36, .aload_n 0, [], 0), (37, .getfield 40, [21, 1, 0, 0, 0], 0), (40, .isub, [], 0), (41, .iconst 3, [], 3), (42, .if_icmp .ge 30, [37], 0), (45, .aload_n 0, [], 0), (46, .aload_n 0, [], 0), (47, .getfield 58, [21, 5, 0, 0, 0], 0), (50, .bipush 10, [], 10), (52, .imul, [], 0), (53, .aload_n 0, [], 0), (54, .getfield 12, [21, 0, 2, 19, 0], 0), (57, .getfield 46, [19, 0, 2, 20, 0], 0), (60, .aload_n 0, [], 0), (61, .getfield 34, [21, 2, 0, 0, 0], 0), (64, .baload, [1], 0), (65, .iadd, [], 0), (66, .bipush 48, [], 48), (68, .isub, [], 0), (69, .putfield 58, [21, 5, 0, 0, 0], 0), (72, .aload_n 0, [], 0), (73, .dup, [], 0), (74, .getfield 34, [21, 2, 0, 0, 0], 0), (77, .iconst 1, [], 1), (78, .iadd, [], 0), (79, .putfield 34, [21, 2, 0, 0, 0], 0), (82, .goto (-82), [0], 0), (85, .aload_n 0, [], 0), (86, .aload_n 0, [], 0), (87, .getfield 34, [21, 2, 0, 0, 0], 0), (90, .aload_n 0, [], 0), (91, .getfield 40, [21, 1, 0, 0, 0], 0), (94, .isub, [], 0), (95, .iconst 3, [], 3), (96, .if_icmp .le 9, [54], 0), (99, .getstatic 76, [42, 3], 0), (102, .goto 6, [55], 0), (105, .getstatic 82, [42, 1], 0), (108, .putfield 24, [21, 3, 4, 42, 0], 0), (111, .return_, [], 0)]
/-- ProjectPlanner$Tokens advance ()V -/
noncomputable def T_T_advance : List xE := [(0, .aload_n 0, [], 0), (1, .aload_n 0, [], 0), (2, .getfield 34, [21, 2, 0, 0, 0], 0), (5, .putfield 40, [21, 1, 0, 0, 0], 0), (8, .nop, [], 0), (8, .aload_n 0, [], 0), (9, .getfield 40, [21, 1, 0, 0, 0], 0), (12, .aload_n 0, [], 0), (13, .getfield 12, [21, 0, 2, 19, 0], 0), (16, .getfield 43, [19, 1, 0, 0, 0], 0), (19, .if_icmp .ge 34, [26], 0), (22, .aload_n 0, [], 0), (23, .getfield 12, [21, 0, 2, 19, 0], 0), (26, .getfield 46, [19, 0, 2, 20, 0], 0), (29, .aload_n 0, [], 0), (30, .getfield 40, [21, 1, 0, 0, 0], 0), (33, .baload, [1], 0), (34, .invokestatic 50, [17, 1, 1, 0, 0], 0), (37, .ifCond .eq 16, [26], 0), (40, .aload_n 0, [], 0), (41, .dup, [], 0), (42, .getfield 40, [21, 1, 0, 0, 0], 0), (45, .iconst 1, [], 1), (46, .iadd, [], 0), (47, .putfield 40, [21, 1, 0, 0, 0], 0), (50, .goto (-42), [4], 0), (53, .aload_n 0, [], 0), (54, .aload_n 0, [], 0), (55, .getfield 40, [21, 1, 0, 0, 0], 0), (58, .putfield 34, [21, 2, 0, 0, 0], 0), (61, .aload_n 0, [], 0), (62, .lconst 0, [], 0), (63, .putfield 54, [21, 4, 1, 0, 0], 0), (66, .aload_n 0, [], 0), (67, .iconst 0, [], 0), (68, .putfield 58, [21, 5, 0, 0, 0], 0), (71, .aload_n 0, [], 0), (72, .getfield 40, [21, 1, 0, 0, 0], 0), (75, .aload_n 0, [], 0), (76, .getfield 12, [21, 0, 2, 19, 0], 0), (79, .getfield 43, [19, 1, 0, 0, 0], 0), (82, .if_icmp .lt 13, [46], 0), (85, .aload_n 0, [], 0), (86, .getstatic 18, [42, 4], 0), (89, .putfield 24, [21, 3, 4, 42, 0], 0), (92, .goto 93, [87], 0), (95, .aload_n 0, [], 0), (96, .getfield 12, [21, 0, 2, 19, 0], 0), (99, .getfield 46, [19, 0, 2, 20, 0], 0), (102, .aload_n 0, [], 0), (103, .getfield 40, [21, 1, 0, 0, 0], 0), (106, .baload, [1], 0), (107, .invokestatic 61, [18, 1, 1, 0, 0, 0], 0), (110, .ifCond .eq 10, [57], 0), (113, .aload_n 0, [], 0), (114, .invokevirtual 64, [19, 1, 0, 0, 21], 0), (117, .goto 68, [87], 0), (120, .aload_n 0, [], 0), (121, .getfield 12, [21, 0, 2, 19, 0], 0), (124, .getfield 46, [19, 0, 2, 20, 0], 0), (127, .aload_n 0, [], 0), (128, .getfield 40, [21, 1, 0, 0, 0], 0), (131, .baload, [1], 0), (132, .invokestatic 67, [20, 1, 1, 0, 0, 0], 0), (135, .ifCond .eq 10, [68], 0), (138, .aload_n 0, [], 0), (139, .invokevirtual 70, [21, 1, 0, 0, 21], 0), (142, .goto 43, [87], 0), (145, .aload_n 0, [], 0), (146, .aload_n 0, [], 0), (147, .getfield 12, [21, 0, 2, 19, 0], 0), (150, .getfield 46, [19, 0, 2, 20, 0], 0), (153, .aload_n 0, [], 0), (154, .getfield 40, [21, 1, 0, 0, 0], 0), (157, .baload, [1], 0), (158, .bipush 59, [], 59), (160, .if_icmp .ne 9, [79], 0), (163, .getstatic 73, [42, 2], 0), (166, .goto 6, [80], 0), (169, .getstatic 76, [42, 3], 0), (172, .putfield 24, [21, 3, 4, 42, 0], 0), (175, .aload_n 0, [], 0), (176, .aload_n 0, [], 0), (177, .getfield 40, [21, 1, 0, 0, 0], 0), (180, .iconst 1, [], 1), (181, .iadd, [], 0), (182, .putfield 34, [21, 2, 0, 0, 0], 0), (185, .return_, [], 0)]
/-- ProjectPlanner$Tokens open ()V -/
noncomputable def T_T_open : List xE := [(0, .aload_n 0, [], 0), (1, .iconst 0, [], 0), (2, .putfield 31, [21, 8, 0, 0, 0], 0), (5, .aload_n 0, [], 0), (6, .iconst (-1), [], (-1)), (7, .putfield 27, [21, 9, 0, 0, 0], 0), (10, .aload_n 0, [], 0), (11, .iconst 0, [], 0), (12, .putfield 34, [21, 2, 0, 0, 0], 0), (15, .aload_n 0, [], 0), (16, .invokevirtual 37, [22, 1, 0, 0, 21], 0), (19, .return_, [], 0)]
/-- ProjectPlanner packed (Ljava/lang/String;)J -/
noncomputable def T_C_packed : List xE := [(0, .lconst 0, [], 0), (1, .lstore_n 1, [], 0), (2, .iconst 0, [], 0), (3, .istore_n 3, [], 0), (4, .nop, [2], 0), (4, .iload_n 3, [], 0), (5, .aload_n 0, [], 0), (6, .invokevirtual 359, [9, 1, 1, 0, 46, 0], 0), (9, .if_icmp .ge 23, [22], 0), (12, .lload_n 1, [], 0), (13, .aload_n 0, [], 0), (14, .iload_n 3, [], 0), (15, .invokevirtual 365, [14, 2, 1, 0, 46, 0], 0), (18, .i2l, [], 0), (19, .bipush 8, [], 8), (21, .iload_n 3, [], 0), (22, .imul, [], 0), (23, .lshl, [], 0), (24, .lor, [], 0), (25, .lstore_n 1, [], 0), (26, .iinc 3 1, [], 1), (29, .goto (-25), [4], 0), (32, .lload_n 1, [], 0), (33, .lreturn, [], 0)]
/-- ProjectPlanner$Tokens isAt (Ljava/lang/String;)Z -/
noncomputable def T_T_isAt : List xE := [(0, .aload_n 0, [], 0), (1, .getfield 24, [21, 3, 4, 42, 0], 0), (4, .getstatic 79, [42, 0], 0), (7, .if_acmp .ne 19, [12], 0), (10, .aload_n 0, [], 0), (11, .getfield 54, [21, 4, 1, 0, 0], 0), (14, .aload_n 1, [], 0), (15, .invokestatic 85, [24, 1, 2, 0, 0, 0], 0), (18, .lcmp, [], 0), (19, .ifCond .ne 7, [12], 0), (22, .iconst 1, [], 1), (23, .goto 4, [13], 0), (26, .iconst 0, [], 0), (27, .ireturn, [1], 0)]
/-- ProjectPlanner$Tokens fail (I)Z -/
noncomputable def T_T_fail : List xE := [(0, .aload_n 0, [], 0), (1, .iload_n 1, [], 0), (2, .putfield 31, [21, 8, 0, 0, 0], 0), (5, .aload_n 0, [], 0), (6, .aload_n 0, [], 0), (7, .getfield 40, [21, 1, 0, 0, 0], 0), (10, .putfield 27, [21, 9, 0, 0, 0], 0), (13, .iconst 0, [], 0), (14, .ireturn, [1], 0)]
/-- ProjectPlanner$Tokens takeOpening (Ljava/lang/String;Z)Z -/
noncomputable def T_T_takeOpening : List xE := [(0, .aload_n 0, [], 0), (1, .aload_n 1, [], 0), (2, .invokevirtual 89, [25, 2, 1, 0, 21], 0), (5, .ifCond .ne 9, [8], 0), (8, .aload_n 0, [], 0), (9, .iconst 1, [], 1), (10, .invokevirtual 93, [26, 2, 1, 0, 21], 0), (13, .ireturn, [1], 0), (14, .iload_n 2, [], 0), (15, .ifCond .ne 9, [14], 0), (18, .aload_n 0, [], 0), (19, .iconst 5, [], 5), (20, .invokevirtual 93, [26, 2, 1, 0, 21], 0), (23, .ireturn, [1], 0), (24, .aload_n 0, [], 0), (25, .invokevirtual 37, [22, 1, 0, 0, 21], 0), (28, .iconst 1, [], 1), (29, .ireturn, [1], 0)]
/-- ProjectPlanner$Tokens takeNumber (II)Z -/
noncomputable def T_T_takeNumber : List xE := [(0, .aload_n 0, [], 0), (1, .getfield 24, [21, 3, 4, 42, 0], 0), (4, .getstatic 82, [42, 1], 0), (7, .if_acmp .eq 9, [8], 0), (10, .aload_n 0, [], 0), (11, .iconst 1, [], 1), (12, .invokevirtual 93, [26, 2, 1, 0, 21], 0), (15, .ireturn, [1], 0), (16, .aload_n 0, [], 0), (17, .getfield 58, [21, 5, 0, 0, 0], 0), (20, .iload_n 1, [], 0), (21, .if_icmp .lt 11, [16], 0), (24, .aload_n 0, [], 0), (25, .getfield 58, [21, 5, 0, 0, 0], 0), (28, .iload_n 2, [], 0), (29, .if_icmp .le 9, [20], 0), (32, .aload_n 0, [], 0), (33, .iconst 2, [], 2), (34, .invokevirtual 93, [26, 2, 1, 0, 21], 0), (37, .ireturn, [1], 0), (38, .aload_n 0, [], 0), (39, .aload_n 0, [], 0), (40, .getfield 58, [21, 5, 0, 0, 0], 0), (43, .putfield 96, [21, 7, 0, 0, 0], 0), (46, .aload_n 0, [], 0), (47, .invokevirtual 37, [22, 1, 0, 0, 21], 0), (50, .iconst 1, [], 1), (51, .ireturn, [1], 0)]
/-- ProjectPlanner$Tokens takeSemicolon ()Z -/
noncomputable def T_T_takeSemicolon : List xE := [(0, .aload_n 0, [], 0), (1, .getfield 24, [21, 3, 4, 42, 0], 0), (4, .getstatic 73, [42, 2], 0), (7, .if_acmp .eq 9, [8], 0), (10, .aload_n 0, [], 0), (11, .iconst 1, [], 1), (12, .invokevirtual 93, [26, 2, 1, 0, 21], 0), (15, .ireturn, [1], 0), (16, .aload_n 0, [], 0), (17, .invokevirtual 37, [22, 1, 0, 0, 21], 0), (20, .iconst 1, [], 1), (21, .ireturn, [1], 0)]
/-- ProjectPlanner$Setup readHead (LProjectPlanner$Tokens;LProjectPlanner$Plan;)Z -/
noncomputable def T_U_readHead : List xE := [(0, .aload_n 0, [], 0), (1, .ldc 50, [46, 4], 0), (3, .iconst 1, [], 1), (4, .invokevirtual 52, [27, 3, 1, 0, 21], 0), (7, .ifCond .eq 12, [10], 0), (10, .aload_n 0, [], 0), (11, .iconst 0, [], 0), (12, .iconst 3, [], 3), (13, .invokevirtual 56, [28, 3, 1, 0, 21], 0), (16, .ifCond .ne 5, [12], 0), (19, .iconst 0, [], 0), (20, .ireturn, [1], 0), (21, .aload_n 1, [], 0), (22, .aload_n 0, [], 0), (23, .getfield 60, [21, 7, 0, 0, 0], 0), (26, .putfield 63, [2, 0, 0, 0, 0], 0), (29, .aload_n 0, [], 0), (30, .invokevirtual 66, [29, 1, 1, 0, 21], 0), (33, .ireturn, [1], 0)]
/-- ProjectPlanner$Plan resourceNamed (J)I -/
noncomputable def T_P_resourceNamed : List xE := [(0, .iconst 0, [], 0), (1, .istore_n 3, [], 0), (2, .nop, [2], 0), (2, .iload_n 3, [], 0), (3, .aload_n 0, [], 0), (4, .getfield 38, [2, 1, 0, 0, 0], 0), (7, .if_icmp .ge 22, [18], 0), (10, .aload_n 0, [], 0), (11, .getfield 9, [2, 3, 2, 3, 0], 0), (14, .iload_n 3, [], 0), (15, .laload, [], 0), (16, .lload_n 1, [], 0), (17, .lcmp, [], 0), (18, .ifCond .ne 5, [16], 0), (21, .iload_n 3, [], 0), (22, .ireturn, [], 0), (23, .iinc 3 1, [], 1), (26, .goto (-24), [2], 0), (29, .iconst (-1), [], (-1)), (30, .ireturn, [], 0)]
/-- ProjectPlanner$Tokens takeNewName (I)Z -/
noncomputable def T_T_takeNewName : List xE := [(0, .aload_n 0, [], 0), (1, .getfield 24, [21, 3, 4, 42, 0], 0), (4, .getstatic 79, [42, 0], 0), (7, .if_acmp .eq 9, [8], 0), (10, .aload_n 0, [], 0), (11, .iconst 1, [], 1), (12, .invokevirtual 93, [26, 2, 1, 0, 21], 0), (15, .ireturn, [1], 0), (16, .aload_n 0, [], 0), (17, .getfield 34, [21, 2, 0, 0, 0], 0), (20, .aload_n 0, [], 0), (21, .getfield 40, [21, 1, 0, 0, 0], 0), (24, .isub, [], 0), (25, .bipush 6, [], 6), (27, .if_icmp .gt 8, [18], 0), (30, .iload_n 1, [], 0), (31, .iconst (-1), [], (-1)), (32, .if_icmp .eq 9, [22], 0), (35, .aload_n 0, [], 0), (36, .iconst 3, [], 3), (37, .invokevirtual 93, [26, 2, 1, 0, 21], 0), (40, .ireturn, [1], 0), (41, .aload_n 0, [], 0), (42, .aload_n 0, [], 0), (43, .getfield 54, [21, 4, 1, 0, 0], 0), (46, .putfield 99, [21, 6, 1, 0, 0], 0), (49, .aload_n 0, [], 0), (50, .invokevirtual 37, [22, 1, 0, 0, 21], 0), (53, .iconst 1, [], 1), (54, .ireturn, [1], 0)]
/-- ProjectPlanner$Setup readResource (LProjectPlanner$Tokens;LProjectPlanner$Plan;)Z -/
noncomputable def T_U_readResource : List xE := [(0, .aload_n 1, [], 0), (1, .getfield 9, [2, 1, 0, 0, 0], 0), (4, .istore_n 2, [], 0), (5, .aload_n 0, [], 0), (6, .ldc 32, [46, 5], 0), (8, .iload_n 2, [], 0), (9, .iconst 3, [], 3), (10, .if_icmp .ge 7, [10], 0), (13, .iconst 1, [], 1), (14, .goto 4, [11], 0), (17, .iconst 0, [], 0), (18, .invokevirtual 52, [27, 3, 1, 0, 21], 0), (21, .ifCond .eq 28, [25], 0), (24, .aload_n 0, [], 0), (25, .aload_n 1, [], 0), (26, .aload_n 0, [], 0), (27, .getfield 70, [21, 4, 1, 0, 0], 0), (30, .invokevirtual 74, [31, 2, 1, 0, 2], 0), (33, .invokevirtual 78, [32, 2, 1, 0, 21], 0), (36, .ifCond .eq 13, [25], 0), (39, .aload_n 0, [], 0), (40, .iconst 1, [], 1), (41, .bipush 9, [], 9), (43, .invokevirtual 56, [28, 3, 1, 0, 21], 0), (46, .ifCond .ne 5, [27], 0), (49, .iconst 0, [], 0), (50, .ireturn, [1], 0), (51, .aload_n 1, [], 0), (52, .getfield 82, [2, 3, 2, 3, 0], 0), (55, .iload_n 2, [], 0), (56, .aload_n 0, [], 0), (57, .getfield 86, [21, 6, 1, 0, 0], 0), (60, .lastore, [], 0), (61, .aload_n 1, [], 0), (62, .getfield 89, [2, 4, 2, 4, 0], 0), (65, .iload_n 2, [], 0), (66, .aload_n 0, [], 0), (67, .getfield 60, [21, 7, 0, 0, 0], 0), (70, .iastore, [], 0), (71, .aload_n 1, [], 0), (72, .dup, [], 0), (73, .getfield 9, [2, 1, 0, 0, 0], 0), (76, .iconst 1, [], 1), (77, .iadd, [], 0), (78, .putfield 9, [2, 1, 0, 0, 0], 0), (81, .aload_n 0, [], 0), (82, .invokevirtual 66, [29, 1, 1, 0, 21], 0), (85, .ireturn, [1], 0)]
/-- ProjectPlanner$Plan taskNamed (J)I -/
noncomputable def T_P_taskNamed : List xE := [(0, .iconst 0, [], 0), (1, .istore_n 3, [], 0), (2, .nop, [2], 0), (2, .iload_n 3, [], 0), (3, .aload_n 0, [], 0), (4, .getfield 41, [2, 2, 0, 0, 0], 0), (7, .if_icmp .ge 22, [18], 0), (10, .aload_n 0, [], 0), (11, .getfield 19, [2, 5, 2, 5, 0], 0), (14, .iload_n 3, [], 0), (15, .laload, [], 0), (16, .lload_n 1, [], 0), (17, .lcmp, [], 0), (18, .ifCond .ne 5, [16], 0), (21, .iload_n 3, [], 0), (22, .ireturn, [], 0), (23, .iinc 3 1, [], 1), (26, .goto (-24), [2], 0), (29, .iconst (-1), [], (-1)), (30, .ireturn, [], 0)]
/-- ProjectPlanner$Setup readDemands (LProjectPlanner$Tokens;LProjectPlanner$Plan;I)Z -/
noncomputable def T_U_readDemands : List xE := [(0, .iconst 0, [], 0), (1, .istore_n 3, [], 0), (2, .nop, [], 0), (2, .iload_n 3, [], 0), (3, .aload_n 1, [], 0), (4, .getfield 9, [2, 1, 0, 0, 0], 0), (7, .if_icmp .ge 39, [29], 0), (10, .aload_n 0, [], 0), (11, .iconst 0, [], 0), (12, .aload_n 1, [], 0), (13, .getfield 89, [2, 4, 2, 4, 0], 0), (16, .iload_n 3, [], 0), (17, .iaload, [], 0), (18, .invokevirtual 56, [28, 3, 1, 0, 21], 0), (21, .ifCond .ne 5, [17], 0), (24, .iconst 0, [], 0), (25, .ireturn, [1], 0), (26, .aload_n 1, [], 0), (27, .getfield 117, [2, 9, 2, 9, 0], 0), (30, .iload_n 2, [], 0), (31, .iconst 3, [], 3), (32, .imul, [], 0), (33, .iload_n 3, [], 0), (34, .iadd, [], 0), (35, .aload_n 0, [], 0), (36, .getfield 60, [21, 7, 0, 0, 0], 0), (39, .iastore, [], 0), (40, .iinc 3 1, [], 1), (43, .goto (-41), [2], 0), (46, .iconst 1, [], 1), (47, .ireturn, [1], 0)]
/-- ProjectPlanner$Tokens isAtKnownName (I)Z -/
noncomputable def T_T_isAtKnownName : List xE := [(0, .aload_n 0, [], 0), (1, .getfield 24, [21, 3, 4, 42, 0], 0), (4, .getstatic 79, [42, 0], 0), (7, .if_acmp .eq 9, [8], 0), (10, .aload_n 0, [], 0), (11, .iconst 1, [], 1), (12, .invokevirtual 93, [26, 2, 1, 0, 21], 0), (15, .ireturn, [1], 0), (16, .iload_n 1, [], 0), (17, .iconst (-1), [], (-1)), (18, .if_icmp .ne 11, [15], 0), (21, .aload_n 0, [], 0), (22, .iconst 3, [], 3), (23, .invokevirtual 93, [26, 2, 1, 0, 21], 0), (26, .ifCond .eq 7, [17], 0), (29, .iconst 1, [], 1), (30, .goto 4, [18], 0), (33, .iconst 0, [], 0), (34, .ireturn, [1], 0)]
/-- ProjectPlanner contains (II)Z -/
noncomputable def T_C_contains : List xE := [(0, .iload_n 0, [], 0), (1, .iload_n 1, [], 0), (2, .ishr, [], 0), (3, .iconst 1, [], 1), (4, .iand, [], 0), (5, .ifCond .eq 7, [8], 0), (8, .iconst 1, [], 1), (9, .goto 4, [9], 0), (12, .iconst 0, [], 0), (13, .ireturn, [1], 0)]
/-- ProjectPlanner$Plan isLinked (II)Z -/
noncomputable def T_P_isLinked : List xE := [(0, .aload_n 0, [], 0), (1, .getfield 28, [2, 8, 2, 8, 0], 0), (4, .iload_n 2, [], 0), (5, .iaload, [], 0), (6, .iload_n 1, [], 0), (7, .invokestatic 63, [37, 2, 1, 0, 0, 0], 0), (10, .ireturn, [1], 0)]
/-- ProjectPlanner$Setup readLinks (LProjectPlanner$Tokens;LProjectPlanner$Plan;I)Z -/
noncomputable def T_U_readLinks : List xE := [(0, .aload_n 0, [], 0), (1, .ldc 120, [46, 7], 0), (3, .invokevirtual 34, [25, 2, 1, 0, 21], 0), (6, .ifCond .ne 5, [6], 0), (9, .iconst 1, [], 1), (10, .ireturn, [1], 0), (11, .aload_n 0, [], 0), (12, .invokevirtual 122, [22, 1, 0, 0, 21], 0), (15, .iconst 0, [], 0), (16, .istore_n 3, [], 0), (17, .nop, [4], 0), (17, .iload_n 3, [], 0), (18, .ifCond .eq 19, [20], 0), (21, .iload_n 3, [], 0), (22, .bipush 12, [], 12), (24, .if_icmp .gt 73, [54], 0), (27, .aload_n 0, [], 0), (28, .getfield 41, [21, 3, 4, 42, 0], 0), (31, .getstatic 125, [42, 0], 0), (34, .if_acmp .ne 63, [54], 0), (37, .aload_n 1, [], 0), (38, .aload_n 0, [], 0), (39, .getfield 70, [21, 4, 1, 0, 0], 0), (42, .invokevirtual 95, [34, 2, 1, 0, 2], 0), (45, .istore 4, [], 0), (47, .aload_n 0, [], 0), (48, .iload 4, [], 0), (50, .invokevirtual 128, [36, 2, 1, 0, 21], 0), (53, .ifCond .ne 5, [31], 0), (56, .iconst 0, [], 0), (57, .ireturn, [1], 0), (58, .aload_n 1, [], 0), (59, .iload 4, [], 0), (61, .iload_n 2, [], 0), (62, .invokevirtual 131, [38, 3, 1, 0, 2], 0), (65, .ifCond .eq 9, [40], 0), (68, .aload_n 0, [], 0), (69, .iconst 4, [], 4), (70, .invokevirtual 134, [26, 2, 1, 0, 21], 0), (73, .ireturn, [1], 0), (74, .aload_n 1, [], 0), (75, .getfield 107, [2, 8, 2, 8, 0], 0), (78, .iload_n 2, [], 0), (79, .dup2, [], 0), (80, .iaload, [], 0), (81, .iconst 1, [], 1), (82, .iload 4, [], 0), (84, .ishl, [], 0), (85, .ior, [], 0), (86, .iastore, [], 0), (87, .aload_n 0, [], 0), (88, .invokevirtual 122, [22, 1, 0, 0, 21], 0), (91, .iinc 3 1, [], 1), (94, .goto (-77), [10], 0), (97, .iconst 1, [], 1), (98, .ireturn, [1], 0)]
/-- ProjectPlanner$Setup readTask (LProjectPlanner$Tokens;LProjectPlanner$Plan;)Z -/
noncomputable def T_U_readTask : List xE := [(0, .aload_n 1, [], 0), (1, .getfield 15, [2, 2, 0, 0, 0], 0), (4, .istore_n 2, [], 0), (5, .aload_n 0, [], 0), (6, .ldc 93, [46, 6], 0), (8, .iload_n 2, [], 0), (9, .bipush 12, [], 12), (11, .if_icmp .ge 7, [10], 0), (14, .iconst 1, [], 1), (15, .goto 4, [11], 0), (18, .iconst 0, [], 0), (19, .invokevirtual 52, [27, 3, 1, 0, 21], 0), (22, .ifCond .eq 28, [25], 0), (25, .aload_n 0, [], 0), (26, .aload_n 1, [], 0), (27, .aload_n 0, [], 0), (28, .getfield 70, [21, 4, 1, 0, 0], 0), (31, .invokevirtual 95, [34, 2, 1, 0, 2], 0), (34, .invokevirtual 78, [32, 2, 1, 0, 21], 0), (37, .ifCond .eq 13, [25], 0), (40, .aload_n 0, [], 0), (41, .iconst 1, [], 1), (42, .bipush 30, [], 30), (44, .invokevirtual 56, [28, 3, 1, 0, 21], 0), (47, .ifCond .ne 5, [27], 0), (50, .iconst 0, [], 0), (51, .ireturn, [1], 0), (52, .aload_n 1, [], 0), (53, .getfield 98, [2, 5, 2, 5, 0], 0), (56, .iload_n 2, [], 0), (57, .aload_n 0, [], 0), (58, .getfield 86, [21, 6, 1, 0, 0], 0), (61, .lastore, [], 0), (62, .aload_n 1, [], 0), (63, .getfield 101, [2, 6, 2, 6, 0], 0), (66, .iload_n 2, [], 0), (67, .aload_n 0, [], 0), (68, .getfield 60, [21, 7, 0, 0, 0], 0), (71, .iastore, [], 0), (72, .aload_n 1, [], 0), (73, .getfield 104, [2, 7, 2, 7, 0], 0), (76, .iload_n 2, [], 0), (77, .iconst 0, [], 0), (78, .iastore, [], 0), (79, .aload_n 1, [], 0), (80, .getfield 107, [2, 8, 2, 8, 0], 0), (83, .iload_n 2, [], 0), (84, .iconst 0, [], 0), (85, .iastore, [], 0), (86, .aload_n 0, [], 0), (87, .aload_n 1, [], 0), (88, .iload_n 2, [], 0), (89, .invokestatic 110, [35, 3, 1, 0, 0], 0), (92, .ifCond .eq 12, [59], 0), (95, .aload_n 0, [], 0), (96, .aload_n 1, [], 0), (97, .iload_n 2, [], 0), (98, .invokestatic 114, [39, 3, 1, 0, 0], 0), (101, .ifCond .ne 5, [61], 0), (104, .iconst 0, [], 0), (105, .ireturn, [1], 0), (106, .aload_n 1, [], 0), (107, .dup, [], 0), (108, .getfield 15, [2, 2, 0, 0, 0], 0), (111, .iconst 1, [], 1), (112, .iadd, [], 0), (113, .putfield 15, [2, 2, 0, 0, 0], 0), (116, .aload_n 0, [], 0), (117, .invokevirtual 66, [29, 1, 1, 0, 21], 0), (120, .ireturn, [1], 0)]
/-- ProjectPlanner$Setup read (LProjectPlanner$Tokens;LProjectPlanner$Plan;)Z -/
noncomputable def T_U_read : List xE := [(0, .aload_n 1, [], 0), (1, .iconst 0, [], 0), (2, .putfield 9, [2, 1, 0, 0, 0], 0), (5, .aload_n 1, [], 0), (6, .iconst 0, [], 0), (7, .putfield 15, [2, 2, 0, 0, 0], 0), (10, .aload_n 0, [], 0), (11, .invokevirtual 18, [23, 1, 0, 0, 21], 0), (14, .aload_n 0, [], 0), (15, .aload_n 1, [], 0), (16, .invokestatic 23, [30, 2, 1, 0, 0], 0), (19, .ifCond .eq 15, [18], 0), (22, .aload_n 0, [], 0), (23, .aload_n 1, [], 0), (24, .invokestatic 29, [33, 2, 1, 0, 0], 0), (27, .ifCond .eq 7, [18], 0), (30, .iconst 1, [], 1), (31, .goto 4, [19], 0), (34, .iconst 0, [], 0), (35, .istore_n 2, [], 0), (36, .iconst 1, [], 1), (37, .istore_n 3, [], 0), (38, .nop, [], 0), (38, .iload_n 3, [], 0), (39, .iconst 3, [], 3), (40, .if_icmp .gt 28, [38], 0), (43, .iload_n 2, [], 0), (44, .ifCond .eq 24, [38], 0), (47, .aload_n 0, [], 0), (48, .ldc 32, [46, 5], 0), (50, .invokevirtual 34, [25, 2, 1, 0, 21], 0), (53, .ifCond .eq 15, [38], 0), (56, .aload_n 0, [], 0), (57, .aload_n 1, [], 0), (58, .invokestatic 29, [33, 2, 1, 0, 0], 0), (61, .istore_n 2, [], 0), (62, .iinc 3 1, [], 1), (65, .goto (-27), [22], 0), (68, .iload_n 2, [], 0), (69, .ifCond .eq 15, [46], 0), (72, .aload_n 0, [], 0), (73, .aload_n 1, [], 0), (74, .invokestatic 38, [40, 2, 1, 0, 0], 0), (77, .ifCond .eq 7, [46], 0), (80, .iconst 1, [], 1), (81, .goto 4, [47], 0), (84, .iconst 0, [], 0), (85, .istore_n 2, [], 0), (86, .iconst 1, [], 1), (87, .istore_n 3, [], 0), (88, .nop, [], 0), (88, .iload_n 3, [], 0), (89, .bipush 12, [], 12), (91, .if_icmp .gt 29, [66], 0), (94, .iload_n 2, [], 0), (95, .ifCond .eq 25, [66], 0), (98, .aload_n 0, [], 0), (99, .getfield 41, [21, 3, 4, 42, 0], 0), (102, .getstatic 45, [42, 4], 0), (105, .if_acmp .eq 15, [66], 0), (108, .aload_n 0, [], 0), (109, .aload_n 1, [], 0), (110, .invokestatic 38, [40, 2, 1, 0, 0], 0), (113, .istore_n 2, [], 0), (114, .iinc 3 1, [], 1), (117, .goto (-29), [50], 0), (120, .iload_n 2, [], 0), (121, .ireturn, [1], 0)]
/-- ProjectPlanner <init> ()V -/
noncomputable def T_C_init : List xE := [(0, .aload_n 0, [], 0), (1, .invokespecial 1, [9999, 1, 0, 0, 0, 5], 0), (4, .aload_n 0, [], 0), (5, .new 7, [2, 10, 0], 0), (8, .dup, [], 0), (9, .invokespecial 9, [0, 1, 0, 0, 2, 0], 0), (12, .putfield 10, [1, 1, 13, 2, 0], 0), (15, .aload_n 0, [], 0), (16, .new 16, [17, 3, 0], 0), (19, .dup, [], 0), (20, .invokespecial 18, [1, 1, 0, 0, 17, 0], 0), (23, .putfield 19, [1, 2, 13, 17, 0], 0), (26, .aload_n 0, [], 0), (27, .iconst 2, [], 2), (28, .anewarray 7, [25], 0), (31, .putfield 23, [1, 3, 13, 25, 0], 0), (34, .aload_n 0, [], 0), (35, .iconst 2, [], 2), (36, .newarray .boolean, [26], 0), (38, .putfield 27, [1, 4, 13, 26, 0], 0), (41, .aload_n 0, [], 0), (42, .new 31, [21, 10, 0], 0), (45, .dup, [], 0), (46, .invokespecial 33, [3, 1, 0, 0, 21, 0], 0), (49, .putfield 34, [1, 5, 13, 21, 0], 0), (52, .aload_n 0, [], 0), (53, .new 38, [22, 2, 0], 0), (56, .dup, [], 0), (57, .invokespecial 40, [5, 1, 0, 0, 22, 0], 0), (60, .putfield 41, [1, 6, 13, 22, 0], 0), (63, .aload_n 0, [], 0), (64, .new 45, [15, 4, 0], 0), (67, .dup, [], 0), (68, .invokespecial 47, [7, 1, 0, 0, 15, 0], 0), (71, .putfield 48, [1, 7, 13, 15, 0], 0), (74, .aload_n 0, [], 0), (75, .ldc 52, [46, 0], 0), (77, .putfield 54, [1, 8, 14, 46, 0], 0), (80, .iconst 0, [], 0), (81, .istore_n 1, [], 0), (82, .nop, [2], 0), (82, .iload_n 1, [], 0), (83, .iconst 2, [], 2), (84, .if_icmp .ge 22, [53], 0), (87, .aload_n 0, [], 0), (88, .getfield 23, [1, 3, 13, 25, 0], 0), (91, .iload_n 1, [], 0), (92, .new 7, [2, 10, 0], 0), (95, .dup, [], 0), (96, .invokespecial 9, [0, 1, 0, 0, 2, 0], 0), (99, .aastore, [25, 2, 7], 0), (100, .iinc 1 1, [], 1), (103, .goto (-21), [40], 0), (106, .new 31, [21, 10, 0], 0), (109, .dup, [], 0), (110, .invokespecial 33, [3, 1, 0, 0, 21, 0], 0), (113, .astore_n 1, [], 0), (114, .aload_n 1, [], 0), (115, .getfield 58, [21, 0, 12, 19, 0], 0), (118, .ldc 62, [46, 1], 0), (120, .invokevirtual 64, [16, 2, 0, 0, 19, 1, 1], 0), (123, .aload_n 1, [], 0), (124, .getfield 58, [21, 0, 12, 19, 0], 0), (127, .ldc 70, [46, 2], 0), (129, .invokevirtual 64, [16, 2, 0, 0, 19, 1, 1], 0), (132, .aload_n 1, [], 0), (133, .getfield 58, [21, 0, 12, 19, 0], 0), (136, .ldc 72, [46, 3], 0), (138, .invokevirtual 64, [16, 2, 0, 0, 19, 1, 1], 0), (141, .new 7, [2, 10, 0], 0), (144, .dup, [], 0), (145, .invokespecial 9, [0, 1, 0, 0, 2, 0], 0), (148, .astore_n 2, [], 0), (149, .aload_n 1, [], 0), (150, .aload_n 2, [], 0), (151, .invokestatic 74, [41, 2, 1, 0, 0, 1, 2], 0), (154, .pop, [], 0), (155, .aload_n 0, [], 0), (156, .aload_n 2, [], 0), (157, .putfield 80, [1, 0, 13, 2, 9], 0), (160, .return_, [], 0)]
/-- ProjectPlannerLaw pick ([III)I -/
noncomputable def T_L_pick : List xE := [(0, .iload_n 1, [], 0), (1, .aload_n 0, [], 0), (2, .arraylength, [], 0), (3, .if_icmp .ge 14, [12], 0), (6, .aload_n 0, [], 0), (7, .iload_n 1, [], 0), (8, .iaload, [], 0), (9, .ldc 7, [], 2147483647), (11, .iand, [], 0), (12, .iload_n 2, [], 0), (13, .irem, [], 0), (14, .goto 4, [13], 0), (17, .iconst 0, [], 0), (18, .ireturn, [], 0)]
/-- java/lang/Math max (II)I -/
noncomputable def T_JM_max : List xE := [(0, .iload_n 0, [], 0), (1, .iload_n 1, [], 0), (2, .if_icmp .lt 7, [5], 0), (5, .iload_n 0, [], 0), (6, .goto 4, [6], 0), (9, .iload_n 1, [], 0), (10, .ireturn, [], 0)]
/-- jdk/internal/util/ArraysSupport newLength (III)I -/
noncomputable def T_JP_newLength : List xE := [(0, .iload_n 0, [], 0), (1, .iload_n 1, [], 0), (2, .iload_n 2, [], 0), (3, .invokestatic 194, [44, 2, 1, 0, 0, 0], 0), (6, .iadd, [], 0), (7, .istore_n 3, [], 0), (8, .iconst 0, [], 0), (9, .iload_n 3, [], 0), (10, .if_icmp .ge 11, [14], 0), (13, .iload_n 3, [], 0), (14, .ldc 200, [], 2147483639), (16, .if_icmp .gt 5, [14], 0), (19, .iload_n 3, [], 0), (20, .ireturn, [], 0), (21, .iload_n 0, [], 0), (22, .iload_n 1, [], 0), (23, .invokestatic 201, [], 0), (26, .ireturn, [], 0)]
/-- java/lang/AbstractStringBuilder newCapacity (I)I -/
noncomputable def T_JA_newCapacity : List xE := [(0, .aload_n 0, [], 0), (1, .getfield 15, [50, 0, 14, 49, 0], 0), (4, .arraylength, [], 0), (5, .istore_n 2, [], 0), (6, .iload_n 1, [], 0), (7, .aload_n 0, [], 0), (8, .getfield 22, [50, 1, 0, 0, 0], 0), (11, .ishl, [], 0), (12, .istore_n 3, [], 0), (13, .iload_n 3, [], 0), (14, .iload_n 2, [], 0), (15, .isub, [], 0), (16, .istore 4, [], 0), (18, .iload_n 2, [], 0), (19, .iload 4, [], 0), (21, .iload_n 2, [], 0), (22, .iconst 2, [], 2), (23, .aload_n 0, [], 0), (24, .getfield 22, [50, 1, 0, 0, 0], 0), (27, .ishl, [], 0), (28, .iadd, [], 0), (29, .invokestatic 114, [45, 3, 1, 0, 0, 0], 0), (32, .istore 5, [], 0), (34, .iload 5, [], 0), (36, .ldc 39, [], 2147483647), (38, .if_icmp .ne 13, [31], 0), (41, .new 120, [], 0), (44, .dup, [], 0), (45, .ldc 122, [1], 0), (47, .invokespecial 124, [], 0), (50, .athrow, [], 0), (51, .iload 5, [], 0), (53, .aload_n 0, [], 0), (54, .getfield 22, [50, 1, 0, 0, 0], 0), (57, .ishr, [], 0), (58, .ireturn, [], 0)]
/-- java/lang/Math min (II)I -/
noncomputable def T_JM_min : List xE := [(0, .iload_n 0, [], 0), (1, .iload_n 1, [], 0), (2, .if_icmp .gt 7, [5], 0), (5, .iload_n 0, [], 0), (6, .goto 4, [6], 0), (9, .iload_n 1, [], 0), (10, .ireturn, [], 0)]
/-- java/util/Arrays copyOf ([BI)[B -/
noncomputable def T_JR_copyOf : List xE := [(0, .iload_n 1, [], 0), (1, .aload_n 0, [], 0), (2, .arraylength, [], 0), (3, .if_icmp .ne 11, [8], 0), (6, .aload_n 0, [], 0), (7, .invokevirtual 310, [], 0), (10, .checkcast 311, [1], 0), (13, .areturn, [], 0), (14, .iload_n 1, [], 0), (15, .newarray .byte, [49], 0), (17, .astore_n 2, [], 0), (18, .aload_n 0, [], 0), (19, .iconst 0, [], 0), (20, .aload_n 2, [], 0), (21, .iconst 0, [], 0), (22, .aload_n 0, [], 0), (23, .arraylength, [], 0), (24, .iload_n 1, [], 0), (25, .invokestatic 304, [47, 2, 1, 0, 0, 0], 0), (28, .invokestatic 150, [9999, 5, 0, 0, 0, 3], 0), (31, .aload_n 2, [], 0), (32, .areturn, [], 0)]
/-- java/lang/AbstractStringBuilder ensureCapacityInternal (I)V -/
noncomputable def T_JA_ensureCapacityInternal : List xE := [(0, .aload_n 0, [], 0), (1, .getfield 15, [50, 0, 14, 49, 0], 0), (4, .arraylength, [], 0), (5, .aload_n 0, [], 0), (6, .getfield 22, [50, 1, 0, 0, 0], 0), (9, .ishr, [], 0), (10, .istore_n 2, [], 0), (11, .iload_n 1, [], 0), (12, .iload_n 2, [], 0), (13, .isub, [], 0), (14, .ifCond .le 24, [22], 0), (17, .aload_n 0, [], 0), (18, .aload_n 0, [], 0), (19, .getfield 15, [50, 0, 14, 49, 0], 0), (22, .aload_n 0, [], 0), (23, .iload_n 1, [], 0), (24, .invokevirtual 104, [46, 2, 1, 0, 50, 0], 0), (27, .aload_n 0, [], 0), (28, .getfield 22, [50, 1, 0, 0, 0], 0), (31, .ishl, [], 0), (32, .invokestatic 108, [48, 2, 3, 49, 0, 0], 0), (35, .putfield 15, [50, 0, 14, 49, 0], 0), (38, .return_, [], 0)]
/-- java/lang/AbstractStringBuilder inflateIfNeededFor (Ljava/lang/String;)V -/
noncomputable def T_JA_inflateIfNeededFor : List xE := [(0, .getstatic 18, [], 1), (3, .ifCond .eq 18, [9], 0), (6, .aload_n 0, [], 0), (7, .getfield 22, [50, 1, 0, 0, 0], 0), (10, .aload_n 1, [], 0), (11, .invokevirtual 40, [8, 1, 1, 0, 46, 0], 0), (14, .if_icmp .eq 7, [9], 0), (17, .aload_n 0, [], 0), (18, .invokevirtual 195, [], 0), (21, .return_, [], 0)]
/-- java/lang/String getBytes ([BIB)V -/
noncomputable def T_JS_getBytes : List xE := [(0, .aload_n 0, [], 0), (1, .invokevirtual 335, [8, 1, 1, 0, 46, 0], 0), (4, .iload_n 3, [], 0), (5, .if_icmp .ne 23, [16], 0), (8, .aload_n 0, [], 0), (9, .getfield 9, [46, 0, 12, 47, 0], 0), (12, .iconst 0, [], 0), (13, .aload_n 1, [], 0), (14, .iload_n 2, [], 0), (15, .iload_n 3, [], 0), (16, .ishl, [], 0), (17, .aload_n 0, [], 0), (18, .getfield 9, [46, 0, 12, 47, 0], 0), (21, .arraylength, [], 0), (22, .invokestatic 212, [9999, 5, 0, 0, 0, 3], 0), (25, .goto 18, [25], 0), (28, .aload_n 0, [], 0), (29, .getfield 9, [46, 0, 12, 47, 0], 0), (32, .iconst 0, [], 0), (33, .aload_n 1, [], 0), (34, .iload_n 2, [], 0), (35, .aload_n 0, [], 0), (36, .getfield 9, [46, 0, 12, 47, 0], 0), (39, .arraylength, [], 0), (40, .invokestatic 106, [], 0), (43, .return_, [], 0)]
/-- java/lang/AbstractStringBuilder putStringAt (ILjava/lang/String;)V -/
noncomputable def T_JA_putStringAt : List xE := [(0, .aload_n 0, [], 0), (1, .aload_n 2, [], 0), (2, .invokevirtual 397, [50, 2, 0, 0, 50, 0], 0), (5, .aload_n 2, [], 0), (6, .aload_n 0, [], 0), (7, .getfield 15, [50, 0, 14, 49, 0], 0), (10, .iload_n 1, [], 0), (11, .aload_n 0, [], 0), (12, .getfield 22, [50, 1, 0, 0, 0], 0), (15, .invokevirtual 399, [51, 4, 0, 0, 46, 0], 0), (18, .return_, [], 0)]
/-- java/lang/AbstractStringBuilder append (Ljava/lang/String;)Ljava/lang/AbstractStringBuilder; -/
noncomputable def T_JA_append_0 : List xE := [(0, .aload_n 1, [], 0), (1, .ifnonnull 8, [5], 0), (4, .aload_n 0, [], 0), (5, .invokevirtual 204, [], 0), (8, .areturn, [], 0), (9, .aload_n 1, [], 0), (10, .invokevirtual 32, [9, 1, 1, 0, 46, 0], 0), (13, .istore_n 2, [], 0), (14, .aload_n 0, [], 0), (15, .aload_n 0, [], 0), (16, .getfield 79, [50, 2, 0, 0, 0], 0), (19, .iload_n 2, [], 0), (20, .iadd, [], 0), (21, .invokevirtual 100, [49, 2, 0, 0, 50, 0], 0), (24, .aload_n 0, [], 0), (25, .aload_n 0, [], 0), (26, .getfield 79, [50, 2, 0, 0, 0], 0), (29, .aload_n 1, [], 0), (30, .invokevirtual 208, [52, 3, 0, 0, 50, 0], 0), (33, .aload_n 0, [], 0), (34, .dup, [], 0), (35, .getfield 79, [50, 2, 0, 0, 0], 0), (38, .iload_n 2, [], 0), (39, .iadd, [], 0), (40, .putfield 79, [50, 2, 0, 0, 0], 0), (43, .aload_n 0, [], 0), (44, .areturn, [], 0)]
/-- java/lang/StringBuilder append (Ljava/lang/String;)Ljava/lang/StringBuilder; -/
noncomputable def T_JB_append_0 : List xE := [(0, .aload_n 0, [], 0), (1, .aload_n 1, [], 0), (2, .invokespecial 29, [53, 2, 3, 50, 50, 0], 0), (5, .pop, [], 0), (6, .aload_n 0, [], 0), (7, .areturn, [], 0)]
/-- java/lang/StringBuilder append (Ljava/lang/String;)Ljava/lang/AbstractStringBuilder; -/
noncomputable def T_JB_append_1 : List xE := [(0, .aload_n 0, [], 0), (1, .aload_n 1, [], 0), (2, .invokevirtual 23, [54, 2, 3, 50, 50, 0], 0), (5, .areturn, [], 0)]
/-- java/lang/AbstractStringBuilder <init> (Ljava/lang/String;)V -/
noncomputable def T_JA_init : List xE := [(0, .aload_n 0, [], 0), (1, .invokespecial 3, [9999, 1, 0, 0, 0, 5], 0), (4, .aload_n 1, [], 0), (5, .invokevirtual 32, [9, 1, 1, 0, 46, 0], 0), (8, .istore_n 2, [], 0), (9, .iload_n 2, [], 0), (10, .ldc 38, [], 2147483631), (12, .if_icmp .ge 10, [12], 0), (15, .iload_n 2, [], 0), (16, .bipush 16, [], 16), (18, .iadd, [], 0), (19, .goto 5, [13], 0), (22, .ldc 39, [], 2147483647), (24, .istore_n 3, [], 0), (25, .aload_n 1, [], 0), (26, .invokevirtual 40, [8, 1, 1, 0, 46, 0], 0), (29, .istore 4, [], 0), (31, .aload_n 0, [], 0), (32, .iload 4, [], 0), (34, .putfield 22, [50, 1, 10, 0, 0], 0), (37, .aload_n 0, [], 0), (38, .iload 4, [], 0), (40, .ifCond .ne 9, [26], 0), (43, .iload_n 3, [], 0), (44, .newarray .byte, [49], 0), (46, .goto 7, [28], 0), (49, .iload_n 3, [], 0), (50, .invokestatic 26, [], 0), (53, .putfield 15, [50, 0, 14, 49, 0], 0), (56, .aload_n 0, [], 0), (57, .aload_n 1, [], 0), (58, .invokevirtual 43, [55, 2, 3, 50, 50, 0], 0), (61, .pop, [], 0), (62, .return_, [], 0)]
/-- java/lang/StringBuilder <init> (Ljava/lang/String;)V -/
noncomputable def T_JB_init : List xE := [(0, .aload_n 0, [], 0), (1, .aload_n 1, [], 0), (2, .invokespecial 7, [56, 2, 0, 0, 50, 0], 0), (5, .return_, [], 0)]
/-- java/lang/Integer stringSize (I)I -/
noncomputable def T_JI_stringSize : List xE := [(0, .iconst 1, [], 1), (1, .istore_n 1, [], 0), (2, .iload_n 0, [], 0), (3, .ifCond .lt 8, [9], 0), (6, .iconst 0, [], 0), (7, .istore_n 1, [], 0), (8, .iload_n 0, [], 0), (9, .ineg, [], 0), (10, .istore_n 0, [], 0), (11, .bipush (-10), [], (-10)), (13, .istore_n 2, [], 0), (14, .iconst 1, [], 1), (15, .istore_n 3, [], 0), (16, .nop, [], 0), (16, .iload_n 3, [], 0), (17, .bipush 10, [], 10), (19, .if_icmp .ge 23, [30], 0), (22, .iload_n 0, [], 0), (23, .iload_n 2, [], 0), (24, .if_icmp .le 7, [24], 0), (27, .iload_n 3, [], 0), (28, .iload_n 1, [], 0), (29, .iadd, [], 0), (30, .ireturn, [], 0), (31, .bipush 10, [], 10), (33, .iload_n 2, [], 0), (34, .imul, [], 0), (35, .istore_n 2, [], 0), (36, .iinc 3 1, [], 1), (39, .goto (-23), [13], 0), (42, .bipush 10, [], 10), (44, .iload_n 1, [], 0), (45, .iadd, [], 0), (46, .ireturn, [], 0)]
/-- java/lang/AbstractStringBuilder isLatin1 ()Z -/
noncomputable def T_JA_isLatin1 : List xE := [(0, .getstatic 18, [], 1), (3, .ifCond .eq 14, [7], 0), (6, .aload_n 0, [], 0), (7, .getfield 22, [50, 1, 0, 0, 0], 0), (10, .ifCond .ne 7, [7], 0), (13, .iconst 1, [], 1), (14, .goto 4, [8], 0), (17, .iconst 0, [], 0), (18, .ireturn, [1], 0)]
/-- java/lang/Integer getChars (II[B)I -/
noncomputable def T_JI_getChars : List xE := [(0, .iload_n 1, [], 0), (1, .istore 5, [], 0), (3, .iload_n 0, [], 0), (4, .ifCond .ge 7, [6], 0), (7, .iconst 1, [], 1), (8, .goto 4, [7], 0), (11, .iconst 0, [], 0), (12, .istore 6, [], 0), (14, .iload 6, [], 0), (16, .ifCond .ne 6, [13], 0), (19, .iload_n 0, [], 0), (20, .ineg, [], 0), (21, .istore_n 0, [], 0), (22, .nop, [1, 3, 4], 0), (22, .iload_n 0, [], 0), (23, .bipush (-100), [], (-100)), (25, .if_icmp .gt 47, [44], 0), (28, .iload_n 0, [], 0), (29, .bipush 100, [], 100), (31, .idiv, [], 0), (32, .istore_n 3, [], 0), (33, .iload_n 3, [], 0), (34, .bipush 100, [], 100), (36, .imul, [], 0), (37, .iload_n 0, [], 0), (38, .isub, [], 0), (39, .istore 4, [], 0), (41, .iload_n 3, [], 0), (42, .istore_n 0, [], 0), (43, .aload_n 2, [], 0), (44, .iinc 5 (-1), [], (-1)), (47, .iload 5, [], 0), (49, .getstatic 83, [48, 0], 0), (52, .iload 4, [], 0), (54, .baload, [1], 0), (55, .bastore, [], 0), (56, .aload_n 2, [], 0), (57, .iinc 5 (-1), [], (-1)), (60, .iload 5, [], 0), (62, .getstatic 87, [52, 0], 0), (65, .iload 4, [], 0), (67, .baload, [1], 0), (68, .bastore, [], 0), (69, .goto (-47), [13], 0), (72, .aload_n 2, [], 0), (73, .iinc 5 (-1), [], (-1)), (76, .iload 5, [], 0), (78, .getstatic 83, [48, 0], 0), (81, .iload_n 0, [], 0), (82, .ineg, [], 0), (83, .baload, [1], 0), (84, .bastore, [], 0), (85, .iload_n 0, [], 0), (86, .bipush (-9), [], (-9)), (88, .if_icmp .ge 16, [63], 0), (91, .aload_n 2, [], 0), (92, .iinc 5 (-1), [], (-1)), (95, .iload 5, [], 0), (97, .getstatic 87, [52, 0], 0), (100, .iload_n 0, [], 0), (101, .ineg, [], 0), (102, .baload, [1], 0), (103, .bastore, [], 0), (104, .iload 6, [], 0), (106, .ifCond .eq 12, [70], 0), (109, .aload_n 2, [], 0), (110, .iinc 5 (-1), [], (-1)), (113, .iload 5, [], 0), (115, .bipush 45, [], 45), (117, .bastore, [], 0), (118, .iload 5, [], 0), (120, .ireturn, [], 0)]
/-- java/lang/AbstractStringBuilder append (I)Ljava/lang/AbstractStringBuilder; -/
noncomputable def T_JA_append_1 : List xE := [(0, .aload_n 0, [], 0), (1, .getfield 79, [50, 2, 0, 0, 0], 0), (4, .istore_n 2, [], 0), (5, .iload_n 2, [], 0), (6, .iload_n 1, [], 0), (7, .invokestatic 245, [58, 1, 1, 0, 0, 0], 0), (10, .iadd, [], 0), (11, .istore_n 3, [], 0), (12, .aload_n 0, [], 0), (13, .iload_n 3, [], 0), (14, .invokevirtual 100, [49, 2, 0, 0, 50, 0], 0), (17, .aload_n 0, [], 0), (18, .invokevirtual 83, [59, 1, 1, 0, 50, 0], 0), (21, .ifCond .eq 16, [21], 0), (24, .iload_n 1, [], 0), (25, .iload_n 3, [], 0), (26, .aload_n 0, [], 0), (27, .getfield 15, [50, 0, 14, 49, 0], 0), (30, .invokestatic 248, [60, 3, 1, 0, 0, 0], 0), (33, .pop, [], 0), (34, .goto 14, [28], 0), (37, .iload_n 1, [], 0), (38, .iload_n 2, [], 0), (39, .iload_n 3, [], 0), (40, .aload_n 0, [], 0), (41, .getfield 15, [50, 0, 14, 49, 0], 0), (44, .invokestatic 251, [], 0), (47, .pop, [], 0), (48, .aload_n 0, [], 0), (49, .iload_n 3, [], 0), (50, .putfield 79, [50, 2, 0, 0, 0], 0), (53, .aload_n 0, [], 0), (54, .areturn, [], 0)]
/-- java/lang/StringBuilder append (I)Ljava/lang/StringBuilder; -/
noncomputable def T_JB_append_2 : List xE := [(0, .aload_n 0, [], 0), (1, .iload_n 1, [], 0), (2, .invokespecial 53, [61, 2, 3, 50, 50, 0], 0), (5, .pop, [], 0), (6, .aload_n 0, [], 0), (7, .areturn, [], 0)]
/-- java/lang/StringLatin1 canEncode (C)Z -/
noncomputable def T_JL_canEncode : List xE := [(0, .iload_n 0, [], 0), (1, .sipush 255, [], 255), (4, .if_icmp .gt 7, [5], 0), (7, .iconst 1, [], 1), (8, .goto 4, [6], 0), (11, .iconst 0, [], 0), (12, .ireturn, [1], 0)]
/-- java/lang/AbstractStringBuilder append (C)Ljava/lang/AbstractStringBuilder; -/
noncomputable def T_JA_append_2 : List xE := [(0, .aload_n 0, [], 0), (1, .aload_n 0, [], 0), (2, .getfield 79, [50, 2, 0, 0, 0], 0), (5, .iconst 1, [], 1), (6, .iadd, [], 0), (7, .invokevirtual 100, [49, 2, 0, 0, 50, 0], 0), (10, .aload_n 0, [], 0), (11, .invokevirtual 83, [59, 1, 1, 0, 50, 0], 0), (14, .ifCond .eq 31, [25], 0), (17, .iload_n 1, [], 0), (18, .invokestatic 191, [63, 1, 1, 0, 0, 0], 0), (21, .ifCond .eq 24, [25], 0), (24, .aload_n 0, [], 0), (25, .getfield 15, [50, 0, 14, 49, 0], 0), (28, .aload_n 0, [], 0), (29, .dup, [], 0), (30, .getfield 79, [50, 2, 0, 0, 0], 0), (33, .dup_x1, [], 0), (34, .iconst 1, [], 1), (35, .iadd, [], 0), (36, .putfield 79, [50, 2, 0, 0, 0], 0), (39, .iload_n 1, [], 0), (40, .i2b, [], 0), (41, .bastore, [], 0), (42, .goto 33, [41], 0), (45, .aload_n 0, [], 0), (46, .invokevirtual 83, [59, 1, 1, 0, 50, 0], 0), (49, .ifCond .eq 7, [30], 0), (52, .aload_n 0, [], 0), (53, .invokevirtual 195, [], 0), (56, .aload_n 0, [], 0), (57, .getfield 15, [50, 0, 14, 49, 0], 0), (60, .aload_n 0, [], 0), (61, .dup, [], 0), (62, .getfield 79, [50, 2, 0, 0, 0], 0), (65, .dup_x1, [], 0), (66, .iconst 1, [], 1), (67, .iadd, [], 0), (68, .putfield 79, [50, 2, 0, 0, 0], 0), (71, .iload_n 1, [], 0), (72, .invokestatic 197, [], 0), (75, .aload_n 0, [], 0), (76, .areturn, [], 0)]
/-- java/lang/StringBuilder append (C)Ljava/lang/StringBuilder; -/
noncomputable def T_JB_append_3 : List xE := [(0, .aload_n 0, [], 0), (1, .iload_n 1, [], 0), (2, .invokespecial 50, [64, 2, 3, 50, 50, 0], 0), (5, .pop, [], 0), (6, .aload_n 0, [], 0), (7, .areturn, [], 0)]
/-- java/lang/AbstractStringBuilder getValue ()[B -/
noncomputable def T_JA_getValue : List xE := [(0, .aload_n 0, [], 0), (1, .getfield 15, [50, 0, 14, 49, 0], 0), (4, .areturn, [], 0)]
/-- java/lang/AbstractStringBuilder length ()I -/
noncomputable def T_JA_length : List xE := [(0, .aload_n 0, [], 0), (1, .getfield 79, [50, 2, 0, 0, 0], 0), (4, .ireturn, [], 0)]
/-- java/lang/StringBuilder length ()I -/
noncomputable def T_JB_length : List xE := [(0, .aload_n 0, [], 0), (1, .invokespecial 343, [67, 1, 1, 0, 50, 0], 0), (4, .ireturn, [], 0)]
/-- java/util/Arrays checkLength (II)V -/
noncomputable def T_JR_checkLength : List xE := [(0, .iload_n 1, [], 0), (1, .iload_n 0, [], 0), (2, .if_icmp .ge 35, [17], 0), (5, .new 43, [], 0), (8, .dup, [], 0), (9, .new 45, [], 0), (12, .dup, [], 0), (13, .invokespecial 47, [], 0), (16, .iload_n 0, [], 0), (17, .invokevirtual 54, [], 0), (20, .ldc_w 337, [1], 0), (23, .invokevirtual 50, [], 0), (26, .iload_n 1, [], 0), (27, .invokevirtual 54, [], 0), (30, .invokevirtual 61, [], 0), (33, .invokespecial 65, [], 0), (36, .athrow, [], 0), (37, .return_, [], 0)]
/-- java/util/Arrays copyOfRangeByte ([BII)[B -/
noncomputable def T_JR_copyOfRangeByte : List xE := [(0, .iload_n 1, [], 0), (1, .iload_n 2, [], 0), (2, .invokestatic 343, [69, 2, 0, 0, 0, 0], 0), (5, .iload_n 2, [], 0), (6, .iload_n 1, [], 0), (7, .isub, [], 0), (8, .istore_n 3, [], 0), (9, .iload_n 3, [], 0), (10, .newarray .byte, [47], 0), (12, .astore 4, [], 0), (14, .aload_n 0, [], 0), (15, .iload_n 1, [], 0), (16, .aload 4, [], 0), (18, .iconst 0, [], 0), (19, .aload_n 0, [], 0), (20, .arraylength, [], 0), (21, .iload_n 1, [], 0), (22, .isub, [], 0), (23, .iload_n 3, [], 0), (24, .invokestatic 304, [47, 2, 1, 0, 0, 0], 0), (27, .invokestatic 150, [9999, 5, 0, 0, 0, 3], 0), (30, .aload 4, [], 0), (32, .areturn, [], 0)]
/-- java/util/Arrays copyOfRange ([BII)[B -/
noncomputable def T_JR_copyOfRange : List xE := [(0, .iload_n 1, [], 0), (1, .ifCond .ne 9, [6], 0), (4, .iload_n 2, [], 0), (5, .aload_n 0, [], 0), (6, .arraylength, [], 0), (7, .if_icmp .eq 10, [11], 0), (10, .aload_n 0, [], 0), (11, .iload_n 1, [], 0), (12, .iload_n 2, [], 0), (13, .invokestatic 339, [70, 3, 3, 47, 0, 0], 0), (16, .areturn, [], 0), (17, .aload_n 0, [], 0), (18, .invokevirtual 310, [9999, 1, 3, 47, 0, 4, 47], 0), (21, .checkcast 311, [1], 0), (24, .areturn, [], 0)]
/-- java/lang/String <init> (Ljava/lang/AbstractStringBuilder;Ljava/lang/Void;)V -/
noncomputable def T_JS_init_0 : List xE := [(0, .aload_n 0, [], 0), (1, .invokespecial 1, [9999, 1, 0, 0, 0, 5], 0), (4, .aload_n 1, [], 0), (5, .invokevirtual 552, [66, 1, 3, 49, 50, 0], 0), (8, .astore_n 3, [], 0), (9, .aload_n 1, [], 0), (10, .invokevirtual 549, [68, 1, 1, 0, 50, 0], 0), (13, .istore 4, [], 0), (15, .aload_n 1, [], 0), (16, .invokevirtual 1047, [59, 1, 1, 0, 50, 0], 0), (19, .ifCond .eq 22, [21], 0), (22, .aload_n 0, [], 0), (23, .iconst 0, [], 0), (24, .putfield 15, [46, 1, 10, 0, 0], 0), (27, .aload_n 0, [], 0), (28, .aload_n 3, [], 0), (29, .iconst 0, [], 0), (30, .iload 4, [], 0), (32, .invokestatic 54, [71, 3, 3, 47, 0, 0], 0), (35, .putfield 9, [46, 0, 12, 47, 0], 0), (38, .goto 59, [50], 0), (41, .getstatic 38, [], 1), (44, .ifCond .eq 35, [39], 0), (47, .aload_n 1, [], 0), (48, .getfield 1048, [], 0), (51, .ifCond .eq 28, [39], 0), (54, .aload_n 0, [], 0), (55, .aload_n 3, [], 0), (56, .iconst 0, [], 0), (57, .iload 4, [], 0), (59, .invokestatic 1051, [], 0), (62, .putfield 9, [46, 0, 12, 47, 0], 0), (65, .aload_n 0, [], 0), (66, .aload_n 0, [], 0), (67, .getfield 9, [46, 0, 12, 47, 0], 0), (70, .iload 4, [], 0), (72, .invokestatic 47, [], 0), (75, .putfield 15, [46, 1, 10, 0, 0], 0), (78, .return_, [], 0), (79, .aload_n 0, [], 0), (80, .iconst 1, [], 1), (81, .putfield 15, [46, 1, 10, 0, 0], 0), (84, .aload_n 0, [], 0), (85, .aload_n 3, [], 0), (86, .iconst 0, [], 0), (87, .iload 4, [], 0), (89, .iconst 1, [], 1), (90, .ishl, [], 0), (91, .invokestatic 54, [71, 3, 3, 47, 0, 0], 0), (94, .putfield 9, [46, 0, 12, 47, 0], 0), (97, .return_, [], 0)]
/-- java/lang/String <init> (Ljava/lang/StringBuilder;)V -/
noncomputable def T_JS_init_1 : List xE := [(0, .aload_n 0, [], 0), (1, .aload_n 1, [], 0), (2, .aconst_null, [], 0), (3, .invokespecial 489, [72, 3, 0, 0, 46, 0], 0), (6, .return_, [], 0)]
/-- java/lang/StringBuilder toString ()Ljava/lang/String; -/
noncomputable def T_JB_toString : List xE := [(0, .new 18, [46, 4, 0], 0), (3, .dup, [], 0), (4, .aload_n 0, [], 0), (5, .invokespecial 137, [73, 2, 0, 0, 46, 0], 0), (8, .areturn, [], 0)]
/-- ProjectPlannerLaw setup ([III)Ljava/lang/String; -/
noncomputable def T_L_setup : List xE := [(0, .new 34, [50, 4, 0], 0), (3, .dup, [], 0), (4, .ldc 36, [46, 8], 0), (6, .invokespecial 38, [57, 2, 0, 0, 50, 1, 4], 0), (9, .aload_n 0, [], 0), (10, .iconst 2, [], 2), (11, .iconst 4, [], 4), (12, .invokestatic 41, [43, 3, 1, 0, 0, 0], 0), (15, .invokevirtual 45, [62, 2, 3, 50, 50, 1, 4], 0), (18, .bipush 59, [], 59), (20, .invokevirtual 48, [65, 2, 3, 50, 50, 1, 4], 0), (23, .astore_n 3, [], 0), (24, .iconst 0, [], 0), (25, .istore 4, [], 0), (27, .nop, [5, 6, 7], 0), (27, .iload 4, [], 0), (29, .iload_n 1, [], 0), (30, .if_icmp .ge 49, [42], 0), (33, .aload_n 3, [], 0), (34, .ldc 51, [46, 9], 0), (36, .invokevirtual 53, [54, 2, 3, 50, 50, 1, 4], 0), (39, .bipush 97, [], 97), (41, .iload 4, [], 0), (43, .iadd, [], 0), (44, .i2c, [], 0), (45, .invokevirtual 48, [65, 2, 3, 50, 50, 1, 4], 0), (48, .bipush 32, [], 32), (50, .invokevirtual 48, [65, 2, 3, 50, 50, 1, 4], 0), (53, .iconst 1, [], 1), (54, .aload_n 0, [], 0), (55, .iconst 3, [], 3), (56, .iload 4, [], 0), (58, .iadd, [], 0), (59, .iconst 4, [], 4), (60, .invokestatic 41, [43, 3, 1, 0, 0, 0], 0), (63, .iadd, [], 0), (64, .invokevirtual 45, [62, 2, 3, 50, 50, 1, 4], 0), (67, .bipush 59, [], 59), (69, .invokevirtual 48, [65, 2, 3, 50, 50, 1, 4], 0), (72, .pop, [], 0), (73, .iinc 4 1, [], 1), (76, .goto (-49), [14], 0), (79, .iconst 0, [], 0), (80, .istore 4, [], 0), (82, .nop, [5, 6, 7], 0), (82, .iload 4, [], 0), (84, .iload_n 2, [], 0), (85, .if_icmp .ge 192, [154], 0), (88, .aload_n 0, [], 0), (89, .bipush 6, [], 6), (91, .iload 4, [], 0), (93, .iadd, [], 0), (94, .ldc 56, [], 268435456), (96, .invokestatic 41, [43, 3, 1, 0, 0, 0], 0), (99, .istore 5, [], 0), (101, .aload_n 3, [], 0), (102, .ldc 57, [46, 10], 0), (104, .invokevirtual 53, [54, 2, 3, 50, 50, 1, 4], 0), (107, .bipush 97, [], 97), (109, .iload 4, [], 0), (111, .iadd, [], 0), (112, .i2c, [], 0), (113, .invokevirtual 48, [65, 2, 3, 50, 50, 1, 4], 0), (116, .bipush 32, [], 32), (118, .invokevirtual 48, [65, 2, 3, 50, 50, 1, 4], 0), (121, .iconst 1, [], 1), (122, .iload 5, [], 0), (124, .bipush 7, [], 7), (126, .irem, [], 0), (127, .iadd, [], 0), (128, .invokevirtual 45, [62, 2, 3, 50, 50, 1, 4], 0), (131, .pop, [], 0), (132, .iconst 0, [], 0), (133, .istore 6, [], 0), (135, .nop, [7], 0), (135, .iload 6, [], 0), (137, .iload_n 1, [], 0), (138, .if_icmp .ge 40, [101], 0), (141, .aload_n 3, [], 0), (142, .bipush 32, [], 32), (144, .invokevirtual 48, [65, 2, 3, 50, 50, 1, 4], 0), (147, .iload 5, [], 0), (149, .iconst 3, [], 3), (150, .iconst 3, [], 3), (151, .iload 6, [], 0), (153, .imul, [], 0), (154, .iadd, [], 0), (155, .ishr, [], 0), (156, .iconst 2, [], 2), (157, .aload_n 0, [], 0), (158, .iconst 3, [], 3), (159, .iload 6, [], 0), (161, .iadd, [], 0), (162, .iconst 4, [], 4), (163, .invokestatic 41, [43, 3, 1, 0, 0, 0], 0), (166, .iadd, [], 0), (167, .irem, [], 0), (168, .invokevirtual 45, [62, 2, 3, 50, 50, 1, 4], 0), (171, .pop, [], 0), (172, .iinc 6 1, [], 1), (175, .goto (-40), [74], 0), (178, .iload 4, [], 0), (180, .ifCond .le 84, [148], 0), (183, .iload 5, [], 0), (185, .sipush 4096, [], 4096), (188, .idiv, [], 0), (189, .iconst 4, [], 4), (190, .irem, [], 0), (191, .ifCond .le 73, [148], 0), (194, .iload 5, [], 0), (196, .sipush 16384, [], 16384), (199, .idiv, [], 0), (200, .iload 4, [], 0), (202, .irem, [], 0), (203, .istore 6, [], 0), (205, .iload 5, [], 0), (207, .ldc 59, [], 262144), (209, .idiv, [], 0), (210, .iload 4, [], 0), (212, .irem, [], 0), (213, .istore 7, [], 0), (215, .aload_n 3, [], 0), (216, .ldc 60, [46, 11], 0), (218, .invokevirtual 53, [54, 2, 3, 50, 50, 1, 4], 0), (221, .bipush 97, [], 97), (223, .iload 6, [], 0), (225, .iadd, [], 0), (226, .i2c, [], 0), (227, .invokevirtual 48, [65, 2, 3, 50, 50, 1, 4], 0), (230, .pop, [], 0), (231, .iload 7, [], 0), (233, .iload 6, [], 0), (235, .if_icmp .eq 29, [148], 0), (238, .iload 5, [], 0), (240, .ldc 62, [], 4194304), (242, .idiv, [], 0), (243, .iconst 2, [], 2), (244, .irem, [], 0), (245, .ifCond .ne 19, [148], 0), (248, .aload_n 3, [], 0), (249, .ldc 63, [46, 12], 0), (251, .invokevirtual 53, [54, 2, 3, 50, 50, 1, 4], 0), (254, .bipush 97, [], 97), (256, .iload 7, [], 0), (258, .iadd, [], 0), (259, .i2c, [], 0), (260, .invokevirtual 48, [65, 2, 3, 50, 50, 1, 4], 0), (263, .pop, [], 0), (264, .aload_n 3, [], 0), (265, .bipush 59, [], 59), (267, .invokevirtual 48, [65, 2, 3, 50, 50, 1, 4], 0), (270, .pop, [], 0), (271, .iinc 4 1, [], 1), (274, .goto (-192), [44], 0), (277, .aload_n 3, [], 0), (278, .invokevirtual 65, [74, 1, 3, 46, 50, 1, 4], 0), (281, .areturn, [], 0)]
/-- ProjectPlanner truncate (I)I -/
noncomputable def T_C_truncate : List xE := [(0, .iload_n 1, [], 0), (1, .ifCond .lt 17, [8], 0), (4, .iload_n 1, [], 0), (5, .aload_n 0, [], 0), (6, .getfield 34, [1, 5, 3, 21, 0], 0), (9, .getfield 58, [21, 0, 2, 19, 0], 0), (12, .getfield 83, [19, 1, 0, 0, 0], 0), (15, .if_icmp .le 13, [9], 0), (18, .new 97, [1, 6], 0), (28, .aload_n 0, [], 0), (29, .getfield 34, [1, 5, 3, 21, 0], 0), (32, .getfield 58, [21, 0, 2, 19, 0], 0), (35, .iload_n 1, [], 0), (36, .putfield 83, [19, 1, 0, 0, 0], 0), (39, .iload_n 1, [], 0), (40, .ireturn, [], 0)]
/-- ProjectPlannerLaw word (Ljava/lang/String;I)I -/
noncomputable def T_L_word : List xE := [(0, .iconst 0, [], 0), (1, .istore_n 2, [], 0), (2, .iload_n 1, [], 0), (3, .istore_n 3, [], 0), (4, .nop, [], 0), (4, .iload_n 3, [], 0), (5, .iload_n 1, [], 0), (6, .iconst 4, [], 4), (7, .iadd, [], 0), (8, .if_icmp .ge 33, [26], 0), (11, .iload_n 2, [], 0), (12, .bipush 8, [], 8), (14, .ishl, [], 0), (15, .iload_n 3, [], 0), (16, .aload_n 0, [], 0), (17, .invokevirtual 8, [9, 1, 1, 0, 46, 1, 4], 0), (20, .if_icmp .ge 11, [21], 0), (23, .aload_n 0, [], 0), (24, .iload_n 3, [], 0), (25, .invokevirtual 14, [14, 2, 1, 0, 46, 1, 4], 0), (28, .goto 5, [22], 0), (31, .bipush 32, [], 32), (33, .ior, [], 0), (34, .istore_n 2, [], 0), (35, .iinc 3 1, [], 1), (38, .goto (-34), [4], 0), (41, .iload_n 2, [], 0), (42, .ireturn, [], 0)]
/-- ProjectPlanner$Input putBytes (I)V -/
noncomputable def T_I_putBytes : List xE := [(0, .aload_n 0, [], 0), (1, .iload_n 1, [], 0), (2, .bipush 24, [], 24), (4, .iushr, [], 0), (5, .invokevirtual 19, [15, 2, 0, 0, 19], 0), (8, .aload_n 0, [], 0), (9, .iload_n 1, [], 0), (10, .bipush 16, [], 16), (12, .iushr, [], 0), (13, .invokevirtual 19, [15, 2, 0, 0, 19], 0), (16, .aload_n 0, [], 0), (17, .iload_n 1, [], 0), (18, .bipush 8, [], 8), (20, .iushr, [], 0), (21, .invokevirtual 19, [15, 2, 0, 0, 19], 0), (24, .aload_n 0, [], 0), (25, .iload_n 1, [], 0), (26, .invokevirtual 19, [15, 2, 0, 0, 19], 0), (29, .return_, [], 0)]
/-- ProjectPlanner append (IIIII)I -/
noncomputable def T_C_append : List xE := [(0, .aload_n 0, [], 0), (1, .getfield 34, [1, 5, 3, 21, 0], 0), (4, .getfield 58, [21, 0, 2, 19, 0], 0), (7, .astore 6, [], 0), (9, .aload 6, [], 0), (11, .getfield 83, [19, 1, 0, 0, 0], 0), (14, .bipush 20, [], 20), (16, .iadd, [], 0), (17, .sipush 600, [], 600), (20, .if_icmp .le 13, [11], 0), (23, .new 87, [0, 6], 0), (33, .aload 6, [], 0), (35, .iload_n 1, [], 0), (36, .invokevirtual 93, [78, 2, 0, 0, 19], 0), (39, .aload 6, [], 0), (41, .iload_n 2, [], 0), (42, .invokevirtual 93, [78, 2, 0, 0, 19], 0), (45, .aload 6, [], 0), (47, .iload_n 3, [], 0), (48, .invokevirtual 93, [78, 2, 0, 0, 19], 0), (51, .aload 6, [], 0), (53, .iload 4, [], 0), (55, .invokevirtual 93, [78, 2, 0, 0, 19], 0), (58, .aload 6, [], 0), (60, .iload 5, [], 0), (62, .invokevirtual 93, [78, 2, 0, 0, 19], 0), (65, .aload 6, [], 0), (67, .getfield 83, [19, 1, 0, 0, 0], 0), (70, .ireturn, [], 0)]
/-- ProjectPlannerLaw say (LProjectPlanner;Ljava/lang/String;)Z -/
noncomputable def T_L_say : List xE := [(0, .aload_n 0, [], 0), (1, .iconst 0, [], 0), (2, .invokevirtual 18, [76, 2, 1, 0, 1, 1, 0], 0), (5, .pop, [], 0), (6, .iconst 0, [], 0), (7, .istore_n 2, [], 0), (8, .nop, [], 0), (8, .iload_n 2, [], 0), (9, .aload_n 1, [], 0), (10, .invokevirtual 8, [9, 1, 1, 0, 46, 1, 4], 0), (13, .if_icmp .ge 50, [39], 0), (16, .aload_n 0, [], 0), (17, .aload_n 1, [], 0), (18, .iload_n 2, [], 0), (19, .invokestatic 24, [77, 2, 1, 0, 0, 0], 0), (22, .aload_n 1, [], 0), (23, .iload_n 2, [], 0), (24, .iconst 4, [], 4), (25, .iadd, [], 0), (26, .invokestatic 24, [77, 2, 1, 0, 0, 0], 0), (29, .aload_n 1, [], 0), (30, .iload_n 2, [], 0), (31, .bipush 8, [], 8), (33, .iadd, [], 0), (34, .invokestatic 24, [77, 2, 1, 0, 0, 0], 0), (37, .aload_n 1, [], 0), (38, .iload_n 2, [], 0), (39, .bipush 12, [], 12), (41, .iadd, [], 0), (42, .invokestatic 24, [77, 2, 1, 0, 0, 0], 0), (45, .aload_n 1, [], 0), (46, .iload_n 2, [], 0), (47, .bipush 16, [], 16), (49, .iadd, [], 0), (50, .invokestatic 24, [77, 2, 1, 0, 0, 0], 0), (53, .invokevirtual 30, [79, 6, 1, 0, 1, 1, 0], 0), (56, .pop, [], 0), (57, .iinc 2 20, [], 20), (60, .goto (-52), [6], 0), (63, .aload_n 0, [], 0), (64, .aload_n 1, [], 0), (65, .invokevirtual 8, [9, 1, 1, 0, 46, 1, 4], 0), (68, .invokevirtual 18, [76, 2, 1, 0, 1, 1, 0], 0), (71, .aload_n 1, [], 0), (72, .invokevirtual 8, [9, 1, 1, 0, 46, 1, 4], 0), (75, .if_icmp .ne 7, [48], 0), (78, .iconst 1, [], 1), (79, .goto 4, [49], 0), (82, .iconst 0, [], 0), (83, .ireturn, [1], 0)]
/-- ProjectPlanner$Plan copyFrom (LProjectPlanner$Plan;)V -/
noncomputable def T_P_copyFrom : List xE := [(0, .aload_n 0, [], 0), (1, .aload_n 1, [], 0), (2, .getfield 34, [2, 0, 0, 0, 0], 0), (5, .putfield 34, [2, 0, 0, 0, 0], 0), (8, .aload_n 0, [], 0), (9, .aload_n 1, [], 0), (10, .getfield 38, [2, 1, 0, 0, 0], 0), (13, .putfield 38, [2, 1, 0, 0, 0], 0), (16, .aload_n 0, [], 0), (17, .aload_n 1, [], 0), (18, .getfield 41, [2, 2, 0, 0, 0], 0), (21, .putfield 41, [2, 2, 0, 0, 0], 0), (24, .aload_n 1, [], 0), (25, .getfield 9, [2, 3, 2, 3, 0], 0), (28, .iconst 0, [], 0), (29, .aload_n 0, [], 0), (30, .getfield 9, [2, 3, 2, 3, 0], 0), (33, .iconst 0, [], 0), (34, .iconst 3, [], 3), (35, .invokestatic 44, [9999, 5, 0, 0, 0, 3], 0), (38, .aload_n 1, [], 0), (39, .getfield 15, [2, 4, 2, 4, 0], 0), (42, .iconst 0, [], 0), (43, .aload_n 0, [], 0), (44, .getfield 15, [2, 4, 2, 4, 0], 0), (47, .iconst 0, [], 0), (48, .iconst 3, [], 3), (49, .invokestatic 44, [9999, 5, 0, 0, 0, 3], 0), (52, .aload_n 1, [], 0), (53, .getfield 19, [2, 5, 2, 5, 0], 0), (56, .iconst 0, [], 0), (57, .aload_n 0, [], 0), (58, .getfield 19, [2, 5, 2, 5, 0], 0), (61, .iconst 0, [], 0), (62, .bipush 12, [], 12), (64, .invokestatic 44, [9999, 5, 0, 0, 0, 3], 0), (67, .aload_n 1, [], 0), (68, .getfield 22, [2, 6, 2, 6, 0], 0), (71, .iconst 0, [], 0), (72, .aload_n 0, [], 0), (73, .getfield 22, [2, 6, 2, 6, 0], 0), (76, .iconst 0, [], 0), (77, .bipush 12, [], 12), (79, .invokestatic 44, [9999, 5, 0, 0, 0, 3], 0), (82, .aload_n 1, [], 0), (83, .getfield 25, [2, 7, 2, 7, 0], 0), (86, .iconst 0, [], 0), (87, .aload_n 0, [], 0), (88, .getfield 25, [2, 7, 2, 7, 0], 0), (91, .iconst 0, [], 0), (92, .bipush 12, [], 12), (94, .invokestatic 44, [9999, 5, 0, 0, 0, 3], 0), (97, .aload_n 1, [], 0), (98, .getfield 28, [2, 8, 2, 8, 0], 0), (101, .iconst 0, [], 0), (102, .aload_n 0, [], 0), (103, .getfield 28, [2, 8, 2, 8, 0], 0), (106, .iconst 0, [], 0), (107, .bipush 12, [], 12), (109, .invokestatic 44, [9999, 5, 0, 0, 0, 3], 0), (112, .aload_n 1, [], 0), (113, .getfield 31, [2, 9, 2, 9, 0], 0), (116, .iconst 0, [], 0), (117, .aload_n 0, [], 0), (118, .getfield 31, [2, 9, 2, 9, 0], 0), (121, .iconst 0, [], 0), (122, .bipush 36, [], 36), (124, .invokestatic 44, [9999, 5, 0, 0, 0, 3], 0), (127, .return_, [], 0)]
/-- ProjectPlanner load ()I -/
noncomputable def T_C_load : List xE := [(0, .aload_n 0, [], 0), (1, .getfield 34, [1, 5, 3, 21, 0], 0), (4, .aload_n 0, [], 0), (5, .getfield 10, [1, 1, 3, 2, 0], 0), (8, .invokestatic 74, [41, 2, 1, 0, 0], 0), (11, .istore_n 1, [], 0), (12, .aload_n 0, [], 0), (13, .getfield 34, [1, 5, 3, 21, 0], 0), (16, .getfield 58, [21, 0, 2, 19, 0], 0), (19, .iconst 0, [], 0), (20, .putfield 83, [19, 1, 0, 0, 0], 0), (23, .iload_n 1, [], 0), (24, .ifCond .ne 13, [14], 0), (27, .new 97, [1, 6], 0), (37, .aload_n 0, [], 0), (38, .getfield 80, [1, 0, 3, 2, 9], 0), (41, .aload_n 0, [], 0), (42, .getfield 10, [1, 1, 3, 2, 0], 0), (45, .invokevirtual 104, [81, 2, 0, 0, 2], 0), (48, .iconst 0, [], 0), (49, .istore_n 2, [], 0), (50, .nop, [1], 0), (50, .iload_n 2, [], 0), (51, .iconst 2, [], 2), (52, .if_icmp .ge 16, [32], 0), (55, .aload_n 0, [], 0), (56, .getfield 27, [1, 4, 3, 26, 0], 0), (59, .iload_n 2, [], 0), (60, .iconst 0, [], 0), (61, .bastore, [], 0), (62, .iinc 2 1, [], 1), (65, .goto (-15), [21], 0), (68, .aload_n 0, [], 0), (69, .getfield 19, [1, 2, 3, 17, 0], 0), (72, .iconst 0, [], 0), (73, .putfield 108, [17, 2, 0, 0, 0], 0), (76, .aload_n 0, [], 0), (77, .getfield 80, [1, 0, 3, 2, 9], 0), (80, .getfield 111, [2, 2, 0, 0, 0], 0), (83, .ireturn, [], 0)]
/-- ProjectPlanner taskCount ()I -/
noncomputable def T_C_taskCount : List xE := [(0, .aload_n 0, [], 0), (1, .getfield 80, [1, 0, 3, 2, 9], 0), (4, .getfield 111, [2, 2, 0, 0, 0], 0), (7, .ireturn, [], 0)]
/-- ProjectPlanner$Plan hasTask (I)Z -/
noncomputable def T_P_hasTask : List xE := [(0, .iload_n 1, [], 0), (1, .ifCond .lt 15, [8], 0), (4, .iload_n 1, [], 0), (5, .aload_n 0, [], 0), (6, .getfield 41, [2, 2, 0, 0, 0], 0), (9, .if_icmp .ge 7, [8], 0), (12, .iconst 1, [], 1), (13, .goto 4, [9], 0), (16, .iconst 0, [], 0), (17, .ireturn, [1], 0)]
/-- ProjectPlanner requireTask (I)V -/
noncomputable def T_C_requireTask : List xE := [(0, .aload_n 0, [], 0), (1, .getfield 80, [1, 0, 3, 2, 9], 0), (4, .iload_n 1, [], 0), (5, .invokevirtual 369, [84, 2, 1, 0, 2], 0), (8, .ifCond .ne 14, [6], 0), (11, .new 137, [2, 6], 0), (22, .return_, [], 0)]
/-- ProjectPlanner release (I)I -/
noncomputable def T_C_release : List xE := [(0, .aload_n 0, [], 0), (1, .iload_n 1, [], 0), (2, .invokevirtual 126, [85, 2, 0, 0, 1], 0), (5, .aload_n 0, [], 0), (6, .getfield 80, [1, 0, 3, 2, 9], 0), (9, .getfield 170, [2, 7, 2, 7, 0], 0), (12, .iload_n 1, [], 0), (13, .iaload, [], 0), (14, .ireturn, [], 0)]
/-- ProjectPlanner hasLink (II)Z -/
noncomputable def T_C_hasLink : List xE := [(0, .aload_n 0, [], 0), (1, .iload_n 1, [], 0), (2, .invokevirtual 126, [85, 2, 0, 0, 1], 0), (5, .aload_n 0, [], 0), (6, .iload_n 2, [], 0), (7, .invokevirtual 126, [85, 2, 0, 0, 1], 0), (10, .aload_n 0, [], 0), (11, .getfield 80, [1, 0, 3, 2, 9], 0), (14, .iload_n 1, [], 0), (15, .iload_n 2, [], 0), (16, .invokevirtual 181, [38, 3, 1, 0, 2], 0), (19, .ireturn, [1], 0)]
/-- ProjectPlanner duration (I)I -/
noncomputable def T_C_duration : List xE := [(0, .aload_n 0, [], 0), (1, .iload_n 1, [], 0), (2, .invokevirtual 126, [85, 2, 0, 0, 1], 0), (5, .aload_n 0, [], 0), (6, .getfield 80, [1, 0, 3, 2, 9], 0), (9, .getfield 167, [2, 6, 2, 6, 0], 0), (12, .iload_n 1, [], 0), (13, .iaload, [], 0), (14, .ireturn, [], 0)]
/-- ProjectPlannerLaw$Plan early#7 (I)I -/
noncomputable def T_Q_early_7 : List xE := [(0, .aload_n 0, [], 0), (1, .getfield 13, [27, 0, 13, 1, 0], 0), (4, .iload_n 1, [], 0), (5, .invokevirtual 43, [86, 2, 1, 0, 1, 1, 0], 0), (8, .istore_n 2, [], 0), (9, .iconst 0, [], 0), (10, .istore_n 3, [], 0), (11, .nop, [], 0), (11, .iload_n 3, [], 0), (12, .aload_n 0, [], 0), (13, .getfield 23, [27, 1, 0, 0, 0], 0), (16, .if_icmp .ge 40, [31], 0), (19, .aload_n 0, [], 0), (20, .getfield 13, [27, 0, 13, 1, 0], 0), (23, .iload_n 3, [], 0), (24, .iload_n 1, [], 0), (25, .invokevirtual 46, [87, 3, 1, 0, 1, 1, 0], 0), (28, .ifCond .eq 22, [29], 0), (31, .iload_n 2, [], 0), (32, .aload_n 0, [], 0), (33, .iload_n 3, [], 0), (34, .invokevirtual 30, [], 0), (37, .aload_n 0, [], 0), (38, .getfield 13, [27, 0, 13, 1, 0], 0), (41, .iload_n 3, [], 0), (42, .invokevirtual 34, [88, 2, 1, 0, 1, 1, 0], 0), (45, .iadd, [], 0), (46, .invokestatic 37, [44, 2, 1, 0, 0, 1, 4], 0), (49, .istore_n 2, [], 0), (50, .iinc 3 1, [], 1), (53, .goto (-42), [7], 0), (56, .iload_n 2, [], 0), (57, .ireturn, [], 0)]
/-- ProjectPlannerLaw$Plan early#6 (I)I -/
noncomputable def T_Q_early_6 : List xE := [(0, .aload_n 0, [], 0), (1, .getfield 13, [27, 0, 13, 1, 0], 0), (4, .iload_n 1, [], 0), (5, .invokevirtual 43, [86, 2, 1, 0, 1, 1, 0], 0), (8, .istore_n 2, [], 0), (9, .iconst 0, [], 0), (10, .istore_n 3, [], 0), (11, .nop, [], 0), (11, .iload_n 3, [], 0), (12, .aload_n 0, [], 0), (13, .getfield 23, [27, 1, 0, 0, 0], 0), (16, .if_icmp .ge 40, [31], 0), (19, .aload_n 0, [], 0), (20, .getfield 13, [27, 0, 13, 1, 0], 0), (23, .iload_n 3, [], 0), (24, .iload_n 1, [], 0), (25, .invokevirtual 46, [87, 3, 1, 0, 1, 1, 0], 0), (28, .ifCond .eq 22, [29], 0), (31, .iload_n 2, [], 0), (32, .aload_n 0, [], 0), (33, .iload_n 3, [], 0), (34, .invokevirtual 30, [89, 2, 1, 0, 27, 0], 0), (37, .aload_n 0, [], 0), (38, .getfield 13, [27, 0, 13, 1, 0], 0), (41, .iload_n 3, [], 0), (42, .invokevirtual 34, [88, 2, 1, 0, 1, 1, 0], 0), (45, .iadd, [], 0), (46, .invokestatic 37, [44, 2, 1, 0, 0, 1, 4], 0), (49, .istore_n 2, [], 0), (50, .iinc 3 1, [], 1), (53, .goto (-42), [7], 0), (56, .iload_n 2, [], 0), (57, .ireturn, [], 0)]
/-- ProjectPlannerLaw$Plan early#5 (I)I -/
noncomputable def T_Q_early_5 : List xE := [(0, .aload_n 0, [], 0), (1, .getfield 13, [27, 0, 13, 1, 0], 0), (4, .iload_n 1, [], 0), (5, .invokevirtual 43, [86, 2, 1, 0, 1, 1, 0], 0), (8, .istore_n 2, [], 0), (9, .iconst 0, [], 0), (10, .istore_n 3, [], 0), (11, .nop, [], 0), (11, .iload_n 3, [], 0), (12, .aload_n 0, [], 0), (13, .getfield 23, [27, 1, 0, 0, 0], 0), (16, .if_icmp .ge 40, [31], 0), (19, .aload_n 0, [], 0), (20, .getfield 13, [27, 0, 13, 1, 0], 0), (23, .iload_n 3, [], 0), (24, .iload_n 1, [], 0), (25, .invokevirtual 46, [87, 3, 1, 0, 1, 1, 0], 0), (28, .ifCond .eq 22, [29], 0), (31, .iload_n 2, [], 0), (32, .aload_n 0, [], 0), (33, .iload_n 3, [], 0), (34, .invokevirtual 30, [90, 2, 1, 0, 27, 0], 0), (37, .aload_n 0, [], 0), (38, .getfield 13, [27, 0, 13, 1, 0], 0), (41, .iload_n 3, [], 0), (42, .invokevirtual 34, [88, 2, 1, 0, 1, 1, 0], 0), (45, .iadd, [], 0), (46, .invokestatic 37, [44, 2, 1, 0, 0, 1, 4], 0), (49, .istore_n 2, [], 0), (50, .iinc 3 1, [], 1), (53, .goto (-42), [7], 0), (56, .iload_n 2, [], 0), (57, .ireturn, [], 0)]
/-- ProjectPlannerLaw$Plan early#4 (I)I -/
noncomputable def T_Q_early_4 : List xE := [(0, .aload_n 0, [], 0), (1, .getfield 13, [27, 0, 13, 1, 0], 0), (4, .iload_n 1, [], 0), (5, .invokevirtual 43, [86, 2, 1, 0, 1, 1, 0], 0), (8, .istore_n 2, [], 0), (9, .iconst 0, [], 0), (10, .istore_n 3, [], 0), (11, .nop, [], 0), (11, .iload_n 3, [], 0), (12, .aload_n 0, [], 0), (13, .getfield 23, [27, 1, 0, 0, 0], 0), (16, .if_icmp .ge 40, [31], 0), (19, .aload_n 0, [], 0), (20, .getfield 13, [27, 0, 13, 1, 0], 0), (23, .iload_n 3, [], 0), (24, .iload_n 1, [], 0), (25, .invokevirtual 46, [87, 3, 1, 0, 1, 1, 0], 0), (28, .ifCond .eq 22, [29], 0), (31, .iload_n 2, [], 0), (32, .aload_n 0, [], 0), (33, .iload_n 3, [], 0), (34, .invokevirtual 30, [91, 2, 1, 0, 27, 0], 0), (37, .aload_n 0, [], 0), (38, .getfield 13, [27, 0, 13, 1, 0], 0), (41, .iload_n 3, [], 0), (42, .invokevirtual 34, [88, 2, 1, 0, 1, 1, 0], 0), (45, .iadd, [], 0), (46, .invokestatic 37, [44, 2, 1, 0, 0, 1, 4], 0), (49, .istore_n 2, [], 0), (50, .iinc 3 1, [], 1), (53, .goto (-42), [7], 0), (56, .iload_n 2, [], 0), (57, .ireturn, [], 0)]
/-- ProjectPlannerLaw$Plan early#3 (I)I -/
noncomputable def T_Q_early_3 : List xE := [(0, .aload_n 0, [], 0), (1, .getfield 13, [27, 0, 13, 1, 0], 0), (4, .iload_n 1, [], 0), (5, .invokevirtual 43, [86, 2, 1, 0, 1, 1, 0], 0), (8, .istore_n 2, [], 0), (9, .iconst 0, [], 0), (10, .istore_n 3, [], 0), (11, .nop, [], 0), (11, .iload_n 3, [], 0), (12, .aload_n 0, [], 0), (13, .getfield 23, [27, 1, 0, 0, 0], 0), (16, .if_icmp .ge 40, [31], 0), (19, .aload_n 0, [], 0), (20, .getfield 13, [27, 0, 13, 1, 0], 0), (23, .iload_n 3, [], 0), (24, .iload_n 1, [], 0), (25, .invokevirtual 46, [87, 3, 1, 0, 1, 1, 0], 0), (28, .ifCond .eq 22, [29], 0), (31, .iload_n 2, [], 0), (32, .aload_n 0, [], 0), (33, .iload_n 3, [], 0), (34, .invokevirtual 30, [92, 2, 1, 0, 27, 0], 0), (37, .aload_n 0, [], 0), (38, .getfield 13, [27, 0, 13, 1, 0], 0), (41, .iload_n 3, [], 0), (42, .invokevirtual 34, [88, 2, 1, 0, 1, 1, 0], 0), (45, .iadd, [], 0), (46, .invokestatic 37, [44, 2, 1, 0, 0, 1, 4], 0), (49, .istore_n 2, [], 0), (50, .iinc 3 1, [], 1), (53, .goto (-42), [7], 0), (56, .iload_n 2, [], 0), (57, .ireturn, [], 0)]
/-- ProjectPlannerLaw$Plan early#2 (I)I -/
noncomputable def T_Q_early_2 : List xE := [(0, .aload_n 0, [], 0), (1, .getfield 13, [27, 0, 13, 1, 0], 0), (4, .iload_n 1, [], 0), (5, .invokevirtual 43, [86, 2, 1, 0, 1, 1, 0], 0), (8, .istore_n 2, [], 0), (9, .iconst 0, [], 0), (10, .istore_n 3, [], 0), (11, .nop, [], 0), (11, .iload_n 3, [], 0), (12, .aload_n 0, [], 0), (13, .getfield 23, [27, 1, 0, 0, 0], 0), (16, .if_icmp .ge 40, [31], 0), (19, .aload_n 0, [], 0), (20, .getfield 13, [27, 0, 13, 1, 0], 0), (23, .iload_n 3, [], 0), (24, .iload_n 1, [], 0), (25, .invokevirtual 46, [87, 3, 1, 0, 1, 1, 0], 0), (28, .ifCond .eq 22, [29], 0), (31, .iload_n 2, [], 0), (32, .aload_n 0, [], 0), (33, .iload_n 3, [], 0), (34, .invokevirtual 30, [93, 2, 1, 0, 27, 0], 0), (37, .aload_n 0, [], 0), (38, .getfield 13, [27, 0, 13, 1, 0], 0), (41, .iload_n 3, [], 0), (42, .invokevirtual 34, [88, 2, 1, 0, 1, 1, 0], 0), (45, .iadd, [], 0), (46, .invokestatic 37, [44, 2, 1, 0, 0, 1, 4], 0), (49, .istore_n 2, [], 0), (50, .iinc 3 1, [], 1), (53, .goto (-42), [7], 0), (56, .iload_n 2, [], 0), (57, .ireturn, [], 0)]
/-- ProjectPlannerLaw$Plan early#1 (I)I -/
noncomputable def T_Q_early_1 : List xE := [(0, .aload_n 0, [], 0), (1, .getfield 13, [27, 0, 13, 1, 0], 0), (4, .iload_n 1, [], 0), (5, .invokevirtual 43, [86, 2, 1, 0, 1, 1, 0], 0), (8, .istore_n 2, [], 0), (9, .iconst 0, [], 0), (10, .istore_n 3, [], 0), (11, .nop, [], 0), (11, .iload_n 3, [], 0), (12, .aload_n 0, [], 0), (13, .getfield 23, [27, 1, 0, 0, 0], 0), (16, .if_icmp .ge 40, [31], 0), (19, .aload_n 0, [], 0), (20, .getfield 13, [27, 0, 13, 1, 0], 0), (23, .iload_n 3, [], 0), (24, .iload_n 1, [], 0), (25, .invokevirtual 46, [87, 3, 1, 0, 1, 1, 0], 0), (28, .ifCond .eq 22, [29], 0), (31, .iload_n 2, [], 0), (32, .aload_n 0, [], 0), (33, .iload_n 3, [], 0), (34, .invokevirtual 30, [94, 2, 1, 0, 27, 0], 0), (37, .aload_n 0, [], 0), (38, .getfield 13, [27, 0, 13, 1, 0], 0), (41, .iload_n 3, [], 0), (42, .invokevirtual 34, [88, 2, 1, 0, 1, 1, 0], 0), (45, .iadd, [], 0), (46, .invokestatic 37, [44, 2, 1, 0, 0, 1, 4], 0), (49, .istore_n 2, [], 0), (50, .iinc 3 1, [], 1), (53, .goto (-42), [7], 0), (56, .iload_n 2, [], 0), (57, .ireturn, [], 0)]
/-- ProjectPlannerLaw$Plan early#0 (I)I -/
noncomputable def T_Q_early_0 : List xE := [(0, .aload_n 0, [], 0), (1, .getfield 13, [27, 0, 13, 1, 0], 0), (4, .iload_n 1, [], 0), (5, .invokevirtual 43, [86, 2, 1, 0, 1, 1, 0], 0), (8, .istore_n 2, [], 0), (9, .iconst 0, [], 0), (10, .istore_n 3, [], 0), (11, .nop, [], 0), (11, .iload_n 3, [], 0), (12, .aload_n 0, [], 0), (13, .getfield 23, [27, 1, 0, 0, 0], 0), (16, .if_icmp .ge 40, [31], 0), (19, .aload_n 0, [], 0), (20, .getfield 13, [27, 0, 13, 1, 0], 0), (23, .iload_n 3, [], 0), (24, .iload_n 1, [], 0), (25, .invokevirtual 46, [87, 3, 1, 0, 1, 1, 0], 0), (28, .ifCond .eq 22, [29], 0), (31, .iload_n 2, [], 0), (32, .aload_n 0, [], 0), (33, .iload_n 3, [], 0), (34, .invokevirtual 30, [95, 2, 1, 0, 27, 0], 0), (37, .aload_n 0, [], 0), (38, .getfield 13, [27, 0, 13, 1, 0], 0), (41, .iload_n 3, [], 0), (42, .invokevirtual 34, [88, 2, 1, 0, 1, 1, 0], 0), (45, .iadd, [], 0), (46, .invokestatic 37, [44, 2, 1, 0, 0, 1, 4], 0), (49, .istore_n 2, [], 0), (50, .iinc 3 1, [], 1), (53, .goto (-42), [7], 0), (56, .iload_n 2, [], 0), (57, .ireturn, [], 0)]
/-- ProjectPlannerLaw$Plan <init> (LProjectPlanner;)V -/
noncomputable def T_Q_init : List xE := [(0, .aload_n 0, [], 0), (1, .invokespecial 1, [9999, 1, 0, 0, 0, 5], 0), (4, .aload_n 0, [], 0), (5, .bipush 12, [], 12), (7, .newarray .int, [28], 0), (9, .putfield 7, [27, 2, 12, 28, 0], 0), (12, .aload_n 0, [], 0), (13, .aload_n 1, [], 0), (14, .putfield 13, [27, 0, 13, 1, 0], 0), (17, .aload_n 0, [], 0), (18, .aload_n 1, [], 0), (19, .invokevirtual 17, [83, 1, 1, 0, 1, 1, 0], 0), (22, .putfield 23, [27, 1, 0, 0, 0], 0), (25, .iconst 0, [], 0), (26, .istore_n 2, [], 0), (27, .nop, [], 0), (27, .iload_n 2, [], 0), (28, .aload_n 0, [], 0), (29, .getfield 23, [27, 1, 0, 0, 0], 0), (32, .if_icmp .ge 31, [34], 0), (35, .aload_n 0, [], 0), (36, .aload_n 0, [], 0), (37, .getfield 27, [27, 3, 0, 0, 0], 0), (40, .aload_n 0, [], 0), (41, .iload_n 2, [], 0), (42, .invokevirtual 30, [96, 2, 1, 0, 27, 0], 0), (45, .aload_n 1, [], 0), (46, .iload_n 2, [], 0), (47, .invokevirtual 34, [88, 2, 1, 0, 1, 1, 0], 0), (50, .iadd, [], 0), (51, .invokestatic 37, [44, 2, 1, 0, 0, 1, 4], 0), (54, .putfield 27, [27, 3, 0, 0, 0], 0), (57, .iinc 2 1, [], 1), (60, .goto (-33), [15], 0), (63, .return_, [], 0)]
/-- ProjectPlanner rule ()I -/
noncomputable def T_C_rule : List xE := [(0, .aload_n 0, [], 0), (1, .getfield 80, [1, 0, 3, 2, 9], 0), (4, .getfield 123, [2, 0, 0, 0, 0], 0), (7, .ireturn, [], 0)]
/-- ProjectPlannerLaw$Plan ready (I)I -/
noncomputable def T_Q_ready : List xE := [(0, .aload_n 0, [], 0), (1, .getfield 13, [27, 0, 13, 1, 0], 0), (4, .iload_n 1, [], 0), (5, .invokevirtual 43, [86, 2, 1, 0, 1, 1, 0], 0), (8, .istore_n 2, [], 0), (9, .iconst 0, [], 0), (10, .istore_n 3, [], 0), (11, .nop, [], 0), (11, .iload_n 3, [], 0), (12, .aload_n 0, [], 0), (13, .getfield 23, [27, 1, 0, 0, 0], 0), (16, .if_icmp .ge 55, [40], 0), (19, .aload_n 0, [], 0), (20, .getfield 13, [27, 0, 13, 1, 0], 0), (23, .iload_n 3, [], 0), (24, .iload_n 1, [], 0), (25, .invokevirtual 46, [87, 3, 1, 0, 1, 1, 0], 0), (28, .ifCond .ne 6, [19], 0), (31, .goto 34, [38], 0), (34, .aload_n 0, [], 0), (35, .getfield 7, [27, 2, 12, 28, 0], 0), (38, .iload_n 3, [], 0), (39, .iaload, [], 0), (40, .ifCond .ge 5, [26], 0), (43, .iconst (-1), [], (-1)), (44, .ireturn, [], 0), (45, .iload_n 2, [], 0), (46, .aload_n 0, [], 0), (47, .getfield 7, [27, 2, 12, 28, 0], 0), (50, .iload_n 3, [], 0), (51, .iaload, [], 0), (52, .aload_n 0, [], 0), (53, .getfield 13, [27, 0, 13, 1, 0], 0), (56, .iload_n 3, [], 0), (57, .invokevirtual 34, [88, 2, 1, 0, 1, 1, 0], 0), (60, .iadd, [], 0), (61, .invokestatic 37, [44, 2, 1, 0, 0, 1, 4], 0), (64, .istore_n 2, [], 0), (65, .iinc 3 1, [], 1), (68, .goto (-57), [7], 0), (71, .iload_n 2, [], 0), (72, .ireturn, [], 0)]
/-- ProjectPlannerLaw$Plan late#7 (I)I -/
noncomputable def T_Q_late_7 : List xE := [(0, .aload_n 0, [], 0), (1, .getfield 27, [27, 3, 0, 0, 0], 0), (4, .istore_n 2, [], 0), (5, .iconst 0, [], 0), (6, .istore_n 3, [], 0), (7, .nop, [], 0), (7, .iload_n 3, [], 0), (8, .aload_n 0, [], 0), (9, .getfield 23, [27, 1, 0, 0, 0], 0), (12, .if_icmp .ge 31, [24], 0), (15, .aload_n 0, [], 0), (16, .getfield 13, [27, 0, 13, 1, 0], 0), (19, .iload_n 1, [], 0), (20, .iload_n 3, [], 0), (21, .invokevirtual 46, [87, 3, 1, 0, 1, 1, 0], 0), (24, .ifCond .eq 13, [22], 0), (27, .iload_n 2, [], 0), (28, .aload_n 0, [], 0), (29, .iload_n 3, [], 0), (30, .invokevirtual 50, [], 0), (33, .invokestatic 53, [47, 2, 1, 0, 0, 1, 4], 0), (36, .istore_n 2, [], 0), (37, .iinc 3 1, [], 1), (40, .goto (-33), [5], 0), (43, .iload_n 2, [], 0), (44, .aload_n 0, [], 0), (45, .getfield 13, [27, 0, 13, 1, 0], 0), (48, .iload_n 1, [], 0), (49, .invokevirtual 34, [88, 2, 1, 0, 1, 1, 0], 0), (52, .isub, [], 0), (53, .ireturn, [], 0)]
/-- ProjectPlannerLaw$Plan late#6 (I)I -/
noncomputable def T_Q_late_6 : List xE := [(0, .aload_n 0, [], 0), (1, .getfield 27, [27, 3, 0, 0, 0], 0), (4, .istore_n 2, [], 0), (5, .iconst 0, [], 0), (6, .istore_n 3, [], 0), (7, .nop, [], 0), (7, .iload_n 3, [], 0), (8, .aload_n 0, [], 0), (9, .getfield 23, [27, 1, 0, 0, 0], 0), (12, .if_icmp .ge 31, [24], 0), (15, .aload_n 0, [], 0), (16, .getfield 13, [27, 0, 13, 1, 0], 0), (19, .iload_n 1, [], 0), (20, .iload_n 3, [], 0), (21, .invokevirtual 46, [87, 3, 1, 0, 1, 1, 0], 0), (24, .ifCond .eq 13, [22], 0), (27, .iload_n 2, [], 0), (28, .aload_n 0, [], 0), (29, .iload_n 3, [], 0), (30, .invokevirtual 50, [100, 2, 1, 0, 27, 0], 0), (33, .invokestatic 53, [47, 2, 1, 0, 0, 1, 4], 0), (36, .istore_n 2, [], 0), (37, .iinc 3 1, [], 1), (40, .goto (-33), [5], 0), (43, .iload_n 2, [], 0), (44, .aload_n 0, [], 0), (45, .getfield 13, [27, 0, 13, 1, 0], 0), (48, .iload_n 1, [], 0), (49, .invokevirtual 34, [88, 2, 1, 0, 1, 1, 0], 0), (52, .isub, [], 0), (53, .ireturn, [], 0)]
/-- ProjectPlannerLaw$Plan late#5 (I)I -/
noncomputable def T_Q_late_5 : List xE := [(0, .aload_n 0, [], 0), (1, .getfield 27, [27, 3, 0, 0, 0], 0), (4, .istore_n 2, [], 0), (5, .iconst 0, [], 0), (6, .istore_n 3, [], 0), (7, .nop, [], 0), (7, .iload_n 3, [], 0), (8, .aload_n 0, [], 0), (9, .getfield 23, [27, 1, 0, 0, 0], 0), (12, .if_icmp .ge 31, [24], 0), (15, .aload_n 0, [], 0), (16, .getfield 13, [27, 0, 13, 1, 0], 0), (19, .iload_n 1, [], 0), (20, .iload_n 3, [], 0), (21, .invokevirtual 46, [87, 3, 1, 0, 1, 1, 0], 0), (24, .ifCond .eq 13, [22], 0), (27, .iload_n 2, [], 0), (28, .aload_n 0, [], 0), (29, .iload_n 3, [], 0), (30, .invokevirtual 50, [101, 2, 1, 0, 27, 0], 0), (33, .invokestatic 53, [47, 2, 1, 0, 0, 1, 4], 0), (36, .istore_n 2, [], 0), (37, .iinc 3 1, [], 1), (40, .goto (-33), [5], 0), (43, .iload_n 2, [], 0), (44, .aload_n 0, [], 0), (45, .getfield 13, [27, 0, 13, 1, 0], 0), (48, .iload_n 1, [], 0), (49, .invokevirtual 34, [88, 2, 1, 0, 1, 1, 0], 0), (52, .isub, [], 0), (53, .ireturn, [], 0)]
/-- ProjectPlannerLaw$Plan late#4 (I)I -/
noncomputable def T_Q_late_4 : List xE := [(0, .aload_n 0, [], 0), (1, .getfield 27, [27, 3, 0, 0, 0], 0), (4, .istore_n 2, [], 0), (5, .iconst 0, [], 0), (6, .istore_n 3, [], 0), (7, .nop, [], 0), (7, .iload_n 3, [], 0), (8, .aload_n 0, [], 0), (9, .getfield 23, [27, 1, 0, 0, 0], 0), (12, .if_icmp .ge 31, [24], 0), (15, .aload_n 0, [], 0), (16, .getfield 13, [27, 0, 13, 1, 0], 0), (19, .iload_n 1, [], 0), (20, .iload_n 3, [], 0), (21, .invokevirtual 46, [87, 3, 1, 0, 1, 1, 0], 0), (24, .ifCond .eq 13, [22], 0), (27, .iload_n 2, [], 0), (28, .aload_n 0, [], 0), (29, .iload_n 3, [], 0), (30, .invokevirtual 50, [102, 2, 1, 0, 27, 0], 0), (33, .invokestatic 53, [47, 2, 1, 0, 0, 1, 4], 0), (36, .istore_n 2, [], 0), (37, .iinc 3 1, [], 1), (40, .goto (-33), [5], 0), (43, .iload_n 2, [], 0), (44, .aload_n 0, [], 0), (45, .getfield 13, [27, 0, 13, 1, 0], 0), (48, .iload_n 1, [], 0), (49, .invokevirtual 34, [88, 2, 1, 0, 1, 1, 0], 0), (52, .isub, [], 0), (53, .ireturn, [], 0)]
/-- ProjectPlannerLaw$Plan late#3 (I)I -/
noncomputable def T_Q_late_3 : List xE := [(0, .aload_n 0, [], 0), (1, .getfield 27, [27, 3, 0, 0, 0], 0), (4, .istore_n 2, [], 0), (5, .iconst 0, [], 0), (6, .istore_n 3, [], 0), (7, .nop, [], 0), (7, .iload_n 3, [], 0), (8, .aload_n 0, [], 0), (9, .getfield 23, [27, 1, 0, 0, 0], 0), (12, .if_icmp .ge 31, [24], 0), (15, .aload_n 0, [], 0), (16, .getfield 13, [27, 0, 13, 1, 0], 0), (19, .iload_n 1, [], 0), (20, .iload_n 3, [], 0), (21, .invokevirtual 46, [87, 3, 1, 0, 1, 1, 0], 0), (24, .ifCond .eq 13, [22], 0), (27, .iload_n 2, [], 0), (28, .aload_n 0, [], 0), (29, .iload_n 3, [], 0), (30, .invokevirtual 50, [103, 2, 1, 0, 27, 0], 0), (33, .invokestatic 53, [47, 2, 1, 0, 0, 1, 4], 0), (36, .istore_n 2, [], 0), (37, .iinc 3 1, [], 1), (40, .goto (-33), [5], 0), (43, .iload_n 2, [], 0), (44, .aload_n 0, [], 0), (45, .getfield 13, [27, 0, 13, 1, 0], 0), (48, .iload_n 1, [], 0), (49, .invokevirtual 34, [88, 2, 1, 0, 1, 1, 0], 0), (52, .isub, [], 0), (53, .ireturn, [], 0)]
/-- ProjectPlannerLaw$Plan late#2 (I)I -/
noncomputable def T_Q_late_2 : List xE := [(0, .aload_n 0, [], 0), (1, .getfield 27, [27, 3, 0, 0, 0], 0), (4, .istore_n 2, [], 0), (5, .iconst 0, [], 0), (6, .istore_n 3, [], 0), (7, .nop, [], 0), (7, .iload_n 3, [], 0), (8, .aload_n 0, [], 0), (9, .getfield 23, [27, 1, 0, 0, 0], 0), (12, .if_icmp .ge 31, [24], 0), (15, .aload_n 0, [], 0), (16, .getfield 13, [27, 0, 13, 1, 0], 0), (19, .iload_n 1, [], 0), (20, .iload_n 3, [], 0), (21, .invokevirtual 46, [87, 3, 1, 0, 1, 1, 0], 0), (24, .ifCond .eq 13, [22], 0), (27, .iload_n 2, [], 0), (28, .aload_n 0, [], 0), (29, .iload_n 3, [], 0), (30, .invokevirtual 50, [104, 2, 1, 0, 27, 0], 0), (33, .invokestatic 53, [47, 2, 1, 0, 0, 1, 4], 0), (36, .istore_n 2, [], 0), (37, .iinc 3 1, [], 1), (40, .goto (-33), [5], 0), (43, .iload_n 2, [], 0), (44, .aload_n 0, [], 0), (45, .getfield 13, [27, 0, 13, 1, 0], 0), (48, .iload_n 1, [], 0), (49, .invokevirtual 34, [88, 2, 1, 0, 1, 1, 0], 0), (52, .isub, [], 0), (53, .ireturn, [], 0)]
/-- ProjectPlannerLaw$Plan late#1 (I)I -/
noncomputable def T_Q_late_1 : List xE := [(0, .aload_n 0, [], 0), (1, .getfield 27, [27, 3, 0, 0, 0], 0), (4, .istore_n 2, [], 0), (5, .iconst 0, [], 0), (6, .istore_n 3, [], 0), (7, .nop, [], 0), (7, .iload_n 3, [], 0), (8, .aload_n 0, [], 0), (9, .getfield 23, [27, 1, 0, 0, 0], 0), (12, .if_icmp .ge 31, [24], 0), (15, .aload_n 0, [], 0), (16, .getfield 13, [27, 0, 13, 1, 0], 0), (19, .iload_n 1, [], 0), (20, .iload_n 3, [], 0), (21, .invokevirtual 46, [87, 3, 1, 0, 1, 1, 0], 0), (24, .ifCond .eq 13, [22], 0), (27, .iload_n 2, [], 0), (28, .aload_n 0, [], 0), (29, .iload_n 3, [], 0), (30, .invokevirtual 50, [105, 2, 1, 0, 27, 0], 0), (33, .invokestatic 53, [47, 2, 1, 0, 0, 1, 4], 0), (36, .istore_n 2, [], 0), (37, .iinc 3 1, [], 1), (40, .goto (-33), [5], 0), (43, .iload_n 2, [], 0), (44, .aload_n 0, [], 0), (45, .getfield 13, [27, 0, 13, 1, 0], 0), (48, .iload_n 1, [], 0), (49, .invokevirtual 34, [88, 2, 1, 0, 1, 1, 0], 0), (52, .isub, [], 0), (53, .ireturn, [], 0)]
/-- ProjectPlannerLaw$Plan late#0 (I)I -/
noncomputable def T_Q_late_0 : List xE := [(0, .aload_n 0, [], 0), (1, .getfield 27, [27, 3, 0, 0, 0], 0), (4, .istore_n 2, [], 0), (5, .iconst 0, [], 0), (6, .istore_n 3, [], 0), (7, .nop, [], 0), (7, .iload_n 3, [], 0), (8, .aload_n 0, [], 0), (9, .getfield 23, [27, 1, 0, 0, 0], 0), (12, .if_icmp .ge 31, [24], 0), (15, .aload_n 0, [], 0), (16, .getfield 13, [27, 0, 13, 1, 0], 0), (19, .iload_n 1, [], 0), (20, .iload_n 3, [], 0), (21, .invokevirtual 46, [87, 3, 1, 0, 1, 1, 0], 0), (24, .ifCond .eq 13, [22], 0), (27, .iload_n 2, [], 0), (28, .aload_n 0, [], 0), (29, .iload_n 3, [], 0), (30, .invokevirtual 50, [106, 2, 1, 0, 27, 0], 0), (33, .invokestatic 53, [47, 2, 1, 0, 0, 1, 4], 0), (36, .istore_n 2, [], 0), (37, .iinc 3 1, [], 1), (40, .goto (-33), [5], 0), (43, .iload_n 2, [], 0), (44, .aload_n 0, [], 0), (45, .getfield 13, [27, 0, 13, 1, 0], 0), (48, .iload_n 1, [], 0), (49, .invokevirtual 34, [88, 2, 1, 0, 1, 1, 0], 0), (52, .isub, [], 0), (53, .ireturn, [], 0)]
/-- ProjectPlannerLaw$Plan after#7 (I[Z)I -/
noncomputable def T_Q_after_7 : List xE := [(0, .iconst 0, [], 0), (1, .istore_n 3, [], 0), (2, .iconst 0, [], 0), (3, .istore 4, [], 0), (5, .nop, [], 0), (5, .iload 4, [], 0), (7, .aload_n 0, [], 0), (8, .getfield 23, [27, 1, 0, 0, 0], 0), (11, .if_icmp .ge 49, [35], 0), (14, .aload_n 0, [], 0), (15, .getfield 13, [27, 0, 13, 1, 0], 0), (18, .iload_n 1, [], 0), (19, .iload 4, [], 0), (21, .invokevirtual 46, [87, 3, 1, 0, 1, 1, 0], 0), (24, .ifCond .eq 30, [33], 0), (27, .aload_n 2, [], 0), (28, .iload 4, [], 0), (30, .baload, [1], 0), (31, .ifCond .eq 6, [20], 0), (34, .goto 20, [33], 0), (37, .aload_n 2, [], 0), (38, .iload 4, [], 0), (40, .iconst 1, [], 1), (41, .bastore, [], 0), (42, .iload_n 3, [], 0), (43, .iconst 1, [], 1), (44, .aload_n 0, [], 0), (45, .iload 4, [], 0), (47, .aload_n 2, [], 0), (48, .invokevirtual 56, [], 0), (51, .iadd, [], 0), (52, .iadd, [], 0), (53, .istore_n 3, [], 0), (54, .iinc 4 1, [], 1), (57, .goto (-52), [4], 0), (60, .iload_n 3, [], 0), (61, .ireturn, [], 0)]
/-- ProjectPlannerLaw$Plan after#6 (I[Z)I -/
noncomputable def T_Q_after_6 : List xE := [(0, .iconst 0, [], 0), (1, .istore_n 3, [], 0), (2, .iconst 0, [], 0), (3, .istore 4, [], 0), (5, .nop, [], 0), (5, .iload 4, [], 0), (7, .aload_n 0, [], 0), (8, .getfield 23, [27, 1, 0, 0, 0], 0), (11, .if_icmp .ge 49, [35], 0), (14, .aload_n 0, [], 0), (15, .getfield 13, [27, 0, 13, 1, 0], 0), (18, .iload_n 1, [], 0), (19, .iload 4, [], 0), (21, .invokevirtual 46, [87, 3, 1, 0, 1, 1, 0], 0), (24, .ifCond .eq 30, [33], 0), (27, .aload_n 2, [], 0), (28, .iload 4, [], 0), (30, .baload, [1], 0), (31, .ifCond .eq 6, [20], 0), (34, .goto 20, [33], 0), (37, .aload_n 2, [], 0), (38, .iload 4, [], 0), (40, .iconst 1, [], 1), (41, .bastore, [], 0), (42, .iload_n 3, [], 0), (43, .iconst 1, [], 1), (44, .aload_n 0, [], 0), (45, .iload 4, [], 0), (47, .aload_n 2, [], 0), (48, .invokevirtual 56, [108, 3, 1, 0, 27, 0], 0), (51, .iadd, [], 0), (52, .iadd, [], 0), (53, .istore_n 3, [], 0), (54, .iinc 4 1, [], 1), (57, .goto (-52), [4], 0), (60, .iload_n 3, [], 0), (61, .ireturn, [], 0)]
/-- ProjectPlannerLaw$Plan after#5 (I[Z)I -/
noncomputable def T_Q_after_5 : List xE := [(0, .iconst 0, [], 0), (1, .istore_n 3, [], 0), (2, .iconst 0, [], 0), (3, .istore 4, [], 0), (5, .nop, [], 0), (5, .iload 4, [], 0), (7, .aload_n 0, [], 0), (8, .getfield 23, [27, 1, 0, 0, 0], 0), (11, .if_icmp .ge 49, [35], 0), (14, .aload_n 0, [], 0), (15, .getfield 13, [27, 0, 13, 1, 0], 0), (18, .iload_n 1, [], 0), (19, .iload 4, [], 0), (21, .invokevirtual 46, [87, 3, 1, 0, 1, 1, 0], 0), (24, .ifCond .eq 30, [33], 0), (27, .aload_n 2, [], 0), (28, .iload 4, [], 0), (30, .baload, [1], 0), (31, .ifCond .eq 6, [20], 0), (34, .goto 20, [33], 0), (37, .aload_n 2, [], 0), (38, .iload 4, [], 0), (40, .iconst 1, [], 1), (41, .bastore, [], 0), (42, .iload_n 3, [], 0), (43, .iconst 1, [], 1), (44, .aload_n 0, [], 0), (45, .iload 4, [], 0), (47, .aload_n 2, [], 0), (48, .invokevirtual 56, [109, 3, 1, 0, 27, 0], 0), (51, .iadd, [], 0), (52, .iadd, [], 0), (53, .istore_n 3, [], 0), (54, .iinc 4 1, [], 1), (57, .goto (-52), [4], 0), (60, .iload_n 3, [], 0), (61, .ireturn, [], 0)]
/-- ProjectPlannerLaw$Plan after#4 (I[Z)I -/
noncomputable def T_Q_after_4 : List xE := [(0, .iconst 0, [], 0), (1, .istore_n 3, [], 0), (2, .iconst 0, [], 0), (3, .istore 4, [], 0), (5, .nop, [], 0), (5, .iload 4, [], 0), (7, .aload_n 0, [], 0), (8, .getfield 23, [27, 1, 0, 0, 0], 0), (11, .if_icmp .ge 49, [35], 0), (14, .aload_n 0, [], 0), (15, .getfield 13, [27, 0, 13, 1, 0], 0), (18, .iload_n 1, [], 0), (19, .iload 4, [], 0), (21, .invokevirtual 46, [87, 3, 1, 0, 1, 1, 0], 0), (24, .ifCond .eq 30, [33], 0), (27, .aload_n 2, [], 0), (28, .iload 4, [], 0), (30, .baload, [1], 0), (31, .ifCond .eq 6, [20], 0), (34, .goto 20, [33], 0), (37, .aload_n 2, [], 0), (38, .iload 4, [], 0), (40, .iconst 1, [], 1), (41, .bastore, [], 0), (42, .iload_n 3, [], 0), (43, .iconst 1, [], 1), (44, .aload_n 0, [], 0), (45, .iload 4, [], 0), (47, .aload_n 2, [], 0), (48, .invokevirtual 56, [110, 3, 1, 0, 27, 0], 0), (51, .iadd, [], 0), (52, .iadd, [], 0), (53, .istore_n 3, [], 0), (54, .iinc 4 1, [], 1), (57, .goto (-52), [4], 0), (60, .iload_n 3, [], 0), (61, .ireturn, [], 0)]
/-- ProjectPlannerLaw$Plan after#3 (I[Z)I -/
noncomputable def T_Q_after_3 : List xE := [(0, .iconst 0, [], 0), (1, .istore_n 3, [], 0), (2, .iconst 0, [], 0), (3, .istore 4, [], 0), (5, .nop, [], 0), (5, .iload 4, [], 0), (7, .aload_n 0, [], 0), (8, .getfield 23, [27, 1, 0, 0, 0], 0), (11, .if_icmp .ge 49, [35], 0), (14, .aload_n 0, [], 0), (15, .getfield 13, [27, 0, 13, 1, 0], 0), (18, .iload_n 1, [], 0), (19, .iload 4, [], 0), (21, .invokevirtual 46, [87, 3, 1, 0, 1, 1, 0], 0), (24, .ifCond .eq 30, [33], 0), (27, .aload_n 2, [], 0), (28, .iload 4, [], 0), (30, .baload, [1], 0), (31, .ifCond .eq 6, [20], 0), (34, .goto 20, [33], 0), (37, .aload_n 2, [], 0), (38, .iload 4, [], 0), (40, .iconst 1, [], 1), (41, .bastore, [], 0), (42, .iload_n 3, [], 0), (43, .iconst 1, [], 1), (44, .aload_n 0, [], 0), (45, .iload 4, [], 0), (47, .aload_n 2, [], 0), (48, .invokevirtual 56, [111, 3, 1, 0, 27, 0], 0), (51, .iadd, [], 0), (52, .iadd, [], 0), (53, .istore_n 3, [], 0), (54, .iinc 4 1, [], 1), (57, .goto (-52), [4], 0), (60, .iload_n 3, [], 0), (61, .ireturn, [], 0)]
/-- ProjectPlannerLaw$Plan after#2 (I[Z)I -/
noncomputable def T_Q_after_2 : List xE := [(0, .iconst 0, [], 0), (1, .istore_n 3, [], 0), (2, .iconst 0, [], 0), (3, .istore 4, [], 0), (5, .nop, [], 0), (5, .iload 4, [], 0), (7, .aload_n 0, [], 0), (8, .getfield 23, [27, 1, 0, 0, 0], 0), (11, .if_icmp .ge 49, [35], 0), (14, .aload_n 0, [], 0), (15, .getfield 13, [27, 0, 13, 1, 0], 0), (18, .iload_n 1, [], 0), (19, .iload 4, [], 0), (21, .invokevirtual 46, [87, 3, 1, 0, 1, 1, 0], 0), (24, .ifCond .eq 30, [33], 0), (27, .aload_n 2, [], 0), (28, .iload 4, [], 0), (30, .baload, [1], 0), (31, .ifCond .eq 6, [20], 0), (34, .goto 20, [33], 0), (37, .aload_n 2, [], 0), (38, .iload 4, [], 0), (40, .iconst 1, [], 1), (41, .bastore, [], 0), (42, .iload_n 3, [], 0), (43, .iconst 1, [], 1), (44, .aload_n 0, [], 0), (45, .iload 4, [], 0), (47, .aload_n 2, [], 0), (48, .invokevirtual 56, [112, 3, 1, 0, 27, 0], 0), (51, .iadd, [], 0), (52, .iadd, [], 0), (53, .istore_n 3, [], 0), (54, .iinc 4 1, [], 1), (57, .goto (-52), [4], 0), (60, .iload_n 3, [], 0), (61, .ireturn, [], 0)]
/-- ProjectPlannerLaw$Plan after#1 (I[Z)I -/
noncomputable def T_Q_after_1 : List xE := [(0, .iconst 0, [], 0), (1, .istore_n 3, [], 0), (2, .iconst 0, [], 0), (3, .istore 4, [], 0), (5, .nop, [], 0), (5, .iload 4, [], 0), (7, .aload_n 0, [], 0), (8, .getfield 23, [27, 1, 0, 0, 0], 0), (11, .if_icmp .ge 49, [35], 0), (14, .aload_n 0, [], 0), (15, .getfield 13, [27, 0, 13, 1, 0], 0), (18, .iload_n 1, [], 0), (19, .iload 4, [], 0), (21, .invokevirtual 46, [87, 3, 1, 0, 1, 1, 0], 0), (24, .ifCond .eq 30, [33], 0), (27, .aload_n 2, [], 0), (28, .iload 4, [], 0), (30, .baload, [1], 0), (31, .ifCond .eq 6, [20], 0), (34, .goto 20, [33], 0), (37, .aload_n 2, [], 0), (38, .iload 4, [], 0), (40, .iconst 1, [], 1), (41, .bastore, [], 0), (42, .iload_n 3, [], 0), (43, .iconst 1, [], 1), (44, .aload_n 0, [], 0), (45, .iload 4, [], 0), (47, .aload_n 2, [], 0), (48, .invokevirtual 56, [113, 3, 1, 0, 27, 0], 0), (51, .iadd, [], 0), (52, .iadd, [], 0), (53, .istore_n 3, [], 0), (54, .iinc 4 1, [], 1), (57, .goto (-52), [4], 0), (60, .iload_n 3, [], 0), (61, .ireturn, [], 0)]
/-- ProjectPlannerLaw$Plan after#0 (I[Z)I -/
noncomputable def T_Q_after_0 : List xE := [(0, .iconst 0, [], 0), (1, .istore_n 3, [], 0), (2, .iconst 0, [], 0), (3, .istore 4, [], 0), (5, .nop, [], 0), (5, .iload 4, [], 0), (7, .aload_n 0, [], 0), (8, .getfield 23, [27, 1, 0, 0, 0], 0), (11, .if_icmp .ge 49, [35], 0), (14, .aload_n 0, [], 0), (15, .getfield 13, [27, 0, 13, 1, 0], 0), (18, .iload_n 1, [], 0), (19, .iload 4, [], 0), (21, .invokevirtual 46, [87, 3, 1, 0, 1, 1, 0], 0), (24, .ifCond .eq 30, [33], 0), (27, .aload_n 2, [], 0), (28, .iload 4, [], 0), (30, .baload, [1], 0), (31, .ifCond .eq 6, [20], 0), (34, .goto 20, [33], 0), (37, .aload_n 2, [], 0), (38, .iload 4, [], 0), (40, .iconst 1, [], 1), (41, .bastore, [], 0), (42, .iload_n 3, [], 0), (43, .iconst 1, [], 1), (44, .aload_n 0, [], 0), (45, .iload 4, [], 0), (47, .aload_n 2, [], 0), (48, .invokevirtual 56, [114, 3, 1, 0, 27, 0], 0), (51, .iadd, [], 0), (52, .iadd, [], 0), (53, .istore_n 3, [], 0), (54, .iinc 4 1, [], 1), (57, .goto (-52), [4], 0), (60, .iload_n 3, [], 0), (61, .ireturn, [], 0)]
/-- ProjectPlannerLaw$Plan isAhead (III)Z -/
noncomputable def T_Q_isAhead : List xE := [(0, .iload_n 1, [], 0), (1, .iconst 1, [], 1), (2, .if_icmp .ne 22, [14], 0), (5, .aload_n 0, [], 0), (6, .iload_n 2, [], 0), (7, .invokevirtual 50, [107, 2, 1, 0, 27, 0], 0), (10, .aload_n 0, [], 0), (11, .iload_n 3, [], 0), (12, .invokevirtual 50, [107, 2, 1, 0, 27, 0], 0), (15, .if_icmp .ge 7, [12], 0), (18, .iconst 1, [], 1), (19, .goto 4, [13], 0), (22, .iconst 0, [], 0), (23, .ireturn, [1], 0), (24, .iload_n 1, [], 0), (25, .iconst 2, [], 2), (26, .if_icmp .ne 28, [30], 0), (29, .aload_n 0, [], 0), (30, .getfield 13, [27, 0, 13, 1, 0], 0), (33, .iload_n 2, [], 0), (34, .invokevirtual 34, [88, 2, 1, 0, 1, 1, 0], 0), (37, .aload_n 0, [], 0), (38, .getfield 13, [27, 0, 13, 1, 0], 0), (41, .iload_n 3, [], 0), (42, .invokevirtual 34, [88, 2, 1, 0, 1, 1, 0], 0), (45, .if_icmp .le 7, [28], 0), (48, .iconst 1, [], 1), (49, .goto 4, [29], 0), (52, .iconst 0, [], 0), (53, .ireturn, [1], 0), (54, .iload_n 1, [], 0), (55, .iconst 3, [], 3), (56, .if_icmp .ne 28, [46], 0), (59, .aload_n 0, [], 0), (60, .iload_n 2, [], 0), (61, .bipush 12, [], 12), (63, .newarray .boolean, [29], 0), (65, .invokevirtual 56, [115, 3, 1, 0, 27, 0], 0), (68, .aload_n 0, [], 0), (69, .iload_n 3, [], 0), (70, .bipush 12, [], 12), (72, .newarray .boolean, [29], 0), (74, .invokevirtual 56, [115, 3, 1, 0, 27, 0], 0), (77, .if_icmp .le 7, [46], 0), (80, .iconst 1, [], 1), (81, .goto 4, [47], 0), (84, .iconst 0, [], 0), (85, .ireturn, [1], 0)]
/-- ProjectPlanner resourceCount ()I -/
noncomputable def T_C_resourceCount : List xE := [(0, .aload_n 0, [], 0), (1, .getfield 80, [1, 0, 3, 2, 9], 0), (4, .getfield 120, [2, 1, 0, 0, 0], 0), (7, .ireturn, [], 0)]
/-- ProjectPlannerLaw$Plan isOn (II)Z -/
noncomputable def T_Q_isOn : List xE := [(0, .aload_n 0, [], 0), (1, .getfield 7, [27, 2, 12, 28, 0], 0), (4, .iload_n 1, [], 0), (5, .iaload, [], 0), (6, .ifCond .lt 36, [24], 0), (9, .aload_n 0, [], 0), (10, .getfield 7, [27, 2, 12, 28, 0], 0), (13, .iload_n 1, [], 0), (14, .iaload, [], 0), (15, .iload_n 2, [], 0), (16, .if_icmp .gt 26, [24], 0), (19, .iload_n 2, [], 0), (20, .aload_n 0, [], 0), (21, .getfield 7, [27, 2, 12, 28, 0], 0), (24, .iload_n 1, [], 0), (25, .iaload, [], 0), (26, .aload_n 0, [], 0), (27, .getfield 13, [27, 0, 13, 1, 0], 0), (30, .iload_n 1, [], 0), (31, .invokevirtual 34, [88, 2, 1, 0, 1, 1, 0], 0), (34, .iadd, [], 0), (35, .if_icmp .ge 7, [24], 0), (38, .iconst 1, [], 1), (39, .goto 4, [25], 0), (42, .iconst 0, [], 0), (43, .ireturn, [1], 0)]
/-- ProjectPlanner$Plan hasResource (I)Z -/
noncomputable def T_P_hasResource : List xE := [(0, .iload_n 1, [], 0), (1, .ifCond .lt 15, [8], 0), (4, .iload_n 1, [], 0), (5, .aload_n 0, [], 0), (6, .getfield 38, [2, 1, 0, 0, 0], 0), (9, .if_icmp .ge 7, [8], 0), (12, .iconst 1, [], 1), (13, .goto 4, [9], 0), (16, .iconst 0, [], 0), (17, .ireturn, [1], 0)]
/-- ProjectPlanner requireResource (I)V -/
noncomputable def T_C_requireResource : List xE := [(0, .aload_n 0, [], 0), (1, .getfield 80, [1, 0, 3, 2, 9], 0), (4, .iload_n 1, [], 0), (5, .invokevirtual 374, [119, 2, 1, 0, 2], 0), (8, .ifCond .ne 14, [6], 0), (11, .new 137, [2, 6], 0), (22, .return_, [], 0)]
/-- ProjectPlanner$Plan demandOf (II)I -/
noncomputable def T_P_demandOf : List xE := [(0, .aload_n 0, [], 0), (1, .getfield 31, [2, 9, 2, 9, 0], 0), (4, .iload_n 1, [], 0), (5, .iconst 3, [], 3), (6, .imul, [], 0), (7, .iload_n 2, [], 0), (8, .iadd, [], 0), (9, .iaload, [], 0), (10, .ireturn, [], 0)]
/-- ProjectPlanner demand (II)I -/
noncomputable def T_C_demand : List xE := [(0, .aload_n 0, [], 0), (1, .iload_n 1, [], 0), (2, .invokevirtual 126, [85, 2, 0, 0, 1], 0), (5, .aload_n 0, [], 0), (6, .iload_n 2, [], 0), (7, .invokevirtual 160, [120, 2, 0, 0, 1], 0), (10, .aload_n 0, [], 0), (11, .getfield 80, [1, 0, 3, 2, 9], 0), (14, .iload_n 1, [], 0), (15, .iload_n 2, [], 0), (16, .invokevirtual 173, [121, 3, 1, 0, 2], 0), (19, .ireturn, [], 0)]
/-- ProjectPlannerLaw$Plan usage (II)I -/
noncomputable def T_Q_usage : List xE := [(0, .iconst 0, [], 0), (1, .istore_n 3, [], 0), (2, .iconst 0, [], 0), (3, .istore 4, [], 0), (5, .nop, [], 0), (5, .iload 4, [], 0), (7, .aload_n 0, [], 0), (8, .getfield 23, [27, 1, 0, 0, 0], 0), (11, .if_icmp .ge 36, [26], 0), (14, .iload_n 3, [], 0), (15, .aload_n 0, [], 0), (16, .iload 4, [], 0), (18, .iload_n 2, [], 0), (19, .invokevirtual 60, [118, 3, 1, 0, 27, 0], 0), (22, .ifCond .eq 16, [21], 0), (25, .aload_n 0, [], 0), (26, .getfield 13, [27, 0, 13, 1, 0], 0), (29, .iload 4, [], 0), (31, .iload_n 1, [], 0), (32, .invokevirtual 63, [122, 3, 1, 0, 1, 1, 0], 0), (35, .goto 4, [22], 0), (38, .iconst 0, [], 0), (39, .iadd, [], 0), (40, .istore_n 3, [], 0), (41, .iinc 4 1, [], 1), (44, .goto (-39), [4], 0), (47, .iload_n 3, [], 0), (48, .ireturn, [], 0)]
/-- ProjectPlanner capacity (I)I -/
noncomputable def T_C_capacity : List xE := [(0, .aload_n 0, [], 0), (1, .iload_n 1, [], 0), (2, .invokevirtual 160, [120, 2, 0, 0, 1], 0), (5, .aload_n 0, [], 0), (6, .getfield 80, [1, 0, 3, 2, 9], 0), (9, .getfield 163, [2, 4, 2, 4, 0], 0), (12, .iload_n 1, [], 0), (13, .iaload, [], 0), (14, .ireturn, [], 0)]
/-- ProjectPlannerLaw$Plan fits (II)Z -/
noncomputable def T_Q_fits : List xE := [(0, .iload_n 2, [], 0), (1, .istore_n 3, [], 0), (2, .nop, [4], 0), (2, .iload_n 3, [], 0), (3, .iload_n 2, [], 0), (4, .aload_n 0, [], 0), (5, .getfield 13, [27, 0, 13, 1, 0], 0), (8, .iload_n 1, [], 0), (9, .invokevirtual 34, [88, 2, 1, 0, 1, 1, 0], 0), (12, .iadd, [], 0), (13, .if_icmp .ge 62, [40], 0), (16, .iconst 0, [], 0), (17, .istore 4, [], 0), (19, .nop, [], 0), (19, .iload 4, [], 0), (21, .aload_n 0, [], 0), (22, .getfield 13, [27, 0, 13, 1, 0], 0), (25, .invokevirtual 66, [117, 1, 1, 0, 1, 1, 0], 0), (28, .if_icmp .ge 41, [38], 0), (31, .aload_n 0, [], 0), (32, .iload 4, [], 0), (34, .iload_n 3, [], 0), (35, .invokevirtual 69, [123, 3, 1, 0, 27, 0], 0), (38, .aload_n 0, [], 0), (39, .getfield 13, [27, 0, 13, 1, 0], 0), (42, .iload_n 1, [], 0), (43, .iload 4, [], 0), (45, .invokevirtual 63, [122, 3, 1, 0, 1, 1, 0], 0), (48, .iadd, [], 0), (49, .aload_n 0, [], 0), (50, .getfield 13, [27, 0, 13, 1, 0], 0), (53, .iload 4, [], 0), (55, .invokevirtual 72, [124, 2, 1, 0, 1, 1, 0], 0), (58, .if_icmp .le 5, [36], 0), (61, .iconst 0, [], 0), (62, .ireturn, [1], 0), (63, .iinc 4 1, [], 1), (66, .goto (-47), [13], 0), (69, .iinc 3 1, [], 1), (72, .goto (-70), [2], 0), (75, .iconst 1, [], 1), (76, .ireturn, [1], 0)]
/-- ProjectPlannerLaw$Plan build (I)I -/
noncomputable def T_Q_build : List xE := [(0, .iconst 0, [], 0), (1, .istore_n 2, [], 0), (2, .iconst 0, [], 0), (3, .istore_n 3, [], 0), (4, .nop, [4, 5], 0), (4, .iload_n 3, [], 0), (5, .aload_n 0, [], 0), (6, .getfield 23, [27, 1, 0, 0, 0], 0), (9, .if_icmp .ge 16, [16], 0), (12, .aload_n 0, [], 0), (13, .getfield 7, [27, 2, 12, 28, 0], 0), (16, .iload_n 3, [], 0), (17, .iconst (-1), [], (-1)), (18, .iastore, [], 0), (19, .iinc 3 1, [], 1), (22, .goto (-18), [4], 0), (25, .iconst 0, [], 0), (26, .istore_n 3, [], 0), (27, .nop, [4, 5], 0), (27, .iload_n 3, [], 0), (28, .aload_n 0, [], 0), (29, .getfield 23, [27, 1, 0, 0, 0], 0), (32, .if_icmp .ge 121, [81], 0), (35, .iconst (-1), [], (-1)), (36, .istore 4, [], 0), (38, .iconst 0, [], 0), (39, .istore 5, [], 0), (41, .nop, [], 0), (41, .iload 5, [], 0), (43, .aload_n 0, [], 0), (44, .getfield 23, [27, 1, 0, 0, 0], 0), (47, .if_icmp .ge 49, [53], 0), (50, .aload_n 0, [], 0), (51, .getfield 7, [27, 2, 12, 28, 0], 0), (54, .iload 5, [], 0), (56, .iaload, [], 0), (57, .ifCond .ge 33, [51], 0), (60, .aload_n 0, [], 0), (61, .iload 5, [], 0), (63, .invokevirtual 75, [99, 2, 1, 0, 27, 0], 0), (66, .ifCond .lt 24, [51], 0), (69, .iload 4, [], 0), (71, .ifCond .lt 15, [49], 0), (74, .aload_n 0, [], 0), (75, .iload_n 1, [], 0), (76, .iload 5, [], 0), (78, .iload 4, [], 0), (80, .invokevirtual 78, [116, 4, 1, 0, 27, 0], 0), (83, .ifCond .eq 7, [51], 0), (86, .iload 5, [], 0), (88, .istore 4, [], 0), (90, .iinc 5 1, [], 1), (93, .goto (-52), [27], 0), (96, .aload_n 0, [], 0), (97, .iload 4, [], 0), (99, .invokevirtual 75, [99, 2, 1, 0, 27, 0], 0), (102, .istore 5, [], 0), (104, .nop, [], 0), (104, .aload_n 0, [], 0), (105, .iload 4, [], 0), (107, .iload 5, [], 0), (109, .invokevirtual 82, [125, 3, 1, 0, 27, 0], 0), (112, .ifCond .ne 9, [65], 0), (115, .iinc 5 1, [], 1), (118, .goto (-14), [57], 0), (121, .aload_n 0, [], 0), (122, .getfield 7, [27, 2, 12, 28, 0], 0), (125, .iload 4, [], 0), (127, .iload 5, [], 0), (129, .iastore, [], 0), (130, .iload_n 2, [], 0), (131, .iload 5, [], 0), (133, .aload_n 0, [], 0), (134, .getfield 13, [27, 0, 13, 1, 0], 0), (137, .iload 4, [], 0), (139, .invokevirtual 34, [88, 2, 1, 0, 1, 1, 0], 0), (142, .iadd, [], 0), (143, .invokestatic 37, [44, 2, 1, 0, 0, 1, 4], 0), (146, .istore_n 2, [], 0), (147, .iinc 3 1, [], 1), (150, .goto (-123), [18], 0), (153, .iload_n 2, [], 0), (154, .ireturn, [], 0)]
/-- ProjectPlanner$Plan isReady (II)Z -/
noncomputable def T_P_isReady : List xE := [(0, .iload_n 2, [], 0), (1, .iload_n 1, [], 0), (2, .invokestatic 63, [37, 2, 1, 0, 0, 0], 0), (5, .ifCond .ne 20, [15], 0), (8, .aload_n 0, [], 0), (9, .getfield 28, [2, 8, 2, 8, 0], 0), (12, .iload_n 1, [], 0), (13, .iaload, [], 0), (14, .iload_n 2, [], 0), (15, .iconst (-1), [], (-1)), (16, .ixor, [], 0), (17, .iand, [], 0), (18, .ifCond .ne 7, [15], 0), (21, .iconst 1, [], 1), (22, .goto 4, [16], 0), (25, .iconst 0, [], 0), (26, .ireturn, [1], 0)]
/-- ProjectPlanner$Dates sortTasks (LProjectPlanner$Plan;)V -/
noncomputable def T_D_sortTasks : List xE := [(0, .iconst 0, [], 0), (1, .istore_n 2, [], 0), (2, .iconst 0, [], 0), (3, .istore_n 3, [], 0), (4, .nop, [4], 0), (4, .iload_n 3, [], 0), (5, .aload_n 1, [], 0), (6, .getfield 32, [2, 2, 0, 0, 0], 0), (9, .if_icmp .ge 55, [37], 0), (12, .iconst 0, [], 0), (13, .istore 4, [], 0), (15, .nop, [], 0), (15, .iload 4, [], 0), (17, .aload_n 1, [], 0), (18, .getfield 32, [2, 2, 0, 0, 0], 0), (21, .if_icmp .ge 37, [35], 0), (24, .aload_n 1, [], 0), (25, .iload 4, [], 0), (27, .iload_n 2, [], 0), (28, .invokevirtual 44, [127, 3, 1, 0, 2], 0), (31, .ifCond .eq 21, [33], 0), (34, .aload_n 0, [], 0), (35, .getfield 9, [10, 0, 2, 11, 0], 0), (38, .iload_n 3, [], 0), (39, .iload 4, [], 0), (41, .iastore, [], 0), (42, .iload_n 2, [], 0), (43, .iconst 1, [], 1), (44, .iload 4, [], 0), (46, .ishl, [], 0), (47, .ior, [], 0), (48, .istore_n 2, [], 0), (49, .goto 9, [35], 0), (52, .iinc 4 1, [], 1), (55, .goto (-40), [11], 0), (58, .iinc 3 1, [], 1), (61, .goto (-57), [4], 0), (64, .return_, [], 0)]
/-- ProjectPlanner$Dates findEarliest (LProjectPlanner$Plan;I)V -/
noncomputable def T_D_findEarliest : List xE := [(0, .aload_n 1, [], 0), (1, .getfield 48, [2, 7, 2, 7, 0], 0), (4, .iload_n 2, [], 0), (5, .iaload, [], 0), (6, .istore_n 3, [], 0), (7, .iconst 0, [], 0), (8, .istore 4, [], 0), (10, .iconst 0, [], 0), (11, .istore 5, [], 0), (13, .nop, [], 0), (13, .iload 5, [], 0), (15, .aload_n 1, [], 0), (16, .getfield 32, [2, 2, 0, 0, 0], 0), (19, .if_icmp .ge 56, [44], 0), (22, .aload_n 1, [], 0), (23, .iload 5, [], 0), (25, .iload_n 2, [], 0), (26, .invokevirtual 51, [38, 3, 1, 0, 2], 0), (29, .ifCond .eq 40, [42], 0), (32, .iload_n 3, [], 0), (33, .aload_n 0, [], 0), (34, .getfield 18, [10, 2, 2, 13, 0], 0), (37, .iload 5, [], 0), (39, .iaload, [], 0), (40, .aload_n 1, [], 0), (41, .getfield 54, [2, 6, 2, 6, 0], 0), (44, .iload 5, [], 0), (46, .iaload, [], 0), (47, .iadd, [], 0), (48, .invokestatic 57, [44, 2, 1, 0, 0, 0], 0), (51, .istore_n 3, [], 0), (52, .iload 4, [], 0), (54, .aload_n 0, [], 0), (55, .getfield 15, [10, 1, 2, 12, 0], 0), (58, .iload 5, [], 0), (60, .iaload, [], 0), (61, .iconst 1, [], 1), (62, .iload 5, [], 0), (64, .ishl, [], 0), (65, .ior, [], 0), (66, .ior, [], 0), (67, .istore 4, [], 0), (69, .iinc 5 1, [], 1), (72, .goto (-59), [9], 0), (75, .aload_n 0, [], 0), (76, .getfield 18, [10, 2, 2, 13, 0], 0), (79, .iload_n 2, [], 0), (80, .iload_n 3, [], 0), (81, .iastore, [], 0), (82, .aload_n 0, [], 0), (83, .getfield 15, [10, 1, 2, 12, 0], 0), (86, .iload_n 2, [], 0), (87, .iload 4, [], 0), (89, .iastore, [], 0), (90, .aload_n 0, [], 0), (91, .aload_n 0, [], 0), (92, .getfield 28, [10, 4, 0, 0, 0], 0), (95, .iload_n 3, [], 0), (96, .aload_n 1, [], 0), (97, .getfield 54, [2, 6, 2, 6, 0], 0), (100, .iload_n 2, [], 0), (101, .iaload, [], 0), (102, .iadd, [], 0), (103, .invokestatic 57, [44, 2, 1, 0, 0, 0], 0), (106, .putfield 28, [10, 4, 0, 0, 0], 0), (109, .return_, [], 0)]
/-- ProjectPlanner$Dates findLatest (LProjectPlanner$Plan;I)V -/
noncomputable def T_D_findLatest : List xE := [(0, .aload_n 0, [], 0), (1, .getfield 28, [10, 4, 0, 0, 0], 0), (4, .istore_n 3, [], 0), (5, .iconst 0, [], 0), (6, .istore 4, [], 0), (8, .nop, [], 0), (8, .iload 4, [], 0), (10, .aload_n 1, [], 0), (11, .getfield 32, [2, 2, 0, 0, 0], 0), (14, .if_icmp .ge 31, [24], 0), (17, .aload_n 1, [], 0), (18, .iload_n 2, [], 0), (19, .iload 4, [], 0), (21, .invokevirtual 51, [38, 3, 1, 0, 2], 0), (24, .ifCond .eq 15, [22], 0), (27, .iload_n 3, [], 0), (28, .aload_n 0, [], 0), (29, .getfield 21, [10, 3, 2, 14, 0], 0), (32, .iload 4, [], 0), (34, .iaload, [], 0), (35, .invokestatic 63, [47, 2, 1, 0, 0, 0], 0), (38, .istore_n 3, [], 0), (39, .iinc 4 1, [], 1), (42, .goto (-34), [5], 0), (45, .aload_n 0, [], 0), (46, .getfield 21, [10, 3, 2, 14, 0], 0), (49, .iload_n 2, [], 0), (50, .iload_n 3, [], 0), (51, .aload_n 1, [], 0), (52, .getfield 54, [2, 6, 2, 6, 0], 0), (55, .iload_n 2, [], 0), (56, .iaload, [], 0), (57, .isub, [], 0), (58, .iastore, [], 0), (59, .return_, [], 0)]
/-- ProjectPlanner$Dates compute (LProjectPlanner$Plan;)V -/
noncomputable def T_D_compute : List xE := [(0, .aload_n 0, [], 0), (1, .aload_n 1, [], 0), (2, .invokevirtual 24, [128, 2, 0, 0, 10], 0), (5, .aload_n 0, [], 0), (6, .iconst 0, [], 0), (7, .putfield 28, [10, 4, 0, 0, 0], 0), (10, .iconst 0, [], 0), (11, .istore_n 2, [], 0), (12, .nop, [], 0), (12, .iload_n 2, [], 0), (13, .aload_n 1, [], 0), (14, .getfield 32, [2, 2, 0, 0, 0], 0), (17, .if_icmp .ge 20, [22], 0), (20, .aload_n 0, [], 0), (21, .aload_n 1, [], 0), (22, .aload_n 0, [], 0), (23, .getfield 9, [10, 0, 2, 11, 0], 0), (26, .iload_n 2, [], 0), (27, .iaload, [], 0), (28, .invokevirtual 37, [129, 3, 0, 0, 10], 0), (31, .iinc 2 1, [], 1), (34, .goto (-22), [8], 0), (37, .aload_n 1, [], 0), (38, .getfield 32, [2, 2, 0, 0, 0], 0), (41, .iconst 1, [], 1), (42, .isub, [], 0), (43, .istore_n 2, [], 0), (44, .nop, [], 0), (44, .iload_n 2, [], 0), (45, .ifCond .lt 20, [39], 0), (48, .aload_n 0, [], 0), (49, .aload_n 1, [], 0), (50, .aload_n 0, [], 0), (51, .getfield 9, [10, 0, 2, 11, 0], 0), (54, .iload_n 2, [], 0), (55, .iaload, [], 0), (56, .invokevirtual 41, [130, 3, 0, 0, 10], 0), (59, .iinc 2 (-1), [], (-1)), (62, .goto (-18), [27], 0), (65, .return_, [], 0)]
/-- ProjectPlanner$Dates countFollowers (LProjectPlanner$Plan;I)I -/
noncomputable def T_D_countFollowers : List xE := [(0, .iconst 0, [], 0), (1, .istore_n 3, [], 0), (2, .iconst 0, [], 0), (3, .istore 4, [], 0), (5, .nop, [], 0), (5, .iload 4, [], 0), (7, .aload_n 1, [], 0), (8, .getfield 32, [2, 2, 0, 0, 0], 0), (11, .if_icmp .ge 26, [19], 0), (14, .aload_n 0, [], 0), (15, .getfield 15, [10, 1, 2, 12, 0], 0), (18, .iload 4, [], 0), (20, .iaload, [], 0), (21, .iload_n 2, [], 0), (22, .invokestatic 66, [37, 2, 1, 0, 0, 0], 0), (25, .ifCond .eq 6, [17], 0), (28, .iinc 3 1, [], 1), (31, .iinc 4 1, [], 1), (34, .goto (-29), [4], 0), (37, .iload_n 3, [], 0), (38, .ireturn, [], 0)]
/-- ProjectPlanner$Schedule rankOf (LProjectPlanner$Plan;I)I -/
noncomputable def T_S_rankOf : List xE := [(0, .aload_n 1, [], 0), (1, .getfield 62, [2, 0, 0, 0, 0], 0), (4, .tableswitch 56 1 3 #[28, 39, 46], [21, 1, 3, 10, 15], 0), (32, .aload_n 0, [], 0), (33, .getfield 12, [15, 0, 2, 10, 0], 0), (36, .getfield 65, [10, 3, 2, 14, 0], 0), (39, .iload_n 2, [], 0), (40, .iaload, [], 0), (41, .ineg, [], 0), (42, .ireturn, [], 0), (43, .aload_n 1, [], 0), (44, .getfield 46, [2, 6, 2, 6, 0], 0), (47, .iload_n 2, [], 0), (48, .iaload, [], 0), (49, .ireturn, [], 0), (50, .aload_n 0, [], 0), (51, .getfield 12, [15, 0, 2, 10, 0], 0), (54, .aload_n 1, [], 0), (55, .iload_n 2, [], 0), (56, .invokevirtual 68, [132, 3, 1, 0, 10], 0), (59, .ireturn, [], 0), (60, .iconst 0, [], 0), (61, .ireturn, [], 0)]
/-- ProjectPlanner$Schedule bestReady (LProjectPlanner$Plan;)I -/
noncomputable def T_S_bestReady : List xE := [(0, .iconst (-1), [], (-1)), (1, .istore_n 2, [], 0), (2, .iconst 0, [], 0), (3, .istore_n 3, [], 0), (4, .iconst 0, [], 0), (5, .istore 4, [], 0), (7, .nop, [5], 0), (7, .iload 4, [], 0), (9, .aload_n 1, [], 0), (10, .getfield 33, [2, 2, 0, 0, 0], 0), (13, .if_icmp .ge 48, [34], 0), (16, .aload_n 1, [], 0), (17, .iload 4, [], 0), (19, .aload_n 0, [], 0), (20, .getfield 26, [15, 2, 0, 0, 0], 0), (23, .invokevirtual 55, [127, 3, 1, 0, 2], 0), (26, .ifCond .eq 29, [32], 0), (29, .aload_n 0, [], 0), (30, .aload_n 1, [], 0), (31, .iload 4, [], 0), (33, .invokevirtual 59, [133, 3, 1, 0, 15], 0), (36, .istore 5, [], 0), (38, .iload_n 2, [], 0), (39, .iconst (-1), [], (-1)), (40, .if_icmp .eq 9, [28], 0), (43, .iload 5, [], 0), (45, .iload_n 3, [], 0), (46, .if_icmp .le 9, [32], 0), (49, .iload 4, [], 0), (51, .istore_n 2, [], 0), (52, .iload 5, [], 0), (54, .istore_n 3, [], 0), (55, .iinc 4 1, [], 1), (58, .goto (-51), [6], 0), (61, .iload_n 2, [], 0), (62, .ireturn, [], 0)]
/-- ProjectPlanner$Schedule predecessorsFinish (LProjectPlanner$Plan;I)I -/
noncomputable def T_S_predecessorsFinish : List xE := [(0, .iconst 0, [], 0), (1, .istore_n 3, [], 0), (2, .iconst 0, [], 0), (3, .istore 4, [], 0), (5, .nop, [], 0), (5, .iload 4, [], 0), (7, .aload_n 1, [], 0), (8, .getfield 33, [2, 2, 0, 0, 0], 0), (11, .if_icmp .ge 39, [28], 0), (14, .aload_n 1, [], 0), (15, .iload 4, [], 0), (17, .iload_n 2, [], 0), (18, .invokevirtual 81, [38, 3, 1, 0, 2], 0), (21, .ifCond .eq 23, [26], 0), (24, .iload_n 3, [], 0), (25, .aload_n 0, [], 0), (26, .getfield 18, [15, 1, 2, 16, 0], 0), (29, .iload 4, [], 0), (31, .iaload, [], 0), (32, .aload_n 1, [], 0), (33, .getfield 46, [2, 6, 2, 6, 0], 0), (36, .iload 4, [], 0), (38, .iaload, [], 0), (39, .iadd, [], 0), (40, .invokestatic 49, [44, 2, 1, 0, 0, 0], 0), (43, .istore_n 3, [], 0), (44, .iinc 4 1, [], 1), (47, .goto (-42), [4], 0), (50, .iload_n 3, [], 0), (51, .ireturn, [], 0)]
/-- ProjectPlanner$Plan runsOn (III)Z -/
noncomputable def T_P_runsOn : List xE := [(0, .iload_n 2, [], 0), (1, .iload_n 3, [], 0), (2, .if_icmp .gt 19, [13], 0), (5, .iload_n 3, [], 0), (6, .iload_n 2, [], 0), (7, .aload_n 0, [], 0), (8, .getfield 22, [2, 6, 2, 6, 0], 0), (11, .iload_n 1, [], 0), (12, .iaload, [], 0), (13, .iadd, [], 0), (14, .if_icmp .ge 7, [13], 0), (17, .iconst 1, [], 1), (18, .goto 4, [14], 0), (21, .iconst 0, [], 0), (22, .ireturn, [1], 0)]
/-- ProjectPlanner$Plan loadOn ([IIII)I -/
noncomputable def T_P_loadOn : List xE := [(0, .iconst 0, [], 0), (1, .istore 5, [], 0), (3, .iconst 0, [], 0), (4, .istore 6, [], 0), (6, .nop, [], 0), (6, .iload 6, [], 0), (8, .aload_n 0, [], 0), (9, .getfield 41, [2, 2, 0, 0, 0], 0), (12, .if_icmp .ge 45, [30], 0), (15, .iload_n 2, [], 0), (16, .iload 6, [], 0), (18, .invokestatic 63, [37, 2, 1, 0, 0, 0], 0), (21, .ifCond .eq 30, [28], 0), (24, .aload_n 0, [], 0), (25, .iload 6, [], 0), (27, .aload_n 1, [], 0), (28, .iload 6, [], 0), (30, .iaload, [], 0), (31, .iload 4, [], 0), (33, .invokevirtual 67, [136, 4, 1, 0, 2], 0), (36, .ifCond .eq 15, [28], 0), (39, .iload 5, [], 0), (41, .aload_n 0, [], 0), (42, .iload 6, [], 0), (44, .iload_n 3, [], 0), (45, .invokevirtual 50, [121, 3, 1, 0, 2], 0), (48, .iadd, [], 0), (49, .istore 5, [], 0), (51, .iinc 6 1, [], 1), (54, .goto (-48), [4], 0), (57, .iload 5, [], 0), (59, .ireturn, [], 0)]
/-- ProjectPlanner$Schedule hasRoomOn (LProjectPlanner$Plan;II)Z -/
noncomputable def T_S_hasRoomOn : List xE := [(0, .aload_n 0, [], 0), (1, .getfield 26, [15, 2, 0, 0, 0], 0), (4, .iconst 1, [], 1), (5, .iload_n 2, [], 0), (6, .ishl, [], 0), (7, .iconst (-1), [], (-1)), (8, .ixor, [], 0), (9, .iand, [], 0), (10, .istore 4, [], 0), (12, .iconst 0, [], 0), (13, .istore 5, [], 0), (15, .nop, [6], 0), (15, .iload 5, [], 0), (17, .aload_n 1, [], 0), (18, .getfield 84, [2, 1, 0, 0, 0], 0), (21, .if_icmp .ge 46, [39], 0), (24, .aload_n 1, [], 0), (25, .aload_n 0, [], 0), (26, .getfield 18, [15, 1, 2, 16, 0], 0), (29, .iload 4, [], 0), (31, .iload 5, [], 0), (33, .iload_n 3, [], 0), (34, .invokevirtual 87, [137, 5, 1, 0, 2], 0), (37, .istore 6, [], 0), (39, .iload 6, [], 0), (41, .aload_n 1, [], 0), (42, .iload_n 2, [], 0), (43, .iload 5, [], 0), (45, .invokevirtual 91, [121, 3, 1, 0, 2], 0), (48, .iadd, [], 0), (49, .aload_n 1, [], 0), (50, .getfield 94, [2, 4, 2, 4, 0], 0), (53, .iload 5, [], 0), (55, .iaload, [], 0), (56, .if_icmp .le 5, [37], 0), (59, .iconst 0, [], 0), (60, .ireturn, [1], 0), (61, .iinc 5 1, [], 1), (64, .goto (-49), [11], 0), (67, .iconst 1, [], 1), (68, .ireturn, [1], 0)]
/-- ProjectPlanner$Schedule firstFreeDay (LProjectPlanner$Plan;I)I -/
noncomputable def T_S_firstFreeDay : List xE := [(0, .aload_n 1, [], 0), (1, .getfield 71, [2, 7, 2, 7, 0], 0), (4, .iload_n 2, [], 0), (5, .iaload, [], 0), (6, .aload_n 0, [], 0), (7, .aload_n 1, [], 0), (8, .iload_n 2, [], 0), (9, .invokevirtual 74, [135, 3, 1, 0, 15], 0), (12, .invokestatic 49, [44, 2, 1, 0, 0, 0], 0), (15, .istore_n 3, [], 0), (16, .iload_n 3, [], 0), (17, .istore 4, [], 0), (19, .nop, [], 0), (19, .iload 4, [], 0), (21, .sipush 999, [], 999), (24, .if_icmp .gt 38, [36], 0), (27, .iload 4, [], 0), (29, .iload_n 3, [], 0), (30, .aload_n 1, [], 0), (31, .getfield 46, [2, 6, 2, 6, 0], 0), (34, .iload_n 2, [], 0), (35, .iaload, [], 0), (36, .iadd, [], 0), (37, .if_icmp .ge 25, [36], 0), (40, .aload_n 0, [], 0), (41, .aload_n 1, [], 0), (42, .iload_n 2, [], 0), (43, .iload 4, [], 0), (45, .invokevirtual 77, [138, 4, 1, 0, 15], 0), (48, .ifCond .ne 8, [34], 0), (51, .iload 4, [], 0), (53, .iconst 1, [], 1), (54, .iadd, [], 0), (55, .istore_n 3, [], 0), (56, .iinc 4 1, [], 1), (59, .goto (-40), [12], 0), (62, .iload_n 3, [], 0), (63, .ireturn, [], 0)]
/-- ProjectPlanner$Schedule build (LProjectPlanner$Plan;)V -/
noncomputable def T_S_build : List xE := [(0, .aload_n 0, [], 0), (1, .getfield 12, [15, 0, 2, 10, 0], 0), (4, .aload_n 1, [], 0), (5, .invokevirtual 22, [131, 2, 0, 0, 10], 0), (8, .aload_n 0, [], 0), (9, .iconst 0, [], 0), (10, .putfield 26, [15, 2, 0, 0, 0], 0), (13, .aload_n 0, [], 0), (14, .iconst 0, [], 0), (15, .putfield 30, [15, 3, 0, 0, 0], 0), (18, .iconst 0, [], 0), (19, .istore_n 2, [], 0), (20, .nop, [3], 0), (20, .iload_n 2, [], 0), (21, .aload_n 1, [], 0), (22, .getfield 33, [2, 2, 0, 0, 0], 0), (25, .if_icmp .ge 68, [56], 0), (28, .aload_n 0, [], 0), (29, .aload_n 1, [], 0), (30, .invokevirtual 38, [134, 2, 1, 0, 15], 0), (33, .istore_n 3, [], 0), (34, .iload_n 3, [], 0), (35, .iconst (-1), [], (-1)), (36, .if_icmp .eq 51, [54], 0), (39, .aload_n 0, [], 0), (40, .getfield 18, [15, 1, 2, 16, 0], 0), (43, .iload_n 3, [], 0), (44, .aload_n 0, [], 0), (45, .aload_n 1, [], 0), (46, .iload_n 3, [], 0), (47, .invokevirtual 42, [139, 3, 1, 0, 15], 0), (50, .iastore, [], 0), (51, .aload_n 0, [], 0), (52, .dup, [], 0), (53, .getfield 26, [15, 2, 0, 0, 0], 0), (56, .iconst 1, [], 1), (57, .iload_n 3, [], 0), (58, .ishl, [], 0), (59, .ior, [], 0), (60, .putfield 26, [15, 2, 0, 0, 0], 0), (63, .aload_n 0, [], 0), (64, .aload_n 0, [], 0), (65, .getfield 30, [15, 3, 0, 0, 0], 0), (68, .aload_n 0, [], 0), (69, .getfield 18, [15, 1, 2, 16, 0], 0), (72, .iload_n 3, [], 0), (73, .iaload, [], 0), (74, .aload_n 1, [], 0), (75, .getfield 46, [2, 6, 2, 6, 0], 0), (78, .iload_n 3, [], 0), (79, .iaload, [], 0), (80, .iadd, [], 0), (81, .invokestatic 49, [44, 2, 1, 0, 0, 0], 0), (84, .putfield 30, [15, 3, 0, 0, 0], 0), (87, .iinc 2 1, [], 1), (90, .goto (-70), [12], 0), (93, .return_, [], 0)]
/-- ProjectPlanner currentSchedule ()LProjectPlanner$Schedule; -/
noncomputable def T_C_currentSchedule : List xE := [(0, .aload_n 0, [], 0), (1, .getfield 48, [1, 7, 3, 15, 0], 0), (4, .aload_n 0, [], 0), (5, .getfield 80, [1, 0, 3, 2, 9], 0), (8, .invokevirtual 291, [140, 2, 0, 0, 15], 0), (11, .aload_n 0, [], 0), (12, .getfield 48, [1, 7, 3, 15, 0], 0), (15, .areturn, [], 0)]
/-- ProjectPlanner makespan ()I -/
noncomputable def T_C_makespan : List xE := [(0, .aload_n 0, [], 0), (1, .invokevirtual 234, [141, 1, 3, 15, 1], 0), (4, .getfield 245, [15, 3, 0, 0, 0], 0), (7, .ireturn, [], 0)]
/-- ProjectPlanner currentDates ()LProjectPlanner$Dates; -/
noncomputable def T_C_currentDates : List xE := [(0, .aload_n 0, [], 0), (1, .getfield 48, [1, 7, 3, 15, 0], 0), (4, .getfield 241, [15, 0, 2, 10, 0], 0), (7, .aload_n 0, [], 0), (8, .getfield 80, [1, 0, 3, 2, 9], 0), (11, .invokevirtual 387, [131, 2, 0, 0, 10], 0), (14, .aload_n 0, [], 0), (15, .getfield 48, [1, 7, 3, 15, 0], 0), (18, .getfield 241, [15, 0, 2, 10, 0], 0), (21, .areturn, [], 0)]
/-- ProjectPlanner projectLength ()I -/
noncomputable def T_C_projectLength : List xE := [(0, .aload_n 0, [], 0), (1, .invokevirtual 185, [143, 1, 3, 10, 1], 0), (4, .getfield 230, [10, 4, 0, 0, 0], 0), (7, .ireturn, [], 0)]
/-- ProjectPlanner$Schedule countBrokenLinks (LProjectPlanner$Plan;)I -/
noncomputable def T_S_countBrokenLinks : List xE := [(0, .iconst 0, [], 0), (1, .istore_n 2, [], 0), (2, .iconst 0, [], 0), (3, .istore_n 3, [], 0), (4, .nop, [4], 0), (4, .iload_n 3, [], 0), (5, .aload_n 1, [], 0), (6, .getfield 33, [2, 2, 0, 0, 0], 0), (9, .if_icmp .ge 63, [40], 0), (12, .iconst 0, [], 0), (13, .istore 4, [], 0), (15, .nop, [], 0), (15, .iload 4, [], 0), (17, .aload_n 1, [], 0), (18, .getfield 33, [2, 2, 0, 0, 0], 0), (21, .if_icmp .ge 45, [38], 0), (24, .aload_n 1, [], 0), (25, .iload_n 3, [], 0), (26, .iload 4, [], 0), (28, .invokevirtual 81, [38, 3, 1, 0, 2], 0), (31, .ifCond .eq 29, [36], 0), (34, .aload_n 0, [], 0), (35, .getfield 18, [15, 1, 2, 16, 0], 0), (38, .iload 4, [], 0), (40, .iaload, [], 0), (41, .aload_n 0, [], 0), (42, .getfield 18, [15, 1, 2, 16, 0], 0), (45, .iload_n 3, [], 0), (46, .iaload, [], 0), (47, .aload_n 1, [], 0), (48, .getfield 46, [2, 6, 2, 6, 0], 0), (51, .iload_n 3, [], 0), (52, .iaload, [], 0), (53, .iadd, [], 0), (54, .if_icmp .ge 6, [36], 0), (57, .iinc 2 1, [], 1), (60, .iinc 4 1, [], 1), (63, .goto (-48), [11], 0), (66, .iinc 3 1, [], 1), (69, .goto (-65), [4], 0), (72, .iload_n 2, [], 0), (73, .ireturn, [], 0)]
/-- ProjectPlanner$Schedule usageOn (LProjectPlanner$Plan;II)I -/
noncomputable def T_S_usageOn : List xE := [(0, .aload_n 1, [], 0), (1, .aload_n 0, [], 0), (2, .getfield 18, [15, 1, 2, 16, 0], 0), (5, .aload_n 0, [], 0), (6, .getfield 26, [15, 2, 0, 0, 0], 0), (9, .iload_n 2, [], 0), (10, .iload_n 3, [], 0), (11, .invokevirtual 87, [137, 5, 1, 0, 2], 0), (14, .ireturn, [], 0)]
/-- ProjectPlanner$Schedule peakOf (LProjectPlanner$Plan;I)I -/
noncomputable def T_S_peakOf : List xE := [(0, .iconst 0, [], 0), (1, .istore_n 3, [], 0), (2, .iconst 0, [], 0), (3, .istore 4, [], 0), (5, .nop, [], 0), (5, .iload 4, [], 0), (7, .aload_n 0, [], 0), (8, .getfield 30, [15, 3, 0, 0, 0], 0), (11, .if_icmp .ge 22, [19], 0), (14, .iload_n 3, [], 0), (15, .aload_n 0, [], 0), (16, .aload_n 1, [], 0), (17, .iload_n 2, [], 0), (18, .iload 4, [], 0), (20, .invokevirtual 97, [146, 4, 1, 0, 15], 0), (23, .invokestatic 49, [44, 2, 1, 0, 0, 0], 0), (26, .istore_n 3, [], 0), (27, .iinc 4 1, [], 1), (30, .goto (-25), [4], 0), (33, .iload_n 3, [], 0), (34, .ireturn, [], 0)]
/-- ProjectPlanner$Schedule countOverusedResources (LProjectPlanner$Plan;)I -/
noncomputable def T_S_countOverusedResources : List xE := [(0, .iconst 0, [], 0), (1, .istore_n 2, [], 0), (2, .iconst 0, [], 0), (3, .istore_n 3, [], 0), (4, .nop, [], 0), (4, .iload_n 3, [], 0), (5, .aload_n 1, [], 0), (6, .getfield 84, [2, 1, 0, 0, 0], 0), (9, .if_icmp .ge 27, [21], 0), (12, .aload_n 0, [], 0), (13, .aload_n 1, [], 0), (14, .iload_n 3, [], 0), (15, .invokevirtual 101, [147, 3, 1, 0, 15], 0), (18, .aload_n 1, [], 0), (19, .getfield 94, [2, 4, 2, 4, 0], 0), (22, .iload_n 3, [], 0), (23, .iaload, [], 0), (24, .if_icmp .le 6, [19], 0), (27, .iinc 2 1, [], 1), (30, .iinc 3 1, [], 1), (33, .goto (-29), [4], 0), (36, .iload_n 2, [], 0), (37, .ireturn, [], 0)]
/-- ProjectPlanner$Plan workFor (I)I -/
noncomputable def T_P_workFor : List xE := [(0, .iconst 0, [], 0), (1, .istore_n 2, [], 0), (2, .iconst 0, [], 0), (3, .istore_n 3, [], 0), (4, .nop, [], 0), (4, .iload_n 3, [], 0), (5, .aload_n 0, [], 0), (6, .getfield 41, [2, 2, 0, 0, 0], 0), (9, .if_icmp .ge 25, [23], 0), (12, .iload_n 2, [], 0), (13, .aload_n 0, [], 0), (14, .iload_n 3, [], 0), (15, .iload_n 1, [], 0), (16, .invokevirtual 50, [121, 3, 1, 0, 2], 0), (19, .aload_n 0, [], 0), (20, .getfield 22, [2, 6, 2, 6, 0], 0), (23, .iload_n 3, [], 0), (24, .iaload, [], 0), (25, .imul, [], 0), (26, .iadd, [], 0), (27, .istore_n 2, [], 0), (28, .iinc 3 1, [], 1), (31, .goto (-27), [4], 0), (34, .iload_n 2, [], 0), (35, .ireturn, [], 0)]
/-- ProjectPlanner$Plan daysOfWork (I)I -/
noncomputable def T_P_daysOfWork : List xE := [(0, .aload_n 0, [], 0), (1, .getfield 15, [2, 4, 2, 4, 0], 0), (4, .iload_n 1, [], 0), (5, .iaload, [], 0), (6, .istore_n 2, [], 0), (7, .iload_n 2, [], 0), (8, .ifCond .le 17, [17], 0), (11, .aload_n 0, [], 0), (12, .iload_n 1, [], 0), (13, .invokevirtual 59, [149, 2, 1, 0, 2], 0), (16, .iload_n 2, [], 0), (17, .iadd, [], 0), (18, .iconst 1, [], 1), (19, .isub, [], 0), (20, .iload_n 2, [], 0), (21, .idiv, [], 0), (22, .goto 4, [18], 0), (25, .iconst 0, [], 0), (26, .ireturn, [], 0)]
/-- ProjectPlanner$Dates leastMakespan (LProjectPlanner$Plan;)I -/
noncomputable def T_D_leastMakespan : List xE := [(0, .aload_n 0, [], 0), (1, .getfield 28, [10, 4, 0, 0, 0], 0), (4, .istore_n 2, [], 0), (5, .iconst 0, [], 0), (6, .istore_n 3, [], 0), (7, .nop, [0], 0), (7, .iload_n 3, [], 0), (8, .aload_n 1, [], 0), (9, .getfield 76, [2, 1, 0, 0, 0], 0), (12, .if_icmp .ge 19, [18], 0), (15, .iload_n 2, [], 0), (16, .aload_n 1, [], 0), (17, .iload_n 3, [], 0), (18, .invokevirtual 79, [150, 2, 1, 0, 2], 0), (21, .invokestatic 57, [44, 2, 1, 0, 0, 0], 0), (24, .istore_n 2, [], 0), (25, .iinc 3 1, [], 1), (28, .goto (-21), [5], 0), (31, .iload_n 2, [], 0), (32, .ireturn, [], 0)]
/-- ProjectPlanner inconsistencies ()I -/
noncomputable def T_C_inconsistencies : List xE := [(0, .aload_n 0, [], 0), (1, .invokevirtual 234, [141, 1, 3, 15, 1], 0), (4, .astore_n 1, [], 0), (5, .aload_n 1, [], 0), (6, .aload_n 0, [], 0), (7, .getfield 80, [1, 0, 3, 2, 9], 0), (10, .invokevirtual 270, [145, 2, 1, 0, 15], 0), (13, .aload_n 1, [], 0), (14, .aload_n 0, [], 0), (15, .getfield 80, [1, 0, 3, 2, 9], 0), (18, .invokevirtual 273, [148, 2, 1, 0, 15], 0), (21, .iadd, [], 0), (22, .istore_n 2, [], 0), (23, .aload_n 1, [], 0), (24, .getfield 245, [15, 3, 0, 0, 0], 0), (27, .aload_n 1, [], 0), (28, .getfield 241, [15, 0, 2, 10, 0], 0), (31, .aload_n 0, [], 0), (32, .getfield 80, [1, 0, 3, 2, 9], 0), (35, .invokevirtual 266, [151, 2, 1, 0, 10], 0), (38, .if_icmp .ge 9, [25], 0), (41, .iload_n 2, [], 0), (42, .iconst 1, [], 1), (43, .iadd, [], 0), (44, .goto 4, [26], 0), (47, .iload_n 2, [], 0), (48, .ireturn, [], 0)]
/-- ProjectPlanner startDay (I)I -/
noncomputable def T_C_startDay : List xE := [(0, .aload_n 0, [], 0), (1, .iload_n 1, [], 0), (2, .invokevirtual 126, [85, 2, 0, 0, 1], 0), (5, .aload_n 0, [], 0), (6, .invokevirtual 234, [141, 1, 3, 15, 1], 0), (9, .getfield 238, [15, 1, 2, 16, 0], 0), (12, .iload_n 1, [], 0), (13, .iaload, [], 0), (14, .ireturn, [], 0)]
/-- ProjectPlanner finishDay (I)I -/
noncomputable def T_C_finishDay : List xE := [(0, .aload_n 0, [], 0), (1, .iload_n 1, [], 0), (2, .invokevirtual 126, [85, 2, 0, 0, 1], 0), (5, .aload_n 0, [], 0), (6, .invokevirtual 234, [141, 1, 3, 15, 1], 0), (9, .getfield 238, [15, 1, 2, 16, 0], 0), (12, .iload_n 1, [], 0), (13, .iaload, [], 0), (14, .aload_n 0, [], 0), (15, .getfield 80, [1, 0, 3, 2, 9], 0), (18, .getfield 167, [2, 6, 2, 6, 0], 0), (21, .iload_n 1, [], 0), (22, .iaload, [], 0), (23, .iadd, [], 0), (24, .ireturn, [], 0)]
/-- ProjectPlanner earliestStart (I)I -/
noncomputable def T_C_earliestStart : List xE := [(0, .aload_n 0, [], 0), (1, .iload_n 1, [], 0), (2, .invokevirtual 126, [85, 2, 0, 0, 1], 0), (5, .aload_n 0, [], 0), (6, .invokevirtual 185, [143, 1, 3, 10, 1], 0), (9, .getfield 218, [10, 2, 2, 13, 0], 0), (12, .iload_n 1, [], 0), (13, .iaload, [], 0), (14, .ireturn, [], 0)]
/-- ProjectPlanner latestStart (I)I -/
noncomputable def T_C_latestStart : List xE := [(0, .aload_n 0, [], 0), (1, .iload_n 1, [], 0), (2, .invokevirtual 126, [85, 2, 0, 0, 1], 0), (5, .aload_n 0, [], 0), (6, .invokevirtual 185, [143, 1, 3, 10, 1], 0), (9, .getfield 221, [10, 3, 2, 14, 0], 0), (12, .iload_n 1, [], 0), (13, .iaload, [], 0), (14, .ireturn, [], 0)]
/-- ProjectPlanner delay (I)I -/
noncomputable def T_C_delay : List xE := [(0, .aload_n 0, [], 0), (1, .iload_n 1, [], 0), (2, .invokevirtual 126, [85, 2, 0, 0, 1], 0), (5, .aload_n 0, [], 0), (6, .invokevirtual 234, [141, 1, 3, 15, 1], 0), (9, .astore_n 2, [], 0), (10, .aload_n 2, [], 0), (11, .getfield 238, [15, 1, 2, 16, 0], 0), (14, .iload_n 1, [], 0), (15, .iaload, [], 0), (16, .aload_n 2, [], 0), (17, .getfield 241, [15, 0, 2, 10, 0], 0), (20, .getfield 218, [10, 2, 2, 13, 0], 0), (23, .iload_n 1, [], 0), (24, .iaload, [], 0), (25, .isub, [], 0), (26, .ireturn, [], 0)]
/-- ProjectPlanner$Dates slackOf (I)I -/
noncomputable def T_D_slackOf : List xE := [(0, .aload_n 0, [], 0), (1, .getfield 21, [10, 3, 2, 14, 0], 0), (4, .iload_n 1, [], 0), (5, .iaload, [], 0), (6, .aload_n 0, [], 0), (7, .getfield 18, [10, 2, 2, 13, 0], 0), (10, .iload_n 1, [], 0), (11, .iaload, [], 0), (12, .isub, [], 0), (13, .ireturn, [], 0)]
/-- ProjectPlanner slack (I)I -/
noncomputable def T_C_slack : List xE := [(0, .aload_n 0, [], 0), (1, .iload_n 1, [], 0), (2, .invokevirtual 126, [85, 2, 0, 0, 1], 0), (5, .aload_n 0, [], 0), (6, .invokevirtual 185, [143, 1, 3, 10, 1], 0), (9, .iload_n 1, [], 0), (10, .invokevirtual 224, [158, 2, 1, 0, 10], 0), (13, .ireturn, [], 0)]
/-- ProjectPlanner requireDay (I)V -/
noncomputable def T_C_requireDay : List xE := [(0, .iload_n 0, [], 0), (1, .ifCond .lt 10, [5], 0), (4, .iload_n 0, [], 0), (5, .sipush 999, [], 999), (8, .if_icmp .le 14, [6], 0), (11, .new 97, [1, 6], 0), (22, .return_, [], 0)]
/-- ProjectPlanner usage (II)I -/
noncomputable def T_C_usage : List xE := [(0, .aload_n 0, [], 0), (1, .iload_n 1, [], 0), (2, .invokevirtual 160, [120, 2, 0, 0, 1], 0), (5, .iload_n 2, [], 0), (6, .invokestatic 246, [160, 1, 0, 0, 0], 0), (9, .aload_n 0, [], 0), (10, .invokevirtual 234, [141, 1, 3, 15, 1], 0), (13, .aload_n 0, [], 0), (14, .getfield 80, [1, 0, 3, 2, 9], 0), (17, .iload_n 1, [], 0), (18, .iload_n 2, [], 0), (19, .invokevirtual 249, [146, 4, 1, 0, 15], 0), (22, .ireturn, [], 0)]
/-- ProjectPlanner peakUsage (I)I -/
noncomputable def T_C_peakUsage : List xE := [(0, .aload_n 0, [], 0), (1, .iload_n 1, [], 0), (2, .invokevirtual 160, [120, 2, 0, 0, 1], 0), (5, .aload_n 0, [], 0), (6, .invokevirtual 234, [141, 1, 3, 15, 1], 0), (9, .aload_n 0, [], 0), (10, .getfield 80, [1, 0, 3, 2, 9], 0), (13, .iload_n 1, [], 0), (14, .invokevirtual 253, [147, 3, 1, 0, 15], 0), (17, .ireturn, [], 0)]
/-- ProjectPlanner lowerBound ()I -/
noncomputable def T_C_lowerBound : List xE := [(0, .aload_n 0, [], 0), (1, .invokevirtual 185, [143, 1, 3, 10, 1], 0), (4, .aload_n 0, [], 0), (5, .getfield 80, [1, 0, 3, 2, 9], 0), (8, .invokevirtual 266, [151, 2, 1, 0, 10], 0), (11, .ireturn, [], 0)]
/-- ProjectPlannerLaw$Plan agrees ()Z -/
noncomputable def T_Q_agrees : List xE := [(0, .aload_n 0, [], 0), (1, .aload_n 0, [], 0), (2, .getfield 13, [27, 0, 13, 1, 0], 0), (5, .invokevirtual 85, [98, 1, 1, 0, 1, 1, 0], 0), (8, .invokevirtual 88, [126, 2, 1, 0, 27, 0], 0), (11, .istore_n 1, [], 0), (12, .aload_n 0, [], 0), (13, .getfield 13, [27, 0, 13, 1, 0], 0), (16, .invokevirtual 91, [142, 1, 1, 0, 1, 1, 0], 0), (19, .iload_n 1, [], 0), (20, .if_icmp .ne 35, [25], 0), (23, .aload_n 0, [], 0), (24, .getfield 13, [27, 0, 13, 1, 0], 0), (27, .invokevirtual 94, [144, 1, 1, 0, 1, 1, 0], 0), (30, .aload_n 0, [], 0), (31, .getfield 27, [27, 3, 0, 0, 0], 0), (34, .if_icmp .ne 21, [25], 0), (37, .aload_n 0, [], 0), (38, .getfield 27, [27, 3, 0, 0, 0], 0), (41, .iload_n 1, [], 0), (42, .if_icmp .gt 13, [25], 0), (45, .aload_n 0, [], 0), (46, .getfield 13, [27, 0, 13, 1, 0], 0), (49, .invokevirtual 97, [152, 1, 1, 0, 1, 1, 0], 0), (52, .ifCond .eq 5, [27], 0), (55, .iconst 0, [], 0), (56, .ireturn, [1], 0), (57, .iconst 0, [], 0), (58, .istore_n 2, [], 0), (59, .nop, [3, 4, 5], 0), (59, .iload_n 2, [], 0), (60, .aload_n 0, [], 0), (61, .getfield 23, [27, 1, 0, 0, 0], 0), (64, .if_icmp .ge 209, [145], 0), (67, .aload_n 0, [], 0), (68, .getfield 13, [27, 0, 13, 1, 0], 0), (71, .iload_n 2, [], 0), (72, .invokevirtual 100, [153, 2, 1, 0, 1, 1, 0], 0), (75, .aload_n 0, [], 0), (76, .getfield 7, [27, 2, 12, 28, 0], 0), (79, .iload_n 2, [], 0), (80, .iaload, [], 0), (81, .if_icmp .ne 61, [73], 0), (84, .aload_n 0, [], 0), (85, .getfield 13, [27, 0, 13, 1, 0], 0), (88, .iload_n 2, [], 0), (89, .invokevirtual 103, [154, 2, 1, 0, 1, 1, 0], 0), (92, .aload_n 0, [], 0), (93, .getfield 7, [27, 2, 12, 28, 0], 0), (96, .iload_n 2, [], 0), (97, .iaload, [], 0), (98, .aload_n 0, [], 0), (99, .getfield 13, [27, 0, 13, 1, 0], 0), (102, .iload_n 2, [], 0), (103, .invokevirtual 34, [88, 2, 1, 0, 1, 1, 0], 0), (106, .iadd, [], 0), (107, .if_icmp .ne 35, [73], 0), (110, .aload_n 0, [], 0), (111, .getfield 13, [27, 0, 13, 1, 0], 0), (114, .iload_n 2, [], 0), (115, .invokevirtual 106, [155, 2, 1, 0, 1, 1, 0], 0), (118, .aload_n 0, [], 0), (119, .iload_n 2, [], 0), (120, .invokevirtual 30, [96, 2, 1, 0, 27, 0], 0), (123, .if_icmp .ne 19, [73], 0), (126, .aload_n 0, [], 0), (127, .getfield 13, [27, 0, 13, 1, 0], 0), (130, .iload_n 2, [], 0), (131, .invokevirtual 109, [156, 2, 1, 0, 1, 1, 0], 0), (134, .aload_n 0, [], 0), (135, .iload_n 2, [], 0), (136, .invokevirtual 50, [107, 2, 1, 0, 27, 0], 0), (139, .if_icmp .eq 5, [75], 0), (142, .iconst 0, [], 0), (143, .ireturn, [1], 0), (144, .aload_n 0, [], 0), (145, .getfield 13, [27, 0, 13, 1, 0], 0), (148, .iload_n 2, [], 0), (149, .invokevirtual 112, [157, 2, 1, 0, 1, 1, 0], 0), (152, .aload_n 0, [], 0), (153, .getfield 7, [27, 2, 12, 28, 0], 0), (156, .iload_n 2, [], 0), (157, .iaload, [], 0), (158, .aload_n 0, [], 0), (159, .iload_n 2, [], 0), (160, .invokevirtual 30, [96, 2, 1, 0, 27, 0], 0), (163, .isub, [], 0), (164, .if_icmp .ne 47, [110], 0), (167, .aload_n 0, [], 0), (168, .getfield 13, [27, 0, 13, 1, 0], 0), (171, .iload_n 2, [], 0), (172, .invokevirtual 112, [157, 2, 1, 0, 1, 1, 0], 0), (175, .ifCond .lt 36, [110], 0), (178, .aload_n 0, [], 0), (179, .getfield 13, [27, 0, 13, 1, 0], 0), (182, .iload_n 2, [], 0), (183, .invokevirtual 115, [159, 2, 1, 0, 1, 1, 0], 0), (186, .aload_n 0, [], 0), (187, .iload_n 2, [], 0), (188, .invokevirtual 50, [107, 2, 1, 0, 27, 0], 0), (191, .aload_n 0, [], 0), (192, .iload_n 2, [], 0), (193, .invokevirtual 30, [96, 2, 1, 0, 27, 0], 0), (196, .isub, [], 0), (197, .if_icmp .ne 14, [110], 0), (200, .aload_n 0, [], 0), (201, .getfield 13, [27, 0, 13, 1, 0], 0), (204, .iload_n 2, [], 0), (205, .invokevirtual 115, [159, 2, 1, 0, 1, 1, 0], 0), (208, .ifCond .ge 5, [112], 0), (211, .iconst 0, [], 0), (212, .ireturn, [1], 0), (213, .iconst 0, [], 0), (214, .istore_n 3, [], 0), (215, .nop, [4, 5], 0), (215, .iload_n 3, [], 0), (216, .aload_n 0, [], 0), (217, .getfield 23, [27, 1, 0, 0, 0], 0), (220, .if_icmp .ge 47, [143], 0), (223, .aload_n 0, [], 0), (224, .getfield 13, [27, 0, 13, 1, 0], 0), (227, .iload_n 2, [], 0), (228, .iload_n 3, [], 0), (229, .invokevirtual 46, [87, 3, 1, 0, 1, 1, 0], 0), (232, .ifCond .eq 29, [141], 0), (235, .aload_n 0, [], 0), (236, .getfield 7, [27, 2, 12, 28, 0], 0), (239, .iload_n 3, [], 0), (240, .iaload, [], 0), (241, .aload_n 0, [], 0), (242, .getfield 7, [27, 2, 12, 28, 0], 0), (245, .iload_n 2, [], 0), (246, .iaload, [], 0), (247, .aload_n 0, [], 0), (248, .getfield 13, [27, 0, 13, 1, 0], 0), (251, .iload_n 2, [], 0), (252, .invokevirtual 34, [88, 2, 1, 0, 1, 1, 0], 0), (255, .iadd, [], 0), (256, .if_icmp .ge 5, [141], 0), (259, .iconst 0, [], 0), (260, .ireturn, [1], 0), (261, .iinc 3 1, [], 1), (264, .goto (-49), [114], 0), (267, .iinc 2 1, [], 1), (270, .goto (-211), [29], 0), (273, .iconst 0, [], 0), (274, .istore_n 2, [], 0), (275, .nop, [3, 4, 5], 0), (275, .iload_n 2, [], 0), (276, .aload_n 0, [], 0), (277, .getfield 13, [27, 0, 13, 1, 0], 0), (280, .invokevirtual 66, [117, 1, 1, 0, 1, 1, 0], 0), (283, .if_icmp .ge 86, [197], 0), (286, .iconst 0, [], 0), (287, .istore_n 3, [], 0), (288, .iconst 0, [], 0), (289, .istore 4, [], 0), (291, .nop, [5], 0), (291, .iload 4, [], 0), (293, .iload_n 1, [], 0), (294, .if_icmp .gt 55, [187], 0), (297, .aload_n 0, [], 0), (298, .iload_n 2, [], 0), (299, .iload 4, [], 0), (301, .invokevirtual 69, [123, 3, 1, 0, 27, 0], 0), (304, .istore 5, [], 0), (306, .iload_n 3, [], 0), (307, .iload 5, [], 0), (309, .invokestatic 37, [44, 2, 1, 0, 0, 1, 4], 0), (312, .istore_n 3, [], 0), (313, .aload_n 0, [], 0), (314, .getfield 13, [27, 0, 13, 1, 0], 0), (317, .iload_n 2, [], 0), (318, .iload 4, [], 0), (320, .invokevirtual 118, [161, 3, 1, 0, 1, 1, 0], 0), (323, .iload 5, [], 0), (325, .if_icmp .ne 16, [183], 0), (328, .iload 5, [], 0), (330, .aload_n 0, [], 0), (331, .getfield 13, [27, 0, 13, 1, 0], 0), (334, .iload_n 2, [], 0), (335, .invokevirtual 72, [124, 2, 1, 0, 1, 1, 0], 0), (338, .if_icmp .le 5, [185], 0), (341, .iconst 0, [], 0), (342, .ireturn, [1], 0), (343, .iinc 4 1, [], 1), (346, .goto (-55), [157], 0), (349, .aload_n 0, [], 0), (350, .getfield 13, [27, 0, 13, 1, 0], 0), (353, .iload_n 2, [], 0), (354, .invokevirtual 119, [162, 2, 1, 0, 1, 1, 0], 0), (357, .iload_n 3, [], 0), (358, .if_icmp .eq 5, [195], 0), (361, .iconst 0, [], 0), (362, .ireturn, [1], 0), (363, .iinc 2 1, [], 1), (366, .goto (-91), [147], 0), (369, .aload_n 0, [], 0), (370, .getfield 13, [27, 0, 13, 1, 0], 0), (373, .invokevirtual 122, [163, 1, 1, 0, 1, 1, 0], 0), (376, .iload_n 1, [], 0), (377, .if_icmp .gt 7, [204], 0), (380, .iconst 1, [], 1), (381, .goto 4, [205], 0), (384, .iconst 0, [], 0), (385, .ireturn, [1], 0)]
/-- ProjectPlanner requireRule (I)V -/
noncomputable def T_C_requireRule : List xE := [(0, .iload_n 0, [], 0), (1, .ifCond .lt 8, [5], 0), (4, .iload_n 0, [], 0), (5, .iconst 3, [], 3), (6, .if_icmp .le 14, [6], 0), (9, .new 97, [1, 6], 0), (20, .return_, [], 0)]
/-- ProjectPlanner lengthWithRule (I)I -/
noncomputable def T_C_lengthWithRule : List xE := [(0, .aload_n 0, [], 0), (1, .getfield 10, [1, 1, 3, 2, 0], 0), (4, .aload_n 0, [], 0), (5, .getfield 80, [1, 0, 3, 2, 9], 0), (8, .invokevirtual 104, [81, 2, 0, 0, 2], 0), (11, .aload_n 0, [], 0), (12, .getfield 10, [1, 1, 3, 2, 0], 0), (15, .iload_n 1, [], 0), (16, .putfield 123, [2, 0, 0, 0, 0], 0), (19, .aload_n 0, [], 0), (20, .getfield 48, [1, 7, 3, 15, 0], 0), (23, .aload_n 0, [], 0), (24, .getfield 10, [1, 1, 3, 2, 0], 0), (27, .invokevirtual 291, [140, 2, 0, 0, 15], 0), (30, .aload_n 0, [], 0), (31, .getfield 48, [1, 7, 3, 15, 0], 0), (34, .getfield 245, [15, 3, 0, 0, 0], 0), (37, .ireturn, [], 0)]
/-- ProjectPlanner makespanWith (I)I -/
noncomputable def T_C_makespanWith : List xE := [(0, .iload_n 1, [], 0), (1, .invokestatic 276, [165, 1, 0, 0, 0], 0), (4, .aload_n 0, [], 0), (5, .iload_n 1, [], 0), (6, .invokevirtual 279, [166, 2, 1, 0, 1], 0), (9, .ireturn, [], 0)]
/-- ProjectPlanner requireDuration (I)V -/
noncomputable def T_C_requireDuration : List xE := [(0, .iload_n 0, [], 0), (1, .iconst 1, [], 1), (2, .if_icmp .lt 9, [6], 0), (5, .iload_n 0, [], 0), (6, .bipush 30, [], 30), (8, .if_icmp .le 14, [7], 0), (11, .new 97, [1, 6], 0), (22, .return_, [], 0)]
/-- ProjectPlanner$History remember (LProjectPlanner$Plan;)V -/
noncomputable def T_H_remember : List xE := [(0, .aload_n 0, [], 0), (1, .aload_n 0, [], 0), (2, .getfield 18, [17, 1, 0, 0, 0], 0), (5, .iconst 1, [], 1), (6, .iadd, [], 0), (7, .bipush 6, [], 6), (9, .if_icmp .ge 12, [12], 0), (12, .aload_n 0, [], 0), (13, .getfield 18, [17, 1, 0, 0, 0], 0), (16, .iconst 1, [], 1), (17, .iadd, [], 0), (18, .goto 4, [13], 0), (21, .iconst 0, [], 0), (22, .putfield 18, [17, 1, 0, 0, 0], 0), (25, .aload_n 0, [], 0), (26, .getfield 11, [17, 0, 2, 18, 0], 0), (29, .aload_n 0, [], 0), (30, .getfield 18, [17, 1, 0, 0, 0], 0), (33, .aaload, [18, 2, 1], 0), (34, .aload_n 1, [], 0), (35, .invokevirtual 22, [81, 2, 0, 0, 2], 0), (38, .aload_n 0, [], 0), (39, .aload_n 0, [], 0), (40, .getfield 26, [17, 2, 0, 0, 0], 0), (43, .iconst 1, [], 1), (44, .iadd, [], 0), (45, .bipush 6, [], 6), (47, .invokestatic 29, [47, 2, 1, 0, 0, 0], 0), (50, .putfield 26, [17, 2, 0, 0, 0], 0), (53, .return_, [], 0)]
/-- ProjectPlanner$Plan changeDuration (II)Z -/
noncomputable def T_P_changeDuration : List xE := [(0, .aload_n 0, [], 0), (1, .iload_n 1, [], 0), (2, .invokevirtual 85, [84, 2, 1, 0, 2], 0), (5, .ifCond .eq 14, [10], 0), (8, .iload_n 2, [], 0), (9, .iconst 1, [], 1), (10, .if_icmp .lt 9, [10], 0), (13, .iload_n 2, [], 0), (14, .bipush 30, [], 30), (16, .if_icmp .le 5, [12], 0), (19, .iconst 0, [], 0), (20, .ireturn, [1], 0), (21, .aload_n 0, [], 0), (22, .getfield 22, [2, 6, 2, 6, 0], 0), (25, .iload_n 1, [], 0), (26, .iload_n 2, [], 0), (27, .iastore, [], 0), (28, .iconst 1, [], 1), (29, .ireturn, [1], 0)]
/-- ProjectPlanner setDuration (II)I -/
noncomputable def T_C_setDuration : List xE := [(0, .aload_n 0, [], 0), (1, .iload_n 1, [], 0), (2, .invokevirtual 126, [85, 2, 0, 0, 1], 0), (5, .iload_n 2, [], 0), (6, .invokestatic 285, [168, 1, 0, 0, 0], 0), (9, .aload_n 0, [], 0), (10, .getfield 19, [1, 2, 3, 17, 0], 0), (13, .aload_n 0, [], 0), (14, .getfield 80, [1, 0, 3, 2, 9], 0), (17, .invokevirtual 294, [169, 2, 0, 0, 17], 0), (20, .aload_n 0, [], 0), (21, .getfield 80, [1, 0, 3, 2, 9], 0), (24, .getfield 167, [2, 6, 2, 6, 0], 0), (27, .iload_n 1, [], 0), (28, .iaload, [], 0), (29, .istore_n 3, [], 0), (30, .aload_n 0, [], 0), (31, .getfield 80, [1, 0, 3, 2, 9], 0), (34, .iload_n 1, [], 0), (35, .iload_n 2, [], 0), (36, .invokevirtual 288, [170, 3, 1, 0, 2], 0), (39, .pop, [], 0), (40, .iload_n 3, [], 0), (41, .ireturn, [], 0)]
/-- ProjectPlanner$Plan changeDemand (III)Z -/
noncomputable def T_P_changeDemand : List xE := [(0, .aload_n 0, [], 0), (1, .iload_n 1, [], 0), (2, .invokevirtual 85, [84, 2, 1, 0, 2], 0), (5, .ifCond .eq 25, [16], 0), (8, .aload_n 0, [], 0), (9, .iload_n 2, [], 0), (10, .invokevirtual 89, [119, 2, 1, 0, 2], 0), (13, .ifCond .eq 17, [16], 0), (16, .iload_n 3, [], 0), (17, .ifCond .lt 13, [16], 0), (20, .iload_n 3, [], 0), (21, .aload_n 0, [], 0), (22, .getfield 15, [2, 4, 2, 4, 0], 0), (25, .iload_n 2, [], 0), (26, .iaload, [], 0), (27, .if_icmp .le 5, [18], 0), (30, .iconst 0, [], 0), (31, .ireturn, [1], 0), (32, .aload_n 0, [], 0), (33, .getfield 31, [2, 9, 2, 9, 0], 0), (36, .iload_n 1, [], 0), (37, .iconst 3, [], 3), (38, .imul, [], 0), (39, .iload_n 2, [], 0), (40, .iadd, [], 0), (41, .iload_n 3, [], 0), (42, .iastore, [], 0), (43, .iconst 1, [], 1), (44, .ireturn, [1], 0)]
/-- ProjectPlanner setDemand (III)I -/
noncomputable def T_C_setDemand : List xE := [(0, .aload_n 0, [], 0), (1, .iload_n 1, [], 0), (2, .invokevirtual 126, [85, 2, 0, 0, 1], 0), (5, .aload_n 0, [], 0), (6, .iload_n 2, [], 0), (7, .invokevirtual 160, [120, 2, 0, 0, 1], 0), (10, .iload_n 3, [], 0), (11, .ifCond .lt 16, [15], 0), (14, .iload_n 3, [], 0), (15, .aload_n 0, [], 0), (16, .getfield 80, [1, 0, 3, 2, 9], 0), (19, .getfield 163, [2, 4, 2, 4, 0], 0), (22, .iload_n 2, [], 0), (23, .iaload, [], 0), (24, .if_icmp .le 14, [16], 0), (27, .new 97, [1, 6], 0), (38, .aload_n 0, [], 0), (39, .getfield 19, [1, 2, 3, 17, 0], 0), (42, .aload_n 0, [], 0), (43, .getfield 80, [1, 0, 3, 2, 9], 0), (46, .invokevirtual 294, [169, 2, 0, 0, 17], 0), (49, .aload_n 0, [], 0), (50, .getfield 80, [1, 0, 3, 2, 9], 0), (53, .iload_n 1, [], 0), (54, .iload_n 2, [], 0), (55, .invokevirtual 173, [121, 3, 1, 0, 2], 0), (58, .istore 4, [], 0), (60, .aload_n 0, [], 0), (61, .getfield 80, [1, 0, 3, 2, 9], 0), (64, .iload_n 1, [], 0), (65, .iload_n 2, [], 0), (66, .iload_n 3, [], 0), (67, .invokevirtual 299, [172, 4, 1, 0, 2], 0), (70, .pop, [], 0), (71, .iload 4, [], 0), (73, .ireturn, [], 0)]
/-- ProjectPlanner$Plan changeRelease (II)Z -/
noncomputable def T_P_changeRelease : List xE := [(0, .aload_n 0, [], 0), (1, .iload_n 1, [], 0), (2, .invokevirtual 85, [84, 2, 1, 0, 2], 0), (5, .ifCond .eq 13, [9], 0), (8, .iload_n 2, [], 0), (9, .ifCond .lt 9, [9], 0), (12, .iload_n 2, [], 0), (13, .bipush 99, [], 99), (15, .if_icmp .le 5, [11], 0), (18, .iconst 0, [], 0), (19, .ireturn, [1], 0), (20, .aload_n 0, [], 0), (21, .getfield 25, [2, 7, 2, 7, 0], 0), (24, .iload_n 1, [], 0), (25, .iload_n 2, [], 0), (26, .iastore, [], 0), (27, .iconst 1, [], 1), (28, .ireturn, [1], 0)]
/-- ProjectPlanner setRelease (II)I -/
noncomputable def T_C_setRelease : List xE := [(0, .aload_n 0, [], 0), (1, .iload_n 1, [], 0), (2, .invokevirtual 126, [85, 2, 0, 0, 1], 0), (5, .iload_n 2, [], 0), (6, .ifCond .lt 9, [8], 0), (9, .iload_n 2, [], 0), (10, .bipush 99, [], 99), (12, .if_icmp .le 14, [9], 0), (15, .new 97, [1, 6], 0), (26, .aload_n 0, [], 0), (27, .getfield 19, [1, 2, 3, 17, 0], 0), (30, .aload_n 0, [], 0), (31, .getfield 80, [1, 0, 3, 2, 9], 0), (34, .invokevirtual 294, [169, 2, 0, 0, 17], 0), (37, .aload_n 0, [], 0), (38, .getfield 80, [1, 0, 3, 2, 9], 0), (41, .getfield 170, [2, 7, 2, 7, 0], 0), (44, .iload_n 1, [], 0), (45, .iaload, [], 0), (46, .istore_n 3, [], 0), (47, .aload_n 0, [], 0), (48, .getfield 80, [1, 0, 3, 2, 9], 0), (51, .iload_n 1, [], 0), (52, .iload_n 2, [], 0), (53, .invokevirtual 304, [174, 3, 1, 0, 2], 0), (56, .pop, [], 0), (57, .iload_n 3, [], 0), (58, .ireturn, [], 0)]
/-- ProjectPlanner$Plan predecessorsOf (I)I -/
noncomputable def T_P_predecessorsOf : List xE := [(0, .iconst 0, [], 0), (1, .istore_n 2, [], 0), (2, .iconst 0, [], 0), (3, .istore_n 3, [], 0), (4, .nop, [], 0), (4, .iload_n 3, [], 0), (5, .aload_n 0, [], 0), (6, .getfield 41, [2, 2, 0, 0, 0], 0), (9, .if_icmp .ge 26, [22], 0), (12, .iload_n 1, [], 0), (13, .iload_n 3, [], 0), (14, .invokestatic 63, [37, 2, 1, 0, 0, 0], 0), (17, .ifCond .eq 12, [20], 0), (20, .iload_n 2, [], 0), (21, .aload_n 0, [], 0), (22, .getfield 28, [2, 8, 2, 8, 0], 0), (25, .iload_n 3, [], 0), (26, .iaload, [], 0), (27, .ior, [], 0), (28, .istore_n 2, [], 0), (29, .iinc 3 1, [], 1), (32, .goto (-28), [4], 0), (35, .iload_n 2, [], 0), (36, .ireturn, [], 0)]
/-- ProjectPlanner$Plan cycleLength (II)I -/
noncomputable def T_P_cycleLength : List xE := [(0, .iconst 1, [], 1), (1, .iload_n 1, [], 0), (2, .ishl, [], 0), (3, .istore_n 3, [], 0), (4, .iconst 1, [], 1), (5, .istore 4, [], 0), (7, .nop, [1], 0), (7, .iload 4, [], 0), (9, .aload_n 0, [], 0), (10, .getfield 41, [2, 2, 0, 0, 0], 0), (13, .if_icmp .gt 28, [25], 0), (16, .iload_n 3, [], 0), (17, .iload_n 2, [], 0), (18, .invokestatic 63, [37, 2, 1, 0, 0, 0], 0), (21, .ifCond .eq 6, [17], 0), (24, .iload 4, [], 0), (26, .ireturn, [], 0), (27, .iload_n 3, [], 0), (28, .aload_n 0, [], 0), (29, .iload_n 3, [], 0), (30, .invokevirtual 76, [176, 2, 1, 0, 2], 0), (33, .ior, [], 0), (34, .istore_n 3, [], 0), (35, .iinc 4 1, [], 1), (38, .goto (-31), [6], 0), (41, .iconst (-1), [], (-1)), (42, .ireturn, [], 0)]
/-- ProjectPlanner closedCycleLength (II)I -/
noncomputable def T_C_closedCycleLength : List xE := [(0, .aload_n 0, [], 0), (1, .iload_n 1, [], 0), (2, .invokevirtual 126, [85, 2, 0, 0, 1], 0), (5, .aload_n 0, [], 0), (6, .iload_n 2, [], 0), (7, .invokevirtual 126, [85, 2, 0, 0, 1], 0), (10, .aload_n 0, [], 0), (11, .getfield 80, [1, 0, 3, 2, 9], 0), (14, .iload_n 1, [], 0), (15, .iload_n 2, [], 0), (16, .invokevirtual 215, [177, 3, 1, 0, 2], 0), (19, .ireturn, [], 0)]
/-- ProjectPlanner$Plan canLink (II)Z -/
noncomputable def T_P_canLink : List xE := [(0, .aload_n 0, [], 0), (1, .iload_n 1, [], 0), (2, .iload_n 2, [], 0), (3, .invokevirtual 79, [38, 3, 1, 0, 2], 0), (6, .ifCond .ne 17, [13], 0), (9, .aload_n 0, [], 0), (10, .iload_n 1, [], 0), (11, .iload_n 2, [], 0), (12, .invokevirtual 82, [177, 3, 1, 0, 2], 0), (15, .iconst (-1), [], (-1)), (16, .if_icmp .ne 7, [13], 0), (19, .iconst 1, [], 1), (20, .goto 4, [14], 0), (23, .iconst 0, [], 0), (24, .ireturn, [1], 0)]
/-- ProjectPlanner$Plan link (II)Z -/
noncomputable def T_P_link : List xE := [(0, .aload_n 0, [], 0), (1, .iload_n 1, [], 0), (2, .invokevirtual 85, [84, 2, 1, 0, 2], 0), (5, .ifCond .eq 20, [13], 0), (8, .aload_n 0, [], 0), (9, .iload_n 2, [], 0), (10, .invokevirtual 85, [84, 2, 1, 0, 2], 0), (13, .ifCond .eq 12, [13], 0), (16, .aload_n 0, [], 0), (17, .iload_n 1, [], 0), (18, .iload_n 2, [], 0), (19, .invokevirtual 92, [179, 3, 1, 0, 2], 0), (22, .ifCond .ne 5, [15], 0), (25, .iconst 0, [], 0), (26, .ireturn, [1], 0), (27, .aload_n 0, [], 0), (28, .getfield 28, [2, 8, 2, 8, 0], 0), (31, .iload_n 2, [], 0), (32, .dup2, [], 0), (33, .iaload, [], 0), (34, .iconst 1, [], 1), (35, .iload_n 1, [], 0), (36, .ishl, [], 0), (37, .ior, [], 0), (38, .iastore, [], 0), (39, .iconst 1, [], 1), (40, .ireturn, [1], 0)]
/-- java/lang/Integer bitCount (I)I -/
noncomputable def T_JI_bitCount : List xE := [(0, .iload_n 0, [], 0), (1, .iload_n 0, [], 0), (2, .iconst 1, [], 1), (3, .iushr, [], 0), (4, .ldc_w 265, [], 1431655765), (7, .iand, [], 0), (8, .isub, [], 0), (9, .istore_n 0, [], 0), (10, .iload_n 0, [], 0), (11, .ldc_w 266, [], 858993459), (14, .iand, [], 0), (15, .iload_n 0, [], 0), (16, .iconst 2, [], 2), (17, .iushr, [], 0), (18, .ldc_w 266, [], 858993459), (21, .iand, [], 0), (22, .iadd, [], 0), (23, .istore_n 0, [], 0), (24, .iload_n 0, [], 0), (25, .iload_n 0, [], 0), (26, .iconst 4, [], 4), (27, .iushr, [], 0), (28, .iadd, [], 0), (29, .ldc_w 267, [], 252645135), (32, .iand, [], 0), (33, .istore_n 0, [], 0), (34, .iload_n 0, [], 0), (35, .iload_n 0, [], 0), (36, .bipush 8, [], 8), (38, .iushr, [], 0), (39, .iadd, [], 0), (40, .istore_n 0, [], 0), (41, .iload_n 0, [], 0), (42, .iload_n 0, [], 0), (43, .bipush 16, [], 16), (45, .iushr, [], 0), (46, .iadd, [], 0), (47, .istore_n 0, [], 0), (48, .iload_n 0, [], 0), (49, .bipush 63, [], 63), (51, .iand, [], 0), (52, .ireturn, [], 0)]
/-- ProjectPlanner$Plan countLinks ()I -/
noncomputable def T_P_countLinks : List xE := [(0, .iconst 0, [], 0), (1, .istore_n 1, [], 0), (2, .iconst 0, [], 0), (3, .istore_n 2, [], 0), (4, .nop, [], 0), (4, .iload_n 2, [], 0), (5, .aload_n 0, [], 0), (6, .getfield 41, [2, 2, 0, 0, 0], 0), (9, .if_icmp .ge 21, [19], 0), (12, .iload_n 1, [], 0), (13, .aload_n 0, [], 0), (14, .getfield 28, [2, 8, 2, 8, 0], 0), (17, .iload_n 2, [], 0), (18, .iaload, [], 0), (19, .invokestatic 71, [181, 1, 1, 0, 0, 0], 0), (22, .iadd, [], 0), (23, .istore_n 1, [], 0), (24, .iinc 2 1, [], 1), (27, .goto (-23), [4], 0), (30, .iload_n 1, [], 0), (31, .ireturn, [], 0)]
/-- ProjectPlanner addLink (II)I -/
noncomputable def T_C_addLink : List xE := [(0, .aload_n 0, [], 0), (1, .iload_n 1, [], 0), (2, .invokevirtual 126, [85, 2, 0, 0, 1], 0), (5, .aload_n 0, [], 0), (6, .iload_n 2, [], 0), (7, .invokevirtual 126, [85, 2, 0, 0, 1], 0), (10, .aload_n 0, [], 0), (11, .getfield 80, [1, 0, 3, 2, 9], 0), (14, .iload_n 1, [], 0), (15, .iload_n 2, [], 0), (16, .invokevirtual 307, [179, 3, 1, 0, 2], 0), (19, .ifCond .ne 14, [13], 0), (22, .new 87, [0, 6], 0), (33, .aload_n 0, [], 0), (34, .getfield 19, [1, 2, 3, 17, 0], 0), (37, .aload_n 0, [], 0), (38, .getfield 80, [1, 0, 3, 2, 9], 0), (41, .invokevirtual 294, [169, 2, 0, 0, 17], 0), (44, .aload_n 0, [], 0), (45, .getfield 80, [1, 0, 3, 2, 9], 0), (48, .iload_n 1, [], 0), (49, .iload_n 2, [], 0), (50, .invokevirtual 312, [180, 3, 1, 0, 2], 0), (53, .pop, [], 0), (54, .aload_n 0, [], 0), (55, .getfield 80, [1, 0, 3, 2, 9], 0), (58, .invokevirtual 177, [182, 1, 1, 0, 2], 0), (61, .ireturn, [], 0)]
/-- ProjectPlanner$Plan unlink (II)Z -/
noncomputable def T_P_unlink : List xE := [(0, .aload_n 0, [], 0), (1, .iload_n 1, [], 0), (2, .invokevirtual 85, [84, 2, 1, 0, 2], 0), (5, .ifCond .eq 20, [13], 0), (8, .aload_n 0, [], 0), (9, .iload_n 2, [], 0), (10, .invokevirtual 85, [84, 2, 1, 0, 2], 0), (13, .ifCond .eq 12, [13], 0), (16, .aload_n 0, [], 0), (17, .iload_n 1, [], 0), (18, .iload_n 2, [], 0), (19, .invokevirtual 79, [38, 3, 1, 0, 2], 0), (22, .ifCond .ne 5, [15], 0), (25, .iconst 0, [], 0), (26, .ireturn, [1], 0), (27, .aload_n 0, [], 0), (28, .getfield 28, [2, 8, 2, 8, 0], 0), (31, .iload_n 2, [], 0), (32, .dup2, [], 0), (33, .iaload, [], 0), (34, .iconst 1, [], 1), (35, .iload_n 1, [], 0), (36, .ishl, [], 0), (37, .iconst (-1), [], (-1)), (38, .ixor, [], 0), (39, .iand, [], 0), (40, .iastore, [], 0), (41, .iconst 1, [], 1), (42, .ireturn, [1], 0)]
/-- ProjectPlanner removeLink (II)I -/
noncomputable def T_C_removeLink : List xE := [(0, .aload_n 0, [], 0), (1, .iload_n 1, [], 0), (2, .invokevirtual 126, [85, 2, 0, 0, 1], 0), (5, .aload_n 0, [], 0), (6, .iload_n 2, [], 0), (7, .invokevirtual 126, [85, 2, 0, 0, 1], 0), (10, .aload_n 0, [], 0), (11, .getfield 80, [1, 0, 3, 2, 9], 0), (14, .iload_n 1, [], 0), (15, .iload_n 2, [], 0), (16, .invokevirtual 181, [38, 3, 1, 0, 2], 0), (19, .ifCond .ne 14, [13], 0), (22, .new 87, [0, 6], 0), (33, .aload_n 0, [], 0), (34, .getfield 19, [1, 2, 3, 17, 0], 0), (37, .aload_n 0, [], 0), (38, .getfield 80, [1, 0, 3, 2, 9], 0), (41, .invokevirtual 294, [169, 2, 0, 0, 17], 0), (44, .aload_n 0, [], 0), (45, .getfield 80, [1, 0, 3, 2, 9], 0), (48, .iload_n 1, [], 0), (49, .iload_n 2, [], 0), (50, .invokevirtual 317, [184, 3, 1, 0, 2], 0), (53, .pop, [], 0), (54, .aload_n 0, [], 0), (55, .getfield 80, [1, 0, 3, 2, 9], 0), (58, .invokevirtual 177, [182, 1, 1, 0, 2], 0), (61, .ireturn, [], 0)]
/-- ProjectPlanner$Plan greatestDemand (I)I -/
noncomputable def T_P_greatestDemand : List xE := [(0, .iconst 0, [], 0), (1, .istore_n 2, [], 0), (2, .iconst 0, [], 0), (3, .istore_n 3, [], 0), (4, .nop, [], 0), (4, .iload_n 3, [], 0), (5, .aload_n 0, [], 0), (6, .getfield 41, [2, 2, 0, 0, 0], 0), (9, .if_icmp .ge 20, [18], 0), (12, .iload_n 2, [], 0), (13, .aload_n 0, [], 0), (14, .iload_n 3, [], 0), (15, .iload_n 1, [], 0), (16, .invokevirtual 50, [121, 3, 1, 0, 2], 0), (19, .invokestatic 54, [44, 2, 1, 0, 0, 0], 0), (22, .istore_n 2, [], 0), (23, .iinc 3 1, [], 1), (26, .goto (-22), [4], 0), (29, .iload_n 2, [], 0), (30, .ireturn, [], 0)]
/-- ProjectPlanner$Plan changeCapacity (II)Z -/
noncomputable def T_P_changeCapacity : List xE := [(0, .aload_n 0, [], 0), (1, .iload_n 1, [], 0), (2, .invokevirtual 89, [119, 2, 1, 0, 2], 0), (5, .ifCond .eq 23, [15], 0), (8, .iload_n 2, [], 0), (9, .iconst 1, [], 1), (10, .if_icmp .lt 18, [15], 0), (13, .iload_n 2, [], 0), (14, .bipush 9, [], 9), (16, .if_icmp .gt 12, [15], 0), (19, .aload_n 0, [], 0), (20, .iload_n 1, [], 0), (21, .invokevirtual 95, [186, 2, 1, 0, 2], 0), (24, .iload_n 2, [], 0), (25, .if_icmp .le 5, [17], 0), (28, .iconst 0, [], 0), (29, .ireturn, [1], 0), (30, .aload_n 0, [], 0), (31, .getfield 15, [2, 4, 2, 4, 0], 0), (34, .iload_n 1, [], 0), (35, .iload_n 2, [], 0), (36, .iastore, [], 0), (37, .iconst 1, [], 1), (38, .ireturn, [1], 0)]
/-- ProjectPlanner setCapacity (II)I -/
noncomputable def T_C_setCapacity : List xE := [(0, .aload_n 0, [], 0), (1, .iload_n 1, [], 0), (2, .invokevirtual 160, [120, 2, 0, 0, 1], 0), (5, .iload_n 2, [], 0), (6, .iconst 1, [], 1), (7, .if_icmp .lt 9, [9], 0), (10, .iload_n 2, [], 0), (11, .bipush 9, [], 9), (13, .if_icmp .le 14, [10], 0), (16, .new 97, [1, 6], 0), (27, .aload_n 0, [], 0), (28, .getfield 80, [1, 0, 3, 2, 9], 0), (31, .iload_n 1, [], 0), (32, .invokevirtual 322, [186, 2, 1, 0, 2], 0), (35, .iload_n 2, [], 0), (36, .if_icmp .le 14, [17], 0), (39, .new 87, [0, 6], 0), (50, .aload_n 0, [], 0), (51, .getfield 19, [1, 2, 3, 17, 0], 0), (54, .aload_n 0, [], 0), (55, .getfield 80, [1, 0, 3, 2, 9], 0), (58, .invokevirtual 294, [169, 2, 0, 0, 17], 0), (61, .aload_n 0, [], 0), (62, .getfield 80, [1, 0, 3, 2, 9], 0), (65, .getfield 163, [2, 4, 2, 4, 0], 0), (68, .iload_n 1, [], 0), (69, .iaload, [], 0), (70, .istore_n 3, [], 0), (71, .aload_n 0, [], 0), (72, .getfield 80, [1, 0, 3, 2, 9], 0), (75, .iload_n 1, [], 0), (76, .iload_n 2, [], 0), (77, .invokevirtual 327, [187, 3, 1, 0, 2], 0), (80, .pop, [], 0), (81, .iload_n 3, [], 0), (82, .ireturn, [], 0)]
/-- ProjectPlanner$Plan moveTask (II)V -/
noncomputable def T_P_moveTask : List xE := [(0, .aload_n 0, [], 0), (1, .getfield 19, [2, 5, 2, 5, 0], 0), (4, .iload_n 2, [], 0), (5, .aload_n 0, [], 0), (6, .getfield 19, [2, 5, 2, 5, 0], 0), (9, .iload_n 1, [], 0), (10, .laload, [], 0), (11, .lastore, [], 0), (12, .aload_n 0, [], 0), (13, .getfield 22, [2, 6, 2, 6, 0], 0), (16, .iload_n 2, [], 0), (17, .aload_n 0, [], 0), (18, .getfield 22, [2, 6, 2, 6, 0], 0), (21, .iload_n 1, [], 0), (22, .iaload, [], 0), (23, .iastore, [], 0), (24, .aload_n 0, [], 0), (25, .getfield 25, [2, 7, 2, 7, 0], 0), (28, .iload_n 2, [], 0), (29, .aload_n 0, [], 0), (30, .getfield 25, [2, 7, 2, 7, 0], 0), (33, .iload_n 1, [], 0), (34, .iaload, [], 0), (35, .iastore, [], 0), (36, .aload_n 0, [], 0), (37, .getfield 28, [2, 8, 2, 8, 0], 0), (40, .iload_n 2, [], 0), (41, .aload_n 0, [], 0), (42, .getfield 28, [2, 8, 2, 8, 0], 0), (45, .iload_n 1, [], 0), (46, .iaload, [], 0), (47, .iastore, [], 0), (48, .iconst 0, [], 0), (49, .istore_n 3, [], 0), (50, .nop, [], 0), (50, .iload_n 3, [], 0), (51, .iconst 3, [], 3), (52, .if_icmp .ge 29, [56], 0), (55, .aload_n 0, [], 0), (56, .getfield 31, [2, 9, 2, 9, 0], 0), (59, .iload_n 2, [], 0), (60, .iconst 3, [], 3), (61, .imul, [], 0), (62, .iload_n 3, [], 0), (63, .iadd, [], 0), (64, .aload_n 0, [], 0), (65, .getfield 31, [2, 9, 2, 9, 0], 0), (68, .iload_n 1, [], 0), (69, .iconst 3, [], 3), (70, .imul, [], 0), (71, .iload_n 3, [], 0), (72, .iadd, [], 0), (73, .iaload, [], 0), (74, .iastore, [], 0), (75, .iinc 3 1, [], 1), (78, .goto (-28), [34], 0), (81, .return_, [], 0)]
/-- ProjectPlanner$Plan withoutBit (II)I -/
noncomputable def T_P_withoutBit : List xE := [(0, .iconst 1, [], 1), (1, .iload_n 1, [], 0), (2, .ishl, [], 0), (3, .iconst 1, [], 1), (4, .isub, [], 0), (5, .istore_n 2, [], 0), (6, .iload_n 0, [], 0), (7, .iload_n 2, [], 0), (8, .iand, [], 0), (9, .iload_n 0, [], 0), (10, .iconst 1, [], 1), (11, .ishr, [], 0), (12, .iload_n 2, [], 0), (13, .iconst (-1), [], (-1)), (14, .ixor, [], 0), (15, .iand, [], 0), (16, .ior, [], 0), (17, .ireturn, [], 0)]
/-- ProjectPlanner$Plan removeTask (I)Z -/
noncomputable def T_P_removeTask : List xE := [(0, .aload_n 0, [], 0), (1, .iload_n 1, [], 0), (2, .invokevirtual 85, [84, 2, 1, 0, 2], 0), (5, .ifCond .eq 11, [8], 0), (8, .aload_n 0, [], 0), (9, .getfield 41, [2, 2, 0, 0, 0], 0), (12, .iconst 1, [], 1), (13, .if_icmp .ne 5, [10], 0), (16, .iconst 0, [], 0), (17, .ireturn, [1], 0), (18, .aload_n 0, [], 0), (19, .dup, [], 0), (20, .getfield 41, [2, 2, 0, 0, 0], 0), (23, .iconst 1, [], 1), (24, .isub, [], 0), (25, .putfield 41, [2, 2, 0, 0, 0], 0), (28, .iload_n 1, [], 0), (29, .istore_n 2, [], 0), (30, .nop, [], 0), (30, .iload_n 2, [], 0), (31, .aload_n 0, [], 0), (32, .getfield 41, [2, 2, 0, 0, 0], 0), (35, .if_icmp .ge 17, [31], 0), (38, .aload_n 0, [], 0), (39, .iload_n 2, [], 0), (40, .iconst 1, [], 1), (41, .iadd, [], 0), (42, .iload_n 2, [], 0), (43, .invokevirtual 98, [189, 3, 0, 0, 2], 0), (46, .iinc 2 1, [], 1), (49, .goto (-19), [18], 0), (52, .iconst 0, [], 0), (53, .istore_n 2, [], 0), (54, .nop, [], 0), (54, .iload_n 2, [], 0), (55, .aload_n 0, [], 0), (56, .getfield 41, [2, 2, 0, 0, 0], 0), (59, .if_icmp .ge 25, [50], 0), (62, .aload_n 0, [], 0), (63, .getfield 28, [2, 8, 2, 8, 0], 0), (66, .iload_n 2, [], 0), (67, .aload_n 0, [], 0), (68, .getfield 28, [2, 8, 2, 8, 0], 0), (71, .iload_n 2, [], 0), (72, .iaload, [], 0), (73, .iload_n 1, [], 0), (74, .invokestatic 102, [190, 2, 1, 0, 0], 0), (77, .iastore, [], 0), (78, .iinc 2 1, [], 1), (81, .goto (-27), [33], 0), (84, .iconst 1, [], 1), (85, .ireturn, [1], 0)]
/-- ProjectPlanner dropTask (I)I -/
noncomputable def T_C_dropTask : List xE := [(0, .aload_n 0, [], 0), (1, .iload_n 1, [], 0), (2, .invokevirtual 126, [85, 2, 0, 0, 1], 0), (5, .aload_n 0, [], 0), (6, .getfield 80, [1, 0, 3, 2, 9], 0), (9, .getfield 111, [2, 2, 0, 0, 0], 0), (12, .iconst 1, [], 1), (13, .if_icmp .ne 14, [9], 0), (16, .new 87, [0, 6], 0), (27, .aload_n 0, [], 0), (28, .getfield 19, [1, 2, 3, 17, 0], 0), (31, .aload_n 0, [], 0), (32, .getfield 80, [1, 0, 3, 2, 9], 0), (35, .invokevirtual 294, [169, 2, 0, 0, 17], 0), (38, .aload_n 0, [], 0), (39, .getfield 80, [1, 0, 3, 2, 9], 0), (42, .iload_n 1, [], 0), (43, .invokevirtual 336, [191, 2, 1, 0, 2], 0), (46, .pop, [], 0), (47, .aload_n 0, [], 0), (48, .getfield 80, [1, 0, 3, 2, 9], 0), (51, .getfield 111, [2, 2, 0, 0, 0], 0), (54, .ireturn, [], 0)]
/-- ProjectPlanner$Plan changeRule (I)Z -/
noncomputable def T_P_changeRule : List xE := [(0, .iload_n 1, [], 0), (1, .ifCond .lt 8, [5], 0), (4, .iload_n 1, [], 0), (5, .iconst 3, [], 3), (6, .if_icmp .le 5, [7], 0), (9, .iconst 0, [], 0), (10, .ireturn, [1], 0), (11, .aload_n 0, [], 0), (12, .iload_n 1, [], 0), (13, .putfield 34, [2, 0, 0, 0, 0], 0), (16, .iconst 1, [], 1), (17, .ireturn, [1], 0)]
/-- ProjectPlanner setRule (I)I -/
noncomputable def T_C_setRule : List xE := [(0, .iload_n 1, [], 0), (1, .invokestatic 276, [165, 1, 0, 0, 0], 0), (4, .aload_n 0, [], 0), (5, .getfield 19, [1, 2, 3, 17, 0], 0), (8, .aload_n 0, [], 0), (9, .getfield 80, [1, 0, 3, 2, 9], 0), (12, .invokevirtual 294, [169, 2, 0, 0, 17], 0), (15, .aload_n 0, [], 0), (16, .getfield 80, [1, 0, 3, 2, 9], 0), (19, .getfield 123, [2, 0, 0, 0, 0], 0), (22, .istore_n 2, [], 0), (23, .aload_n 0, [], 0), (24, .getfield 80, [1, 0, 3, 2, 9], 0), (27, .iload_n 1, [], 0), (28, .invokevirtual 330, [193, 2, 1, 0, 2], 0), (31, .pop, [], 0), (32, .iload_n 2, [], 0), (33, .ireturn, [], 0)]
/-- ProjectPlannerLaw act (LProjectPlanner;I)V -/
noncomputable def T_L_act : List xE := [(0, .iload_n 1, [], 0), (1, .bipush 16, [], 16), (3, .idiv, [], 0), (4, .aload_n 0, [], 0), (5, .invokevirtual 69, [83, 1, 1, 0, 1, 1, 0], 0), (8, .irem, [], 0), (9, .istore_n 2, [], 0), (10, .iload_n 1, [], 0), (11, .sipush 256, [], 256), (14, .idiv, [], 0), (15, .aload_n 0, [], 0), (16, .invokevirtual 69, [83, 1, 1, 0, 1, 1, 0], 0), (19, .irem, [], 0), (20, .istore_n 3, [], 0), (21, .iload_n 1, [], 0), (22, .bipush 16, [], 16), (24, .idiv, [], 0), (25, .aload_n 0, [], 0), (26, .invokevirtual 72, [117, 1, 1, 0, 1, 1, 0], 0), (29, .irem, [], 0), (30, .istore 4, [], 0), (32, .iload_n 1, [], 0), (33, .bipush 10, [], 10), (35, .irem, [], 0), (36, .tableswitch 254 0 7 #[48, 67, 92, 109, 109, 137, 156, 227], [143, 0, 25, 37, 52, 62, 62, 78, 89, 128], 0), (84, .aload_n 0, [], 0), (85, .iload_n 2, [], 0), (86, .iconst 1, [], 1), (87, .iload_n 1, [], 0), (88, .sipush 4096, [], 4096), (91, .idiv, [], 0), (92, .bipush 9, [], 9), (94, .irem, [], 0), (95, .iadd, [], 0), (96, .invokevirtual 75, [171, 3, 1, 0, 1, 1, 0], 0), (99, .pop, [], 0), (100, .goto 202, [151], 0), (103, .aload_n 0, [], 0), (104, .iload_n 2, [], 0), (105, .iload 4, [], 0), (107, .iload_n 1, [], 0), (108, .sipush 4096, [], 4096), (111, .idiv, [], 0), (112, .aload_n 0, [], 0), (113, .iload 4, [], 0), (115, .invokevirtual 79, [124, 2, 1, 0, 1, 1, 0], 0), (118, .iconst 1, [], 1), (119, .iadd, [], 0), (120, .irem, [], 0), (121, .invokevirtual 82, [173, 4, 1, 0, 1, 1, 0], 0), (124, .pop, [], 0), (125, .goto 177, [151], 0), (128, .aload_n 0, [], 0), (129, .iload_n 2, [], 0), (130, .iload_n 1, [], 0), (131, .sipush 4096, [], 4096), (134, .idiv, [], 0), (135, .bipush 12, [], 12), (137, .irem, [], 0), (138, .invokevirtual 86, [175, 3, 1, 0, 1, 1, 0], 0), (141, .pop, [], 0), (142, .goto 160, [151], 0), (145, .aload_n 0, [], 0), (146, .iload_n 2, [], 0), (147, .iload_n 3, [], 0), (148, .invokevirtual 89, [87, 3, 1, 0, 1, 1, 0], 0), (151, .ifCond .ne 151, [151], 0), (154, .aload_n 0, [], 0), (155, .iload_n 2, [], 0), (156, .iload_n 3, [], 0), (157, .invokevirtual 93, [178, 3, 1, 0, 1, 1, 0], 0), (160, .ifCond .ge 142, [151], 0), (163, .aload_n 0, [], 0), (164, .iload_n 2, [], 0), (165, .iload_n 3, [], 0), (166, .invokevirtual 96, [183, 3, 1, 0, 1, 1, 0], 0), (169, .pop, [], 0), (170, .goto 132, [151], 0), (173, .aload_n 0, [], 0), (174, .iload_n 2, [], 0), (175, .iload_n 3, [], 0), (176, .invokevirtual 89, [87, 3, 1, 0, 1, 1, 0], 0), (179, .ifCond .eq 123, [151], 0), (182, .aload_n 0, [], 0), (183, .iload_n 2, [], 0), (184, .iload_n 3, [], 0), (185, .invokevirtual 99, [185, 3, 1, 0, 1, 1, 0], 0), (188, .pop, [], 0), (189, .goto 113, [151], 0), (192, .iconst 1, [], 1), (193, .istore 5, [], 0), (195, .iconst 0, [], 0), (196, .istore 6, [], 0), (198, .nop, [2, 3], 0), (198, .iload 6, [], 0), (200, .aload_n 0, [], 0), (201, .invokevirtual 69, [83, 1, 1, 0, 1, 1, 0], 0), (204, .if_icmp .ge 24, [107], 0), (207, .iload 5, [], 0), (209, .aload_n 0, [], 0), (210, .iload 6, [], 0), (212, .iload 4, [], 0), (214, .invokevirtual 102, [122, 3, 1, 0, 1, 1, 0], 0), (217, .invokestatic 105, [44, 2, 1, 0, 0, 1, 4], 0), (220, .istore 5, [], 0), (222, .iinc 6 1, [], 1), (225, .goto (-27), [93], 0), (228, .iload 5, [], 0), (230, .iconst 1, [], 1), (231, .iload_n 1, [], 0), (232, .sipush 4096, [], 4096), (235, .idiv, [], 0), (236, .bipush 9, [], 9), (238, .irem, [], 0), (239, .iadd, [], 0), (240, .if_icmp .gt 62, [151], 0), (243, .aload_n 0, [], 0), (244, .iload 4, [], 0), (246, .iconst 1, [], 1), (247, .iload_n 1, [], 0), (248, .sipush 4096, [], 4096), (251, .idiv, [], 0), (252, .bipush 9, [], 9), (254, .irem, [], 0), (255, .iadd, [], 0), (256, .invokevirtual 110, [188, 3, 1, 0, 1, 1, 0], 0), (259, .pop, [], 0), (260, .goto 42, [151], 0), (263, .aload_n 0, [], 0), (264, .invokevirtual 69, [83, 1, 1, 0, 1, 1, 0], 0), (267, .iconst 1, [], 1), (268, .if_icmp .le 34, [151], 0), (271, .iload_n 1, [], 0), (272, .sipush 4096, [], 4096), (275, .idiv, [], 0), (276, .iconst 4, [], 4), (277, .irem, [], 0), (278, .ifCond .ne 24, [151], 0), (281, .aload_n 0, [], 0), (282, .iload_n 2, [], 0), (283, .invokevirtual 113, [192, 2, 1, 0, 1, 1, 0], 0), (286, .pop, [], 0), (287, .goto 15, [151], 0), (290, .aload_n 0, [], 0), (291, .iload_n 1, [], 0), (292, .sipush 4096, [], 4096), (295, .idiv, [], 0), (296, .iconst 4, [], 4), (297, .irem, [], 0), (298, .invokevirtual 116, [194, 2, 1, 0, 1, 1, 0], 0), (301, .pop, [], 0), (302, .return_, [], 0)]
/-- ProjectPlannerLaw law ([I)Z -/
noncomputable def T_L_law : List xE := [(0, .new 19, [1, 9, 0], 0), (3, .dup, [], 0), (4, .invokespecial 119, [42, 1, 0, 0, 1, 0], 0), (7, .astore_n 1, [], 0), (8, .iconst 1, [], 1), (9, .aload_n 0, [], 0), (10, .iconst 0, [], 0), (11, .iconst 3, [], 3), (12, .invokestatic 41, [43, 3, 1, 0, 0, 0], 0), (15, .iadd, [], 0), (16, .istore_n 2, [], 0), (17, .iconst 1, [], 1), (18, .aload_n 0, [], 0), (19, .iconst 1, [], 1), (20, .bipush 8, [], 8), (22, .invokestatic 41, [43, 3, 1, 0, 0, 0], 0), (25, .iadd, [], 0), (26, .istore_n 3, [], 0), (27, .aload_n 1, [], 0), (28, .aload_n 0, [], 0), (29, .iload_n 2, [], 0), (30, .iload_n 3, [], 0), (31, .invokestatic 120, [75, 3, 3, 46, 0, 0], 0), (34, .invokestatic 124, [80, 2, 1, 0, 0, 0], 0), (37, .ifCond .eq 11, [29], 0), (40, .aload_n 1, [], 0), (41, .invokevirtual 128, [82, 1, 1, 0, 1, 1, 0], 0), (44, .iload_n 3, [], 0), (45, .if_icmp .eq 5, [31], 0), (48, .iconst 0, [], 0), (49, .ireturn, [1], 0), (50, .iconst 0, [], 0), (51, .istore 4, [], 0), (53, .nop, [2, 3, 5, 6, 7], 0), (53, .iload 4, [], 0), (55, .bipush 12, [], 12), (57, .if_icmp .ge 83, [79], 0), (60, .aload_n 0, [], 0), (61, .bipush 18, [], 18), (63, .iload 4, [], 0), (65, .iadd, [], 0), (66, .ldc 56, [], 268435456), (68, .invokestatic 41, [43, 3, 1, 0, 0, 0], 0), (71, .istore 5, [], 0), (73, .new 131, [27, 4, 0], 0), (76, .dup, [], 0), (77, .aload_n 1, [], 0), (78, .invokespecial 133, [97, 2, 0, 0, 27, 0], 0), (81, .astore 6, [], 0), (83, .aload 6, [], 0), (85, .invokevirtual 136, [164, 1, 1, 0, 27, 0], 0), (88, .ifCond .ne 5, [54], 0), (91, .iconst 0, [], 0), (92, .ireturn, [1], 0), (93, .iload 5, [], 0), (95, .bipush 16, [], 16), (97, .idiv, [], 0), (98, .iconst 4, [], 4), (99, .irem, [], 0), (100, .istore 7, [], 0), (102, .aload_n 1, [], 0), (103, .iload 7, [], 0), (105, .invokevirtual 140, [167, 2, 1, 0, 1, 1, 0], 0), (108, .aload 6, [], 0), (110, .iload 7, [], 0), (112, .invokevirtual 143, [126, 2, 1, 0, 27, 0], 0), (115, .if_icmp .eq 5, [69], 0), (118, .iconst 0, [], 0), (119, .ireturn, [1], 0), (120, .aload_n 1, [], 0), (121, .iload 5, [], 0), (123, .invokestatic 146, [195, 2, 0, 0, 0, 0], 0), (126, .aload_n 1, [], 0), (127, .iload 5, [], 0), (129, .iconst 3, [], 3), (130, .idiv, [], 0), (131, .invokestatic 146, [195, 2, 0, 0, 0, 0], 0), (134, .iinc 4 1, [], 1), (137, .goto (-84), [33], 0), (140, .new 131, [27, 4, 0], 0), (143, .dup, [], 0), (144, .aload_n 1, [], 0), (145, .invokespecial 133, [97, 2, 0, 0, 27, 0], 0), (148, .invokevirtual 136, [164, 1, 1, 0, 27, 0], 0), (151, .ireturn, [1], 0)]
noncomputable def xtab_0 (y : Nat) : List xE := match y with
  | 0 => T_P_init
  | 1 => T_H_init
  | 2 => T_I_init
  | 3 => T_T_init
  | 4 => T_K_init
  | 5 => T_R_init
  | 6 => T_D_init
  | 7 => T_S_init
  | 8 => T_JS_coder
  | 9 => T_JS_length
  | 10 => T_JS_isLatin1
  | 11 => T_JPreconditions_checkIndex
  | 12 => T_JS_checkIndex
  | 13 => T_JL_charAt
  | 14 => T_JS_charAt
  | 15 => T_I_putByte
  | _ => []
noncomputable def xtab_1 (y : Nat) : List xE := match y with
  | 0 => T_I_putText
  | 1 => T_T_isSeparator
  | 2 => T_C_isLetter
  | 3 => T_T_scanWord
  | 4 => T_C_isDigit
  | 5 => T_T_scanNumber
  | 6 => T_T_advance
  | 7 => T_T_open
  | 8 => T_C_packed
  | 9 => T_T_isAt
  | 10 => T_T_fail
  | 11 => T_T_takeOpening
  | 12 => T_T_takeNumber
  | 13 => T_T_takeSemicolon
  | 14 => T_U_readHead
  | 15 => T_P_resourceNamed
  | _ => []
noncomputable def xtab_2 (y : Nat) : List xE := match y with
  | 0 => T_T_takeNewName
  | 1 => T_U_readResource
  | 2 => T_P_taskNamed
  | 3 => T_U_readDemands
  | 4 => T_T_isAtKnownName
  | 5 => T_C_contains
  | 6 => T_P_isLinked
  | 7 => T_U_readLinks
  | 8 => T_U_readTask
  | 9 => T_U_read
  | 10 => T_C_init
  | 11 => T_L_pick
  | 12 => T_JM_max
  | 13 => T_JP_newLength
  | 14 => T_JA_newCapacity
  | 15 => T_JM_min
  | _ => []
noncomputable def xtab_3 (y : Nat) : List xE := match y with
  | 0 => T_JR_copyOf
  | 1 => T_JA_ensureCapacityInternal
  | 2 => T_JA_inflateIfNeededFor
  | 3 => T_JS_getBytes
  | 4 => T_JA_putStringAt
  | 5 => T_JA_append_0
  | 6 => T_JB_append_0
  | 7 => T_JB_append_1
  | 8 => T_JA_init
  | 9 => T_JB_init
  | 10 => T_JI_stringSize
  | 11 => T_JA_isLatin1
  | 12 => T_JI_getChars
  | 13 => T_JA_append_1
  | 14 => T_JB_append_2
  | 15 => T_JL_canEncode
  | _ => []
noncomputable def xtab_4 (y : Nat) : List xE := match y with
  | 0 => T_JA_append_2
  | 1 => T_JB_append_3
  | 2 => T_JA_getValue
  | 3 => T_JA_length
  | 4 => T_JB_length
  | 5 => T_JR_checkLength
  | 6 => T_JR_copyOfRangeByte
  | 7 => T_JR_copyOfRange
  | 8 => T_JS_init_0
  | 9 => T_JS_init_1
  | 10 => T_JB_toString
  | 11 => T_L_setup
  | 12 => T_C_truncate
  | 13 => T_L_word
  | 14 => T_I_putBytes
  | 15 => T_C_append
  | _ => []
noncomputable def xtab_5 (y : Nat) : List xE := match y with
  | 0 => T_L_say
  | 1 => T_P_copyFrom
  | 2 => T_C_load
  | 3 => T_C_taskCount
  | 4 => T_P_hasTask
  | 5 => T_C_requireTask
  | 6 => T_C_release
  | 7 => T_C_hasLink
  | 8 => T_C_duration
  | 9 => T_Q_early_7
  | 10 => T_Q_early_6
  | 11 => T_Q_early_5
  | 12 => T_Q_early_4
  | 13 => T_Q_early_3
  | 14 => T_Q_early_2
  | 15 => T_Q_early_1
  | _ => []
noncomputable def xtab_6 (y : Nat) : List xE := match y with
  | 0 => T_Q_early_0
  | 1 => T_Q_init
  | 2 => T_C_rule
  | 3 => T_Q_ready
  | 4 => T_Q_late_7
  | 5 => T_Q_late_6
  | 6 => T_Q_late_5
  | 7 => T_Q_late_4
  | 8 => T_Q_late_3
  | 9 => T_Q_late_2
  | 10 => T_Q_late_1
  | 11 => T_Q_late_0
  | 12 => T_Q_after_7
  | 13 => T_Q_after_6
  | 14 => T_Q_after_5
  | 15 => T_Q_after_4
  | _ => []
noncomputable def xtab_7 (y : Nat) : List xE := match y with
  | 0 => T_Q_after_3
  | 1 => T_Q_after_2
  | 2 => T_Q_after_1
  | 3 => T_Q_after_0
  | 4 => T_Q_isAhead
  | 5 => T_C_resourceCount
  | 6 => T_Q_isOn
  | 7 => T_P_hasResource
  | 8 => T_C_requireResource
  | 9 => T_P_demandOf
  | 10 => T_C_demand
  | 11 => T_Q_usage
  | 12 => T_C_capacity
  | 13 => T_Q_fits
  | 14 => T_Q_build
  | 15 => T_P_isReady
  | _ => []
noncomputable def xtab_8 (y : Nat) : List xE := match y with
  | 0 => T_D_sortTasks
  | 1 => T_D_findEarliest
  | 2 => T_D_findLatest
  | 3 => T_D_compute
  | 4 => T_D_countFollowers
  | 5 => T_S_rankOf
  | 6 => T_S_bestReady
  | 7 => T_S_predecessorsFinish
  | 8 => T_P_runsOn
  | 9 => T_P_loadOn
  | 10 => T_S_hasRoomOn
  | 11 => T_S_firstFreeDay
  | 12 => T_S_build
  | 13 => T_C_currentSchedule
  | 14 => T_C_makespan
  | 15 => T_C_currentDates
  | _ => []
noncomputable def xtab_9 (y : Nat) : List xE := match y with
  | 0 => T_C_projectLength
  | 1 => T_S_countBrokenLinks
  | 2 => T_S_usageOn
  | 3 => T_S_peakOf
  | 4 => T_S_countOverusedResources
  | 5 => T_P_workFor
  | 6 => T_P_daysOfWork
  | 7 => T_D_leastMakespan
  | 8 => T_C_inconsistencies
  | 9 => T_C_startDay
  | 10 => T_C_finishDay
  | 11 => T_C_earliestStart
  | 12 => T_C_latestStart
  | 13 => T_C_delay
  | 14 => T_D_slackOf
  | 15 => T_C_slack
  | _ => []
noncomputable def xtab_10 (y : Nat) : List xE := match y with
  | 0 => T_C_requireDay
  | 1 => T_C_usage
  | 2 => T_C_peakUsage
  | 3 => T_C_lowerBound
  | 4 => T_Q_agrees
  | 5 => T_C_requireRule
  | 6 => T_C_lengthWithRule
  | 7 => T_C_makespanWith
  | 8 => T_C_requireDuration
  | 9 => T_H_remember
  | 10 => T_P_changeDuration
  | 11 => T_C_setDuration
  | 12 => T_P_changeDemand
  | 13 => T_C_setDemand
  | 14 => T_P_changeRelease
  | 15 => T_C_setRelease
  | _ => []
noncomputable def xtab_11 (y : Nat) : List xE := match y with
  | 0 => T_P_predecessorsOf
  | 1 => T_P_cycleLength
  | 2 => T_C_closedCycleLength
  | 3 => T_P_canLink
  | 4 => T_P_link
  | 5 => T_JI_bitCount
  | 6 => T_P_countLinks
  | 7 => T_C_addLink
  | 8 => T_P_unlink
  | 9 => T_C_removeLink
  | 10 => T_P_greatestDemand
  | 11 => T_P_changeCapacity
  | 12 => T_C_setCapacity
  | 13 => T_P_moveTask
  | 14 => T_P_withoutBit
  | 15 => T_P_removeTask
  | _ => []
noncomputable def xtab_12 (y : Nat) : List xE := match y with
  | 0 => T_C_dropTask
  | 1 => T_P_changeRule
  | 2 => T_C_setRule
  | 3 => T_L_act
  | 4 => T_L_law
  | _ => []
noncomputable def xtab (y : Nat) : List xE := match y / 16 with
  | 0 => xtab_0 (y % 16)
  | 1 => xtab_1 (y % 16)
  | 2 => xtab_2 (y % 16)
  | 3 => xtab_3 (y % 16)
  | 4 => xtab_4 (y % 16)
  | 5 => xtab_5 (y % 16)
  | 6 => xtab_6 (y % 16)
  | 7 => xtab_7 (y % 16)
  | 8 => xtab_8 (y % 16)
  | 9 => xtab_9 (y % 16)
  | 10 => xtab_10 (y % 16)
  | 11 => xtab_11 (y % 16)
  | 12 => xtab_12 (y % 16)
  | _ => []
end
section
/-! THE PURE MACHINE: an interpreter of resolved bytecode over a store of typed places (kind, owner, slot). -/
abbrev xR : Type := Option ((Option xV ⊕ Nat) × xM)
def gi (M : xM) (k o s : Nat) : Int32 := match M k o s with
  | .int x => x
  | _ => 0
def gl (M : xM) (k o s : Nat) : Int64 := match M k o s with
  | .long x => x
  | _ => 0
def gd (M : xM) (k o s : Nat) : UInt64 := match M k o s with
  | .double x => x
  | _ => 0
def gn (M : xM) (k o s : Nat) : Nat := match M k o s with
  | .ref x => x
  | _ => 0
def xst (M : xM) (k o s : Nat) (v : Value) : xM := fun k' o' s' => if k' = k ∧ o' = o ∧ s' = s then v else M k' o' s'
def xcpy (M : xM) (ks os kd od sp dp n : Nat) : xM := fun k' o' s' => if k' = kd ∧ o' = od ∧ dp ≤ s' ∧ s' < dp + n then M ks os (sp + (s' - dp)) else M k' o' s'
/-- an index -/
abbrev ix (i : Int32) : Nat := i.toNatClampNeg
def xJ : xV := (0, .retAddr 0)
def xg (ls : List xV) (i : Nat) : xV := match ls, i with
  | [], _ => xJ
  | v :: _, 0 => v
  | _ :: r, i + 1 => xg r i
def xs (ls : List xV) (i : Nat) (v : xV) : List xV := match ls, i with
  | [], _ => []
  | _ :: r, 0 => v :: r
  | a :: r, i + 1 => a :: xs r i v
/-- the entry holds two words -/
def xwide (v : xV) : Bool := match v.2 with
  | .long _ => true
  | .double _ => true
  | _ => false
/-- a store into a local: the entry ahead falls if it held two words -/
def xsw1 (ls : List xV) (i : Nat) (v : xV) : List xV := match i with
  | 0 => xs ls 0 v
  | j + 1 => match xwide (xg ls j) with
    | true => xs (xs ls j xJ) (j + 1) v
    | false => xs ls (j + 1) v
def xkill (ls : List xV) (ks : List Nat) : List xV := match ks with
  | [] => ls
  | k :: r => xkill (xs ls k xJ) r
/-- a method's arguments in its locals -/
def xarg (n : Nat) (as : List xV) : List xV := match as with
  | [] => List.replicate n xJ
  | a :: r => match a.2 with
    | .long _ => a :: xJ :: xarg (n - 2) r
    | .double _ => a :: xJ :: xarg (n - 2) r
    | _ => a :: xarg (n - 1) r
def xcat1 (v : xV) : Bool := match v.2 with
  | .int _ => true
  | .float _ => true
  | .ref _ => true
  | .null => true
  | _ => false
/-- an index that is looked at -/
def xck (i : Int32) (n : Nat) (k : xR) : xR := if i < 0 ∨ n ≤ ix i then none else k
/-- behind a call: by what the callee answers -/
def xbI (r : xR) (f : Int32 → xM → xR) : xR := match r with
  | some (.inl (some (_, .int x)), M) => f x M
  | some (.inr E, M) => some (.inr E, M)
  | _ => none
def xbL (r : xR) (f : Int64 → xM → xR) : xR := match r with
  | some (.inl (some (_, .long x)), M) => f x M
  | some (.inr E, M) => some (.inr E, M)
  | _ => none
def xbF (r : xR) (f : UInt32 → xM → xR) : xR := match r with
  | some (.inl (some (_, .float x)), M) => f x M
  | some (.inr E, M) => some (.inr E, M)
  | _ => none
def xbD (r : xR) (f : UInt64 → xM → xR) : xR := match r with
  | some (.inl (some (_, .double x)), M) => f x M
  | some (.inr E, M) => some (.inr E, M)
  | _ => none
def xbR (r : xR) (kx : Nat) (f : Nat → xM → xR) : xR := match r with
  | some (.inl (some (k, .ref x)), M) => if k = kx then f x M else none
  | some (.inr E, M) => some (.inr E, M)
  | _ => none
def xbV (r : xR) (f : xM → xR) : xR := match r with
  | some (.inl none, M) => f M
  | some (.inr E, M) => some (.inr E, M)
  | _ => none
/-- .. where the caller has rows that catch -/
def xhI (r : xR) (f : Int32 → xM → xR) (h : Nat → xM → xR) : xR := match r with
  | some (.inl (some (_, .int x)), M) => f x M
  | some (.inr E, M) => h E M
  | _ => none
def xhF (r : xR) (f : UInt32 → xM → xR) (h : Nat → xM → xR) : xR := match r with
  | some (.inl (some (_, .float x)), M) => f x M
  | some (.inr E, M) => h E M
  | _ => none
def xhand (hs : List Nat) (E : Nat) (M : xM) (f : Nat → xR) : xR := match hs with
  | h :: t :: r => if E = h then f t else xhand r E M f
  | _ => some (.inr E, M)
/-- the length of an array of kind k -/
def xlens : List Nat := [0, 0, 0, 3, 3, 12, 12, 12, 12, 36, 0, 12, 12, 12, 12, 0, 12, 0, 6, 0, 600, 0, 0, 30, 0, 2, 2, 0, 12, 12, 0, 0, 0, 0, 0, 0, 0, 0, 0, 0, 0, 0, 0, 0, 0, 0, 0, 0, 100, 0, 0, 0, 100, 0, 0, 0, 0, 0, 0]
def xdyn (k : Nat) : Bool := (Nat.beq k 41 || Nat.beq k 47) || Nat.beq k 49
def xlen (k o : Nat) (M : xM) : Nat := match xdyn k with
  | true => gn M (110 + k) o 0
  | false => xnth xlens k
/-- a switch -/
def xsw (f : Nat → xR) (x : Int32) (d : Nat) (k : Nat) (ts : List Nat) : xR := match ts with
  | [] => f d
  | t :: r => if x = Int32.ofNat k then f t else xsw f x d (k + 1) r
/-- n values off the stack, the deepest first -/
def xtake (n : Nat) (st : List xV) (acc : List xV) : Option (List xV × List xV) := match n, st with
  | 0, st => some (acc, st)
  | n + 1, v :: st => xtake n st (v :: acc)
  | _ + 1, [] => none
def xget (kx tag tk tw f : Nat) (o : Nat) (M : xM) : Option xV := match tag with
  | 0 => some (0, .int (gi M kx o f))
  | 1 => some (0, .long (gl M kx o f))
  | 2 => some (tk, .ref o)
  | 3 => some (tk, .ref tw)
  | 4 => some (tk, .ref (gn M kx o f))
  | 5 => some (tk, .ref (o + tw))
  | _ => none
def xput (kx tag tk f : Nat) (o : Nat) (v : xV) (M : xM) : Option xM := match Nat.blt kx 60 && xmut kx o with
  | true => (match tag, v with
    | 0, (_, .int x) => some (xst M kx o f (.int x))
    | 1, (_, .long x) => some (xst M kx o f (.long x))
    | 4, (k, .ref q) => if k = tk then some (xst M kx o f (.ref q)) else none
    | _, _ => none)
  | false => none
/-- a throw makes one cell of n slots -/
def xbump (M : xM) (c n : Nat) : xM := xst (xst M 100 0 0 (.ref (gn M 100 0 0 + c))) 100 0 1 (.ref (gn M 100 0 1 + n))
/-- a new object: its number is the count of its kind -/
def xclr (M : xM) (k o : Nat) : xM := fun k' o' s' => if (k' = k ∨ k' = 200 + k) ∧ o' = o then .retAddr 0 else M k' o' s'
def xnew (M : xM) (k n : Nat) : xM := xbump (xst (xclr M k (gn M 101 k 0)) 101 k 0 (.ref (gn M 101 k 0 + 1))) 1 n
def xnewD (M : xM) (k n : Nat) : xM := xst (xnew M k n) (110 + k) (gn M 101 k 0) 0 (.ref n)
def xnar (t : Nat) (x : Int32) : Int32 := match t with
  | 1 => x &&& 1
  | 2 => (x.toUInt32 % 65536).toInt32
  | 3 => x.toInt8.toInt32
  | _ => x
/-- the instructions that only move values: the new locals, stack, store -/
def xpure (i : Instr) (aux : List Nat) (kc : Int32) (ls st : List xV) (M : xM) : Option (List xV × List xV × xM) := match i with
    | .nop => some ((xkill ls aux), st, M)
    | .iconst _ | .bipush _ | .sipush _ => some (ls, ((0, .int kc) :: st), M)
    | .aconst_null => some (ls, ((0, .null) :: st), M)
    | .lconst n => some (ls, ((0, .long (Int64.ofNat n)) :: st), M)
    | .fconst n => some (ls, ((0, .float (if n = 0 then 0 else if n = 1 then 0x3f800000 else 0x40000000)) :: st), M)
    | .dconst n => some (ls, ((0, .double (if n = 0 then 0 else 0x3ff0000000000000)) :: st), M)
    | .ldc _ | .ldc_w _ => match aux with
      | [] => some (ls, ((0, .int kc) :: st), M)
      | k :: o :: _ => some (ls, ((k, .ref o) :: st), M)
      | _ => none
    | .ldc2_w _ => match aux with
      | [n] => some (ls, ((0, .long (Int64.ofNat n)) :: st), M)
      | _ => none
    | .iload n => match xg ls n with
      | (_, .int x) => some (ls, (0, .int x) :: st, M)
      | _ => none
    | .lload n => match xg ls n with
      | (_, .long x) => some (ls, (0, .long x) :: st, M)
      | _ => none
    | .fload n => match xg ls n with
      | (_, .float x) => some (ls, (0, .float x) :: st, M)
      | _ => none
    | .dload n => match xg ls n with
      | (_, .double x) => some (ls, (0, .double x) :: st, M)
      | _ => none
    | .aload n => match xg ls n with
      | (k, .ref o) => some (ls, (k, .ref o) :: st, M)
      | (_, .null) => some (ls, (0, .null) :: st, M)
      | _ => none
    | .istore n => match st with
      | (_, .int x) :: st => some (xsw1 ls n (0, .int x), st, M)
      | _ => none
    | .fstore n => match st with
      | (_, .float x) :: st => some (xsw1 ls n (0, .float x), st, M)
      | _ => none
    | .astore n => match st with
      | (k, .ref o) :: st => some (xsw1 ls n (k, .ref o), st, M)
      | (_, .null) :: st => some (xsw1 ls n (0, .null), st, M)
      | _ => none
    | .lstore n => match st with
      | (_, .long x) :: st => some (xs (xsw1 ls n (0, .long x)) (n + 1) xJ, st, M)
      | _ => none
    | .dstore n => match st with
      | (_, .double x) :: st => some (xs (xsw1 ls n (0, .double x)) (n + 1) xJ, st, M)
      | _ => none
    | .iload_n n => match xg ls n with
      | (_, .int x) => some (ls, (0, .int x) :: st, M)
      | _ => none
    | .lload_n n => match xg ls n with
      | (_, .long x) => some (ls, (0, .long x) :: st, M)
      | _ => none
    | .fload_n n => match xg ls n with
      | (_, .float x) => some (ls, (0, .float x) :: st, M)
      | _ => none
    | .dload_n n => match xg ls n with
      | (_, .double x) => some (ls, (0, .double x) :: st, M)
      | _ => none
    | .aload_n n => match xg ls n with
      | (k, .ref o) => some (ls, (k, .ref o) :: st, M)
      | (_, .null) => some (ls, (0, .null) :: st, M)
      | _ => none
    | .istore_n n => match st with
      | (_, .int x) :: st => some (xsw1 ls n (0, .int x), st, M)
      | _ => none
    | .fstore_n n => match st with
      | (_, .float x) :: st => some (xsw1 ls n (0, .float x), st, M)
      | _ => none
    | .astore_n n => match st with
      | (k, .ref o) :: st => some (xsw1 ls n (k, .ref o), st, M)
      | (_, .null) :: st => some (xsw1 ls n (0, .null), st, M)
      | _ => none
    | .lstore_n n => match st with
      | (_, .long x) :: st => some (xs (xsw1 ls n (0, .long x)) (n + 1) xJ, st, M)
      | _ => none
    | .dstore_n n => match st with
      | (_, .double x) :: st => some (xs (xsw1 ls n (0, .double x)) (n + 1) xJ, st, M)
      | _ => none
    | .iinc n _ => match xg ls n with
      | (_, .int x) => some ((xsw1 ls n (0, .int (x + kc))), st, M)
      | _ => none
    | .pop => match st with
      | v :: st => (match xcat1 v with
        | true => some (ls, st, M)
        | false => none)
      | _ => none
    | .dup => match st with
      | v :: st => (match xcat1 v with
        | true => some (ls, v :: v :: st, M)
        | false => none)
      | _ => none
    | .dup_x1 => match st with
      | v :: w :: st => (match xcat1 v && xcat1 w with
        | true => some (ls, v :: w :: v :: st, M)
        | false => none)
      | _ => none
    | .dup2 => match st with
      | v :: w :: st => (match xcat1 v && xcat1 w with
        | true => some (ls, v :: w :: v :: w :: st, M)
        | false => none)
      | _ => none
    | .iadd => match st with
      | (_, .int y) :: (_, .int x) :: st => some (ls, ((0, .int (x + y)) :: st), M)
      | _ => none
    | .isub => match st with
      | (_, .int y) :: (_, .int x) :: st => some (ls, ((0, .int (x - y)) :: st), M)
      | _ => none
    | .imul => match st with
      | (_, .int y) :: (_, .int x) :: st => some (ls, ((0, .int (x * y)) :: st), M)
      | _ => none
    | .ineg => match st with
      | (_, .int x) :: st => some (ls, ((0, .int (-x)) :: st), M)
      | _ => none
    | .iand => match st with
      | (_, .int y) :: (_, .int x) :: st => some (ls, ((0, .int (x &&& y)) :: st), M)
      | _ => none
    | .ior => match st with
      | (_, .int y) :: (_, .int x) :: st => some (ls, ((0, .int (x ||| y)) :: st), M)
      | _ => none
    | .ixor => match st with
      | (_, .int y) :: (_, .int x) :: st => some (ls, ((0, .int (x ^^^ y)) :: st), M)
      | _ => none
    | .ishl => match st with
      | (_, .int y) :: (_, .int x) :: st => some (ls, ((0, .int (x <<< (y &&& 31))) :: st), M)
      | _ => none
    | .ishr => match st with
      | (_, .int y) :: (_, .int x) :: st => some (ls, ((0, .int (x >>> (y &&& 31))) :: st), M)
      | _ => none
    | .iushr => match st with
      | (_, .int y) :: (_, .int x) :: st => some (ls, ((0, .int (x.toUInt32 >>> (y.toUInt32 &&& Int32.toUInt32 31)).toInt32) :: st), M)
      | _ => none
    | .land => match st with
      | (_, .long y) :: (_, .long x) :: st => some (ls, ((0, .long (x &&& y)) :: st), M)
      | _ => none
    | .lor => match st with
      | (_, .long y) :: (_, .long x) :: st => some (ls, ((0, .long (x ||| y)) :: st), M)
      | _ => none
    | .lshl => match st with
      | (_, .int y) :: (_, .long x) :: st => some (ls, ((0, .long (x <<< (y.toInt64 &&& 63))) :: st), M)
      | _ => none
    | .lshr => match st with
      | (_, .int y) :: (_, .long x) :: st => some (ls, ((0, .long (x >>> (y.toInt64 &&& 63))) :: st), M)
      | _ => none
    | .lcmp => match st with
      | (_, .long y) :: (_, .long x) :: st => some (ls, ((0, .int (lg_cmp x y)) :: st), M)
      | _ => none
    | .i2l => match st with
      | (_, .int x) :: st => some (ls, ((0, .long x.toInt64) :: st), M)
      | _ => none
    | .l2i => match st with
      | (_, .long x) :: st => some (ls, ((0, .int x.toInt32) :: st), M)
      | _ => none
    | .i2b => match st with
      | (_, .int x) :: st => some (ls, ((0, .int x.toInt8.toInt32) :: st), M)
      | _ => none
    | .i2c => match st with
      | (_, .int x) :: st => some (ls, ((0, .int (x.toUInt32 % 65536).toInt32) :: st), M)
      | _ => none
    | .i2f => match st with
      | (_, .int x) :: st => some (ls, ((0, .float (FP.i2f x)) :: st), M)
      | _ => none
    | .i2d => match st with
      | (_, .int x) :: st => some (ls, ((0, .double (FP.i2d x)) :: st), M)
      | _ => none
    | .fcmp op => match st with
      | (_, .float y) :: (_, .float x) :: st => some (ls, ((0, .int (Op.cmpValue (FP.fcmp x y) op)) :: st), M)
      | _ => none
    | .dcmp op => match st with
      | (_, .double y) :: (_, .double x) :: st => some (ls, ((0, .int (Op.cmpValue (FP.dcmp x y) op)) :: st), M)
      | _ => none
    | .getfield _ => match st, aux with
      | (k, .ref o) :: st, [kx, f, tag, tk, tw] => if k = kx then (match xget kx tag tk tw f o M with
        | some v => some (ls, (v :: st), M)
        | none => none) else none
      | _, _ => none
    | .putfield _ => match st, aux with
      | v :: (k, .ref o) :: st, [kx, f, tag, tk, _] => if k = kx then (match xput kx tag tk f o v M with
        | some M => some (ls, st, M)
        | none => none) else none
      | _, _ => none
    | .getstatic _ => match aux with
      | [] => some (ls, ((0, .int kc) :: st), M)
      | [k, o] => some (ls, ((k, .ref o) :: st), M)
      | _ => none
    | .arraylength => match st with
      | (k, .ref o) :: st => match Nat.beq (xtc k) 0 with
        | true => none
        | false => some (ls, ((0, .int (Int32.ofNat (xlen k o M))) :: st), M)
      | _ => none
    | _ => none
/-- what a store into a byte[] or a boolean[] leaves -/
def xnab (t : Nat) (x : Int32) : Int32 := match t with
  | 2 => x.toInt8.toInt32
  | _ => x &&& 1
def xgd (b : Bool) (k : xR) : xR := match b with
  | true => k
  | false => none
/-- what arraycopy is used for: ints, bytes, longs -/
def xcp (t : Nat) : Bool := match t with
  | 1 => true
  | 2 => true
  | 4 => true
  | _ => false
/-- only what returns -/
def xret (r : xR) : xR := match r with
  | some (.inl v, M) => some (.inl v, M)
  | _ => none
/-- the places of a list are there, with all that they refer to -/
def xgdF (M : xM) (k o : Nat) : List (Nat × Nat × Nat) → Nat → Bool
  | [], _ => true
  | (t, _) :: r, f => (match t with
    | 0 => true
    | 1 => true
    | _ => Nat.beq (gn M (200 + k) o f) 1) && xgdF M k o r (f + 1)
def xgdA (M : xM) (k o : Nat) : Nat → Bool
  | 0 => true
  | n + 1 => Nat.beq (gn M (200 + k) o n) 1 && xgdA M k o n
def xgood (L : List (Nat × Nat)) (M : xM) : Bool := L.all (fun q => Nat.blt q.2 (gn M 101 q.1 0) && (match xra q.1 with
  | true => xgdA M q.1 q.2 (xnth xlens q.1)
  | false => xgdF M q.1 q.2 (xfd q.1) 0))
/-- arguments out of a list of things -/
def xain (L : List (Nat × Nat)) (as : List xV) : Bool := as.all (fun v => match v with
  | (k, .ref o) => !xstrk k || L.any (fun q => Nat.beq q.1 k && Nat.beq q.2 o)
  | _ => true)
/-- a call's answer, by its tag (0 none, 1 int, 2 long, 3 reference, 4 float, 5 double) -/
def xcall (t kx : Nat) (r : xR) (En : List xV → xM → xR) (st : List xV) : xR := match t with
  | 0 => xbV r (fun M => En st M)
  | 1 => xbI r (fun x M => En ((0, .int x) :: st) M)
  | 2 => xbL r (fun x M => En ((0, .long x) :: st) M)
  | 3 => xbR r kx (fun x M => En ((kx, .ref x) :: st) M)
  | 4 => xbF r (fun x M => En ((0, .float x) :: st) M)
  | 5 => xbD r (fun x M => En ((0, .double x) :: st) M)
  | _ => none
/-- no exception is held -/
def xno51 (ls : List xV) : Bool := ls.all (fun v => !Nat.beq v.1 51)
/-- the receiver is of the kind -/
def xrcv (rk : Nat) (as : List xV) : Bool := match rk, as with
  | 0, _ => true
  | r + 1, (k, .ref _) :: _ => Nat.beq k (r + 1)
  | _, _ => false
/-- how many words the arguments have -/
def xaw (as : List xV) : Nat := match as with
  | [] => 0
  | a :: r => (match xwide a with
    | true => 2
    | false => 1) + xaw r
/-- a call. aux: method, arguments, answer's tag, its kind, and the manner: none; [0]: a callee that returns; [1, i]: of a list of places; [2, rows that catch ..] -/
def xinvoke (tab : Nat → List xE) (ml : Nat → Nat) (Ec En : List xE → List xE → List xV → List xV → xM → xR) (aux : List Nat) (C cs : List xE) (ls st : List xV) (M : xM) : xR := match aux with
  | y :: n :: t :: kx :: rk :: hs => match xtake n st [] with
    | some (as, st) => match Nat.ble (xaw st) 8 && (xrcv rk as && (Nat.beq y 9999 || Nat.ble (xaw as) (ml y))) with
      | true => match hs with
        | [] => xcall t kx (Ec (tab y) (tab y) (xarg (ml y) as) [] M) (fun st M => En C cs ls st M) st
        | 0 :: _ => xcall t kx (xret (Ec (tab y) (tab y) (xarg (ml y) as) [] M)) (fun st M => En C cs ls st M) st
        | 1 :: i :: _ => xgd (xgood (xsl i) M && xain (xsl i) as) (xcall t kx (xret (Ec (tab y) (tab y) (xarg (ml y) as) [] M)) (fun st M => En C cs ls st M) st)
        | 2 :: hs => match xno51 ls, t with
          | true, 1 => xhI (Ec (tab y) (tab y) (xarg (ml y) as) [] M) (fun x M => En C cs ls ((0, .int x) :: st) M) (fun E M => xhand hs E M (fun t => En C (C.drop t) ls [(51, .ref 1)] M))
          | true, 4 => xhF (Ec (tab y) (tab y) (xarg (ml y) as) [] M) (fun x M => En C cs ls ((0, .float x) :: st) M) (fun E M => xhand hs E M (fun t => En C (C.drop t) ls [(51, .ref 1)] M))
          | _, _ => none
        | 3 :: _ => match as with
          | [(ks, .ref os), (_, .int sp), (kd, .ref od), (_, .int dp), (_, .int l)] => match Nat.blt kd 60 && (Nat.beq (xtc ks) (xtc kd) && xcp (xtc kd)) with
            | true => xgd (xmut kd od) (if sp < 0 ∨ dp < 0 ∨ l < 0 ∨ xlen ks os M < ix sp + ix l ∨ xlen kd od M < ix dp + ix l then none else En C cs ls st (xcpy M ks os kd od (ix sp) (ix dp) (ix l)))
            | false => none
          | _ => none
        | 4 :: kd :: _ => match as, Nat.blt kd 60 && Nat.beq (xtc kd) 2 with
          | [(ks, .ref os)], true => xgd (Nat.beq ks 49) (En C cs ls ((kd, .ref (gn M 101 kd 0)) :: st) (xcpy (xnewD M kd (xlen ks os M)) ks os kd (gn M 101 kd 0) 0 0 (xlen ks os M)))
          | _, _ => none
        | 5 :: _ => match as with
          | [(k, .ref _)] => xgd (!Nat.beq k 51) (En C cs ls st M)
          | _ => none
        | _ => none
      | false => none
    | none => none
  | _ => none
/-- the others. aux: jumps: [target]; invoke: method, arguments, answer's tag, its kind, handlers .. -/
def xctl (tab : Nat → List xE) (ml : Nat → Nat) (Ec En : List xE → List xE → List xV → List xV → xM → xR) (i : Instr) (aux : List Nat) (kc : Int32) (C cs : List xE) (ls st : List xV) (M : xM) : xR := match i with
    | .idiv => match st with
      | (_, .int y) :: (_, .int x) :: st => if y = 0 then none else En C cs ls ((0, .int (x / y)) :: st) M
      | _ => none
    | .irem => match st with
      | (_, .int y) :: (_, .int x) :: st => if y = 0 then none else En C cs ls ((0, .int (x - x / y * y)) :: st) M
      | _ => none
    | .f2d => match st with
      | (_, .float x) :: st => if FP.f2d x &&& 0x7fffffffffffffff ≤ 0x7ff0000000000000 then En C cs ls ((0, .double (FP.f2d x)) :: st) M else none
      | _ => none
    | .fdiv => match st with
      | (_, .float y) :: (_, .float x) :: st => if FP.fdiv x y &&& 0x7fffffff ≤ 0x7f800000 then En C cs ls ((0, .float (FP.fdiv x y)) :: st) M else none
      | _ => none
    | .ddiv => match st with
      | (_, .double y) :: (_, .double x) :: st => if FP.ddiv x y &&& 0x7fffffffffffffff ≤ 0x7ff0000000000000 then En C cs ls ((0, .double (FP.ddiv x y)) :: st) M else none
      | _ => none
    | .goto _ => En C (C.drop (aux.headD 0)) ls st M
    | .ifnonnull _ => match st with
      | (k, .ref _) :: st => xgd (!Nat.beq k 51) (En C (C.drop (aux.headD 0)) ls st M)
      | _ => none
    | .ifCond c _ => match st with
      | (_, .int x) :: st => match c with
        | .eq => if x = 0 then En C (C.drop (aux.headD 0)) ls st M else En C cs ls st M
        | .ne => if x = 0 then En C cs ls st M else En C (C.drop (aux.headD 0)) ls st M
        | .lt => if x < 0 then En C (C.drop (aux.headD 0)) ls st M else En C cs ls st M
        | .ge => if x < 0 then En C cs ls st M else En C (C.drop (aux.headD 0)) ls st M
        | .gt => if 0 < x then En C (C.drop (aux.headD 0)) ls st M else En C cs ls st M
        | .le => if 0 < x then En C cs ls st M else En C (C.drop (aux.headD 0)) ls st M
      | _ => none
    | .if_icmp c _ => match st with
      | (_, .int y) :: (_, .int x) :: st => match c with
        | .eq => if x = y then En C (C.drop (aux.headD 0)) ls st M else En C cs ls st M
        | .ne => if x = y then En C cs ls st M else En C (C.drop (aux.headD 0)) ls st M
        | .lt => if x < y then En C (C.drop (aux.headD 0)) ls st M else En C cs ls st M
        | .ge => if x < y then En C cs ls st M else En C (C.drop (aux.headD 0)) ls st M
        | .gt => if y < x then En C (C.drop (aux.headD 0)) ls st M else En C cs ls st M
        | .le => if y < x then En C cs ls st M else En C (C.drop (aux.headD 0)) ls st M
      | _ => none
    | .if_acmp c _ => match st with
      | (ky, .ref y) :: (kx, .ref x) :: st => if kx = ky then (match Nat.beq kx 42, c with
        | true, .eq => if x = y then En C (C.drop (aux.headD 0)) ls st M else En C cs ls st M
        | true, .ne => if x = y then En C cs ls st M else En C (C.drop (aux.headD 0)) ls st M
        | _, _ => none) else none
      | _ => none
    | .tableswitch _ _ _ _ => match st, aux with
      | (_, .int x) :: st, d :: lo :: ts => xsw (fun t => En C (C.drop t) ls st M) x d lo ts
      | _, _ => none
    | .iaload | .baload => match st with
      | (_, .int i) :: (k, .ref o) :: st => xgd (match aux with
        | [] => Nat.beq (xtc k) 1
        | _ => Nat.beq (xtc k) 2 || Nat.beq (xtc k) 3) (xck i (xlen k o M) (En C cs ls ((0, .int (gi M k o (ix i))) :: st) M))
      | _ => none
    | .laload => match st with
      | (_, .int i) :: (k, .ref o) :: st => xgd (Nat.beq (xtc k) 4) (xck i (xlen k o M) (En C cs ls ((0, .long (gl M k o (ix i))) :: st) M))
      | _ => none
    | .daload => match st with
      | (_, .int i) :: (k, .ref o) :: st => xgd (Nat.beq (xtc k) 5) (xck i (xlen k o M) (En C cs ls ((0, .double (gd M k o (ix i))) :: st) M))
      | _ => none
    | .getfield _ => match st, aux with
      | (k, .ref o) :: st, [kx, f, tag, tk, tw] => if k = kx then (match tag with
        | 12 => if gn M (200 + kx) o f = 1 then En C cs ls ((tk, .ref o) :: st) M else none
        | 13 => if gn M (200 + kx) o f = 1 then En C cs ls ((tk, .ref tw) :: st) M else none
        | 14 => if gn M (200 + kx) o f = 1 then En C cs ls ((tk, .ref (gn M kx o f)) :: st) M else none
        | 15 => if gn M (200 + kx) o f = 1 then En C cs ls ((tk, .ref (o + tw)) :: st) M else none
        | _ => none) else none
      | _, _ => none
    | .putfield _ => match st, aux with
      | (k2, .ref q) :: (k, .ref o) :: st, [kx, f, tag, tk, tw] => if k = kx then (if k2 = tk then (match Nat.blt kx 60 with
        | true => xgd (xmut kx o) (match tag with
          | 12 => if q = o then En C cs ls st (xst M (200 + kx) o f (.ref 1)) else none
          | 13 => if q = tw then En C cs ls st (xst M (200 + kx) o f (.ref 1)) else none
          | 14 => En C cs ls st (xst (xst M kx o f (.ref q)) (200 + kx) o f (.ref 1))
          | _ => none)
        | false => none) else none) else none
      | (_, .int x) :: (k, .ref o) :: st, [kx, f, 10, _, _] => if k = kx then (match Nat.blt kx 60 with
        | true => xgd (xmut kx o) (if x = 0 then En C cs ls st (xst M kx o f (.int 0)) else none)
        | false => none) else none
      | _, _ => none
    | .newarray _ | .anewarray _ => match st, aux with
      | (_, .int x) :: st, [k] => match Nat.blt k 60, xdyn k with
        | true, true => if x < 0 ∨ 65536 < ix x then none else En C cs ls ((k, .ref (gn M 101 k 0)) :: st) (xnewD M k (ix x))
        | true, false => if x = Int32.ofNat (xnth xlens k) then En C cs ls ((k, .ref (gn M 101 k 0)) :: st) (xnew M k (xnth xlens k)) else none
        | _, _ => none
      | _, _ => none
    | .checkcast _ => match st, aux with
      | (k, .ref o) :: st, [1] => xgd (Nat.beq k 47 && xmut k o) (En C cs ls ((k, .ref o) :: st) M)
      | _, _ => none
    | .aastore => match st, aux with
      | (k2, .ref q) :: (_, .int i) :: (k, .ref o) :: st, [kx, tk, tw] => if k = kx then (if k2 = tk then (match Nat.blt kx 60 with
        | true => xck i (xnth xlens kx) (if q = ix i + tw then En C cs ls st (xst M (200 + kx) o (ix i) (.ref 1)) else none)
        | false => none) else none) else none
      | _, _ => none
    | .aaload => match st, aux with
      | (_, .int i) :: (k, .ref o) :: st, [kx, tk, tw, _] => if k = kx then xck i (xnth xlens kx) (if gn M (200 + kx) o (ix i) = 1 then En C cs ls ((tk, .ref (ix i + tw)) :: st) M else none) else none
      | (_, .int i) :: (k, .ref _) :: st, [kx, tk, tw] => if k = kx then xck i (xnth xlens kx) (En C cs ls ((tk, .ref (ix i + tw)) :: st) M) else none
      | _, _ => none
    | .iastore => match st with
      | (_, .int x) :: (_, .int i) :: (k, .ref o) :: st => match Nat.blt k 60 && (Nat.beq (xtc k) 1 && xmut k o) with
        | true => xck i (xlen k o M) (En C cs ls st (xst M k o (ix i) (.int x)))
        | false => none
      | _ => none
    | .bastore => match st with
      | (_, .int x) :: (_, .int i) :: (k, .ref o) :: st => match Nat.blt k 60 && ((Nat.beq (xtc k) 2 || Nat.beq (xtc k) 3) && xmut k o) with
        | true => xck i (xlen k o M) (En C cs ls st (xst M k o (ix i) (.int (xnab (xtc k) x))))
        | false => none
      | _ => none
    | .lastore => match st with
      | (_, .long x) :: (_, .int i) :: (k, .ref o) :: st => match Nat.blt k 60 && (Nat.beq (xtc k) 4 && xmut k o) with
        | true => xck i (xlen k o M) (En C cs ls st (xst M k o (ix i) (.long x)))
        | false => none
      | _ => none
    | .dastore => match st with
      | (_, .double x) :: (_, .int i) :: (k, .ref o) :: st => match Nat.blt k 60 && (Nat.beq (xtc k) 5 && xmut k o) with
        | true => xck i (xlen k o M) (En C cs ls st (xst M k o (ix i) (.double x)))
        | false => none
      | _ => none
    | .new _ => match aux with
      | [E, n] => match st with
        | [] => some (.inr E, xbump M 1 n)
        | _ => none
      | [k, n, _] => match Nat.blt k 60 with
        | true => En C cs ls ((k, .ref (gn M 101 k 0)) :: st) (xnew M k n)
        | false => none
      | _ => none
    | .invokevirtual _ | .invokestatic _ | .invokespecial _ => xinvoke tab ml Ec En aux C cs ls st M
    | .ireturn => match st, aux with
      | [(_, .int x)], [] => some (.inl (some (0, .int x)), M)
      | [(_, .int x)], [t] => some (.inl (some (0, .int (xnar t x))), M)
      | _, _ => none
    | .lreturn => match st with
      | [(_, .long x)] => some (.inl (some (0, .long x)), M)
      | _ => none
    | .freturn => match st with
      | [(_, .float x)] => some (.inl (some (0, .float x)), M)
      | _ => none
    | .dreturn => match st with
      | [(_, .double x)] => some (.inl (some (0, .double x)), M)
      | _ => none
    | .areturn => match st with
      | [(k, .ref o)] => some (.inl (some (k, .ref o)), M)
      | _ => none
    | .return_ => match st with
      | [] => some (.inl none, M)
      | _ => none
    | _ => none
/-- one step -/
def xstep (tab : Nat → List xE) (ml : Nat → Nat) (Ec En : List xE → List xE → List xV → List xV → xM → xR) (C cs : List xE) (ls st : List xV) (M : xM) : xR := match cs with
  | [] => none
  | (_, i, aux, kc) :: cs => match xpure i aux kc ls st M with
    | some (ls, st, M) => En C cs ls st M
    | none => xctl tab ml Ec En i aux kc C cs ls st M
/-- the machine with fuel -/
def xexec (tab : Nat → List xE) (ml : Nat → Nat) : Nat → List xE → List xE → List xV → List xV → xM → xR
  | 0, _, _, _, _, _ => none
  | n + 1, C, cs, ls, st, M => xstep tab ml (xexec tab ml n) (xexec tab ml n) C cs ls st M
/-- what a step asks of the machine below it: at most one call and one going on -/
abbrev xP : Type := List xE → List xE → List xV → List xV → xM → xR
/-- what a machine never takes back: objects, references that are set, lengths, room -/
def xmon (M M' : xM) : Prop := (∀ k, gn M 101 k 0 ≤ gn M' 101 k 0) ∧ (∀ k o f, k < 60 → o < gn M 101 k 0 → gn M (200 + k) o f = 1 → gn M' (200 + k) o f = 1) ∧ (∀ k o, k < 60 → o < gn M 101 k 0 → gn M' (110 + k) o 0 = gn M (110 + k) o 0) ∧ gn M 100 0 0 ≤ gn M' 100 0 0 ∧ gn M 100 0 1 ≤ gn M' 100 0 1
theorem xmon_refl (M : xM) : xmon M M := ⟨fun _ => Nat.le_refl _, fun _ _ _ _ _ h => h, fun _ _ _ _ => rfl, Nat.le_refl _, Nat.le_refl _⟩
theorem xmon_trans {M M1 M2 : xM} (h1 : xmon M M1) (h2 : xmon M1 M2) : xmon M M2 :=
  ⟨fun k => Nat.le_trans (h1.1 k) (h2.1 k), fun k o f hk ho h => h2.2.1 k o f hk (Nat.lt_of_lt_of_le ho (h1.1 k)) (h1.2.1 k o f hk ho h), fun k o hk ho => (h2.2.2.1 k o hk (Nat.lt_of_lt_of_le ho (h1.1 k))).trans (h1.2.2.1 k o hk ho), Nat.le_trans h1.2.2.2.1 h2.2.2.2.1, Nat.le_trans h1.2.2.2.2 h2.2.2.2.2⟩
theorem gn_xst (M : xM) (k o s : Nat) (v : Value) (k' o' s' : Nat) : gn (xst M k o s v) k' o' s' = if k' = k ∧ o' = o ∧ s' = s then (match v with
  | .ref x => x
  | _ => 0) else gn M k' o' s' := by
  unfold gn xst
  by_cases h : k' = k ∧ o' = o ∧ s' = s
  · rw [if_pos h, if_pos h]
  · rw [if_neg h, if_neg h]
theorem gn_xst_ne {M : xM} {k o s : Nat} {v : Value} {k' o' s' : Nat} (h : k' ≠ k) : gn (xst M k o s v) k' o' s' = gn M k' o' s' := by
  rw [gn_xst, if_neg (fun q => h q.1)]
theorem gn_xcpy_ne {M : xM} {ks os kd od sp dp n : Nat} {k' o' s' : Nat} (h : k' ≠ kd) : gn (xcpy M ks os kd od sp dp n) k' o' s' = gn M k' o' s' := by
  unfold gn xcpy
  rw [if_neg (fun q => h q.1)]
theorem gn_xclr_ne {M : xM} {k o : Nat} {k' o' s' : Nat} (h : k' ≠ k) (h2 : k' ≠ 200 + k ∨ o' ≠ o) : gn (xclr M k o) k' o' s' = gn M k' o' s' := by
  unfold gn xclr
  rw [if_neg (fun q => q.1.elim h (fun e => h2.elim (fun z => z e) (fun z => z q.2)))]
theorem xmon_st {M : xM} {k o s : Nat} {v : Value} (h : Nat.blt k 60 = true) : xmon M (xst M k o s v) := by
  have hk : k < 60 := Nat.le_of_ble_eq_true h
  refine ⟨fun k' => ?_, fun k' o' f h1 h2 h3 => ?_, fun k' o' h1 h2 => ?_, ?_, ?_⟩
  · rw [gn_xst_ne (by omega)]; exact Nat.le_refl _
  · rw [gn_xst_ne (by omega)]; exact h3
  · rw [gn_xst_ne (by omega)]
  · rw [gn_xst_ne (by omega)]; exact Nat.le_refl _
  · rw [gn_xst_ne (by omega)]; exact Nat.le_refl _
theorem xmon_cpy {M : xM} {ks os kd od sp dp n : Nat} (h : Nat.blt kd 60 = true) : xmon M (xcpy M ks os kd od sp dp n) := by
  have hk : kd < 60 := Nat.le_of_ble_eq_true h
  refine ⟨fun k' => ?_, fun k' o' f h1 h2 h3 => ?_, fun k' o' h1 h2 => ?_, ?_, ?_⟩
  · rw [gn_xcpy_ne (by omega)]; exact Nat.le_refl _
  · rw [gn_xcpy_ne (by omega)]; exact h3
  · rw [gn_xcpy_ne (by omega)]
  · rw [gn_xcpy_ne (by omega)]; exact Nat.le_refl _
  · rw [gn_xcpy_ne (by omega)]; exact Nat.le_refl _
theorem xmon_fl {M : xM} {k o s : Nat} (h : Nat.blt k 60 = true) : xmon M (xst M (200 + k) o s (.ref 1)) := by
  have hk : k < 60 := Nat.le_of_ble_eq_true h
  refine ⟨fun k' => ?_, fun k' o' f h1 h2 h3 => ?_, fun k' o' h1 h2 => ?_, ?_, ?_⟩
  · rw [gn_xst]
    split
    · omega
    · exact Nat.le_refl _
  · rw [gn_xst]
    split
    · rfl
    · exact h3
  · rw [gn_xst_ne (by omega)]
  · rw [gn_xst_ne (by omega)]; exact Nat.le_refl _
  · rw [gn_xst_ne (by omega)]; exact Nat.le_refl _
theorem xmon_bump (M : xM) (c n : Nat) : xmon M (xbump M c n) := by
  refine ⟨fun k' => ?_, fun k' o' f h1 h2 h3 => ?_, fun k' o' h1 h2 => ?_, ?_, ?_⟩ <;> unfold xbump
  · rw [gn_xst_ne (by omega), gn_xst_ne (by omega)]; exact Nat.le_refl _
  · rw [gn_xst_ne (by omega), gn_xst_ne (by omega)]; exact h3
  · rw [gn_xst_ne (by omega), gn_xst_ne (by omega)]
  · rw [gn_xst, if_neg (by omega), gn_xst, if_pos ⟨rfl, rfl, rfl⟩]; exact Nat.le_add_right _ _
  · rw [gn_xst, if_pos ⟨rfl, rfl, rfl⟩]; exact Nat.le_add_right _ _
theorem xmon_new {M : xM} {k n : Nat} (h : Nat.blt k 60 = true) : xmon M (xnew M k n) := by
  have hk : k < 60 := Nat.le_of_ble_eq_true h
  unfold xnew
  refine xmon_trans ?_ (xmon_bump _ _ _)
  refine ⟨fun k' => ?_, fun k' o' f h1 h2 h3 => ?_, fun k' o' h1 h2 => ?_, ?_, ?_⟩
  · rw [gn_xst]
    split
    · rename_i q
      obtain ⟨-, rfl, -⟩ := q
      exact Nat.le_add_right _ _
    · rw [gn_xclr_ne (by omega) (Or.inl (by omega))]; exact Nat.le_refl _
  · rw [gn_xst_ne (by omega), gn_xclr_ne (by omega)]
    · exact h3
    · by_cases e : k' = k
      · subst e; exact Or.inr (by omega)
      · exact Or.inl (by omega)
  · rw [gn_xst_ne (by omega), gn_xclr_ne (by omega) (Or.inl (by omega))]
  · rw [gn_xst_ne (by omega), gn_xclr_ne (by omega) (Or.inl (by omega))]; exact Nat.le_refl _
  · rw [gn_xst_ne (by omega), gn_xclr_ne (by omega) (Or.inl (by omega))]; exact Nat.le_refl _
theorem gn_xnew_cnt {M : xM} {k n : Nat} (h : Nat.blt k 60 = true) (k' : Nat) : gn (xnew M k n) 101 k' 0 = if k' = k then gn M 101 k 0 + 1 else gn M 101 k' 0 := by
  have hk : k < 60 := Nat.le_of_ble_eq_true h
  unfold xnew xbump
  rw [gn_xst_ne (by omega), gn_xst_ne (by omega), gn_xst]
  by_cases e : k' = k
  · subst e; rw [if_pos ⟨rfl, rfl, rfl⟩, if_pos rfl]
  · rw [if_neg (fun q => e q.2.1), if_neg e, gn_xclr_ne (by omega) (Or.inl (by omega))]
theorem xmon_newD {M : xM} {k n : Nat} (h : Nat.blt k 60 = true) : xmon M (xnewD M k n) := by
  have hk : k < 60 := Nat.le_of_ble_eq_true h
  have h0 := xmon_new (M := M) (n := n) h
  unfold xnewD
  refine ⟨fun k' => ?_, fun k' o' f h1 h2 h3 => ?_, fun k' o' h1 h2 => ?_, ?_, ?_⟩
  · rw [gn_xst_ne (by omega)]; exact h0.1 k'
  · rw [gn_xst_ne (by omega)]; exact h0.2.1 k' o' f h1 h2 h3
  · rw [gn_xst, if_neg (fun q => by have e : k' = k := by omega
                                    subst e; omega)]
    exact h0.2.2.1 k' o' h1 h2
  · rw [gn_xst_ne (by omega)]; exact h0.2.2.2.1
  · rw [gn_xst_ne (by omega)]; exact h0.2.2.2.2
def xneeds (F : xP → xP → xR) (Ec En : xP) (M : xM) (r : (Option xV ⊕ Nat) × xM) : Prop :=
  ∃ (c : Option ((List xE × List xE × List xV × List xV × xM) × ((Option xV ⊕ Nat) × xM))) (n : Option (List xE × List xE × List xV × List xV × xM)),
    (∀ q, c = some q → Ec q.1.1 q.1.2.1 q.1.2.2.1 q.1.2.2.2.1 q.1.2.2.2.2 = some q.2) ∧ (∀ q, n = some q → En q.1 q.2.1 q.2.2.1 q.2.2.2.1 q.2.2.2.2 = some r) ∧
    (∀ Ec' En' : xP, (∀ q, c = some q → Ec' q.1.1 q.1.2.1 q.1.2.2.1 q.1.2.2.2.1 q.1.2.2.2.2 = some q.2) → (∀ q, n = some q → En' q.1 q.2.1 q.2.2.1 q.2.2.2.1 q.2.2.2.2 = some r) → F Ec' En' = some r) ∧
    (∀ q, c = some q → q.1.2.2.2.2 = M) ∧ xmon ((c.map fun q => q.2.2).getD M) ((n.map fun q => q.2.2.2.2).getD r.2)
theorem xneeds_c {F : xP → xP → xR} {Ec En : xP} {M : xM} {r} (hm : xmon M r.2) (h : ∀ Ec' En', F Ec' En' = some r) : xneeds F Ec En M r :=
  ⟨none, none, fun _ h => (nomatch h), fun _ h => (nomatch h), fun Ec' En' _ _ => h Ec' En', fun _ h => (nomatch h), hm⟩
theorem xneeds_n {F : xP → xP → xR} {Ec En : xP} {M0 : xM} {r} (C cs : List xE) (ls st : List xV) (M : xM) (hm : xmon M0 M) (h : En C cs ls st M = some r) (hF : ∀ Ec' En', En' C cs ls st M = some r → F Ec' En' = some r) : xneeds F Ec En M0 r :=
  ⟨none, some (C, cs, ls, st, M), fun _ h => (nomatch h), fun q hq => by cases hq; exact h, fun Ec' En' _ h2 => hF Ec' En' (h2 _ rfl), fun _ h => (nomatch h), hm⟩
theorem xneeds_cn {F : xP → xP → xR} {Ec En : xP} {r r1} (C1 cs1 : List xE) (ls1 st1 : List xV) (M1 : xM) (C cs : List xE) (ls st : List xV) (M : xM) (hm : xmon r1.2 M) (h1 : Ec C1 cs1 ls1 st1 M1 = some r1) (h : En C cs ls st M = some r) (hF : ∀ Ec' En', Ec' C1 cs1 ls1 st1 M1 = some r1 → En' C cs ls st M = some r → F Ec' En' = some r) : xneeds F Ec En M1 r :=
  ⟨some ((C1, cs1, ls1, st1, M1), r1), some (C, cs, ls, st, M), fun q hq => by cases hq; exact h1, fun q hq => by cases hq; exact h, fun Ec' En' h2 h3 => hF Ec' En' (h2 _ rfl) (h3 _ rfl), fun q hq => by cases hq; rfl, hm⟩
theorem xneeds_d {F : xP → xP → xR} {Ec En : xP} {r r1} (C1 cs1 : List xE) (ls1 st1 : List xV) (M1 : xM) (hm : xmon r1.2 r.2) (h1 : Ec C1 cs1 ls1 st1 M1 = some r1) (hF : ∀ Ec' En', Ec' C1 cs1 ls1 st1 M1 = some r1 → F Ec' En' = some r) : xneeds F Ec En M1 r :=
  ⟨some ((C1, cs1, ls1, st1, M1), r1), none, fun q hq => by cases hq; exact h1, fun _ h => (nomatch h), fun Ec' En' h2 _ => hF Ec' En' (h2 _ rfl), fun q hq => by cases hq; rfl, hm⟩
end
section
theorem and_l {a b : Bool} (h : (a && b) = true) : a = true := by
  cases a
  · cases h
  · rfl
theorem and_r {a b : Bool} (h : (a && b) = true) : b = true := by
  cases a
  · cases h
  · exact h
theorem xgd_ok {b : Bool} {k : xR} (h : b = true) : xgd b k = k := by rw [h]; rfl
theorem xgd_some {b : Bool} {k : xR} {q} (h : xgd b k = some q) : b = true ∧ k = some q := by
  cases b
  · cases h
  · exact ⟨rfl, h⟩
theorem xck_some {i : Int32} {n : Nat} {k : xR} {r} (h : xck i n k = some r) : ¬ (i < 0 ∨ n ≤ ix i) ∧ k = some r := by
  unfold xck at h
  split at h
  · cases h
  · exact ⟨‹_›, h⟩
theorem xck_ok {i : Int32} {n : Nat} {k : xR} (h : ¬ (i < 0 ∨ n ≤ ix i)) : xck i n k = k := if_neg h
theorem xbI_some {r : xR} {f} {q} (h : xbI r f = some q) : (∃ k x M, r = some (.inl (some (k, .int x)), M) ∧ f x M = some q) ∨ ∃ E M, r = some (.inr E, M) ∧ q = (.inr E, M) := by
  unfold xbI at h
  split at h
  · exact Or.inl ⟨_, _, _, rfl, h⟩
  · exact Or.inr ⟨_, _, rfl, (Option.some.inj h).symm⟩
  · cases h
theorem xbL_some {r : xR} {f} {q} (h : xbL r f = some q) : (∃ k x M, r = some (.inl (some (k, .long x)), M) ∧ f x M = some q) ∨ ∃ E M, r = some (.inr E, M) ∧ q = (.inr E, M) := by
  unfold xbL at h
  split at h
  · exact Or.inl ⟨_, _, _, rfl, h⟩
  · exact Or.inr ⟨_, _, rfl, (Option.some.inj h).symm⟩
  · cases h
theorem xbF_some {r : xR} {f} {q} (h : xbF r f = some q) : (∃ k x M, r = some (.inl (some (k, .float x)), M) ∧ f x M = some q) ∨ ∃ E M, r = some (.inr E, M) ∧ q = (.inr E, M) := by
  unfold xbF at h
  split at h
  · exact Or.inl ⟨_, _, _, rfl, h⟩
  · exact Or.inr ⟨_, _, rfl, (Option.some.inj h).symm⟩
  · cases h
theorem xbD_some {r : xR} {f} {q} (h : xbD r f = some q) : (∃ k x M, r = some (.inl (some (k, .double x)), M) ∧ f x M = some q) ∨ ∃ E M, r = some (.inr E, M) ∧ q = (.inr E, M) := by
  unfold xbD at h
  split at h
  · exact Or.inl ⟨_, _, _, rfl, h⟩
  · exact Or.inr ⟨_, _, rfl, (Option.some.inj h).symm⟩
  · cases h
theorem xbR_some {r : xR} {kx : Nat} {f} {q} (h : xbR r kx f = some q) : (∃ x M, r = some (.inl (some (kx, .ref x)), M) ∧ f x M = some q) ∨ ∃ E M, r = some (.inr E, M) ∧ q = (.inr E, M) := by
  unfold xbR at h
  split at h
  · split at h
    · rename_i e
      subst e
      exact Or.inl ⟨_, _, rfl, h⟩
    · cases h
  · exact Or.inr ⟨_, _, rfl, (Option.some.inj h).symm⟩
  · cases h
theorem xbV_some {r : xR} {f} {q} (h : xbV r f = some q) : (∃ M, r = some (.inl none, M) ∧ f M = some q) ∨ ∃ E M, r = some (.inr E, M) ∧ q = (.inr E, M) := by
  unfold xbV at h
  split at h
  · exact Or.inl ⟨_, rfl, h⟩
  · exact Or.inr ⟨_, _, rfl, (Option.some.inj h).symm⟩
  · cases h
theorem xhI_some {r : xR} {f h} {q} (hh : xhI r f h = some q) : (∃ k x M, r = some (.inl (some (k, .int x)), M) ∧ f x M = some q) ∨ ∃ E M, r = some (.inr E, M) ∧ h E M = some q := by
  unfold xhI at hh
  split at hh
  · exact Or.inl ⟨_, _, _, rfl, hh⟩
  · exact Or.inr ⟨_, _, rfl, hh⟩
  · cases hh
theorem xhF_some {r : xR} {f h} {q} (hh : xhF r f h = some q) : (∃ k x M, r = some (.inl (some (k, .float x)), M) ∧ f x M = some q) ∨ ∃ E M, r = some (.inr E, M) ∧ h E M = some q := by
  unfold xhF at hh
  split at hh
  · exact Or.inl ⟨_, _, _, rfl, hh⟩
  · exact Or.inr ⟨_, _, rfl, hh⟩
  · cases hh
theorem xsw_some {x : Int32} {d : Nat} : ∀ (ts : List Nat) (k : Nat), ∃ t, ∀ f : Nat → xR, xsw f x d k ts = f t
  | [], _ => ⟨d, fun _ => rfl⟩
  | t :: r, k => by
    by_cases h : x = Int32.ofNat k
    · exact ⟨t, fun f => if_pos h⟩
    · obtain ⟨t', ht⟩ := xsw_some (x := x) (d := d) r (k + 1)
      exact ⟨t', fun f => (if_neg h).trans (ht f)⟩
theorem xhand_some (E : Nat) (M : xM) : ∀ (n : Nat) (hs : List Nat), hs.length ≤ n → (∀ f : Nat → xR, xhand hs E M f = some (.inr E, M)) ∨ ∃ t, ∀ f : Nat → xR, xhand hs E M f = f t
  | _, [], _ => Or.inl fun _ => rfl
  | _, [_], _ => Or.inl fun _ => rfl
  | 0, _ :: _ :: _, h => by simp at h
  | n + 1, a :: t :: r, hl => by
    by_cases h : E = a
    · exact Or.inr ⟨t, fun f => if_pos h⟩
    · rcases xhand_some E M n r (by simp at hl; omega) with q | ⟨t', q⟩
      · exact Or.inl fun f => (if_neg h).trans (q f)
      · exact Or.inr ⟨t', fun f => (if_neg h).trans (q f)⟩
theorem xret_some {r : xR} {q} (h : xret r = some q) : ∃ v M, r = some (.inl v, M) ∧ q = (.inl v, M) := by
  unfold xret at h
  split at h
  · exact ⟨_, _, rfl, (Option.some.inj h).symm⟩
  · cases h
theorem xcall_some {t kx : Nat} {r : xR} {En : List xV → xM → xR} {st : List xV} {q} (h : xcall t kx r En st = some q) : (∃ v M st', r = some (.inl v, M) ∧ En st' M = some q ∧ ∀ En' : List xV → xM → xR, En' st' M = some q → xcall t kx (some (.inl v, M)) En' st = some q) ∨ ∃ E M, r = some (.inr E, M) ∧ q = (.inr E, M) ∧ ∀ En' : List xV → xM → xR, xcall t kx (some (.inr E, M)) En' st = some q := by
  unfold xcall at h
  split at h
  · rcases xbV_some h with ⟨M1, e, h⟩ | ⟨E, M1, e, rfl⟩
    · exact Or.inl ⟨_, _, _, e, h, fun _ h' => h'⟩
    · exact Or.inr ⟨_, _, e, rfl, fun _ => rfl⟩
  · rcases xbI_some h with ⟨k, x, M1, e, h⟩ | ⟨E, M1, e, rfl⟩
    · exact Or.inl ⟨_, _, _, e, h, fun _ h' => h'⟩
    · exact Or.inr ⟨_, _, e, rfl, fun _ => rfl⟩
  · rcases xbL_some h with ⟨k, x, M1, e, h⟩ | ⟨E, M1, e, rfl⟩
    · exact Or.inl ⟨_, _, _, e, h, fun _ h' => h'⟩
    · exact Or.inr ⟨_, _, e, rfl, fun _ => rfl⟩
  · rcases xbR_some h with ⟨x, M1, e, h⟩ | ⟨E, M1, e, rfl⟩
    · exact Or.inl ⟨_, _, _, e, h, fun _ h' => (if_pos rfl).trans h'⟩
    · exact Or.inr ⟨_, _, e, rfl, fun _ => rfl⟩
  · rcases xbF_some h with ⟨k, x, M1, e, h⟩ | ⟨E, M1, e, rfl⟩
    · exact Or.inl ⟨_, _, _, e, h, fun _ h' => h'⟩
    · exact Or.inr ⟨_, _, e, rfl, fun _ => rfl⟩
  · rcases xbD_some h with ⟨k, x, M1, e, h⟩ | ⟨E, M1, e, rfl⟩
    · exact Or.inl ⟨_, _, _, e, h, fun _ h' => h'⟩
    · exact Or.inr ⟨_, _, e, rfl, fun _ => rfl⟩
  · cases h
theorem xinvoke_needs {tab : Nat → List xE} {ml : Nat → Nat} {Ec En : xP} {aux : List Nat} {C cs : List xE} {ls st : List xV} {M : xM} {r} (h : xinvoke tab ml Ec En aux C cs ls st M = some r) : xneeds (fun Ec En => xinvoke tab ml Ec En aux C cs ls st M) Ec En M r := by
  unfold xinvoke at h ⊢
  split at h
  · rename_i y n t kx rk hs
    split at h
    · rename_i as st1 hst
      split at h
      · rename_i hlen
        split at h
        · rcases xcall_some h with ⟨v, M1, st', e, h, hh⟩ | ⟨E, M1, e, rfl, hh⟩
          · exact xneeds_cn _ _ _ _ _ _ _ _ _ _ (xmon_refl _) e h (fun _ _ e' h' => by simp only [e']; exact hh _ h')
          · exact xneeds_d _ _ _ _ _ (xmon_refl _) e (fun _ _ e' => by simp only [e']; exact hh _)
        · rcases xcall_some h with ⟨v, M1, st', e, h, hh⟩ | ⟨E, M1, e, rfl, hh⟩
          · obtain ⟨v', M1', e1, e2⟩ := xret_some e
            cases e2
            exact xneeds_cn _ _ _ _ _ _ _ _ _ _ (xmon_refl _) e1 h (fun _ _ e' h' => by simp only [e']; exact hh _ h')
          · obtain ⟨v', M1', e1, e2⟩ := xret_some e
            cases e2
        · obtain ⟨hg, h⟩ := xgd_some h
          rcases xcall_some h with ⟨v, M1, st', e, h, hh⟩ | ⟨E, M1, e, rfl, hh⟩
          · obtain ⟨v', M1', e1, e2⟩ := xret_some e
            cases e2
            exact xneeds_cn _ _ _ _ _ _ _ _ _ _ (xmon_refl _) e1 h (fun _ _ e' h' => by simp only [e', hg]; exact hh _ h')
          · obtain ⟨v', M1', e1, e2⟩ := xret_some e
            cases e2
        · split at h
          · rcases xhI_some h with ⟨k, x, M1, e, h⟩ | ⟨E, M1, e, h⟩
            · exact xneeds_cn _ _ _ _ _ _ _ _ _ _ (xmon_refl _) e h (fun _ _ e' h' => by simp only [e']; exact h')
            · rename_i hs1 _ _ _ _
              rcases xhand_some E M1 _ hs1 (Nat.le_refl _) with q | ⟨t, q⟩
              · rw [q] at h
                cases h
                exact xneeds_d _ _ _ _ _ (xmon_refl _) e (fun _ _ e' => by simp only [e']; exact (q _).trans rfl)
              · rw [q] at h
                exact xneeds_cn _ _ _ _ _ _ _ _ _ _ (xmon_refl _) e h (fun _ _ e' h' => by simp only [e']; exact (q _).trans h')
          · rcases xhF_some h with ⟨k, x, M1, e, h⟩ | ⟨E, M1, e, h⟩
            · exact xneeds_cn _ _ _ _ _ _ _ _ _ _ (xmon_refl _) e h (fun _ _ e' h' => by simp only [e']; exact h')
            · rename_i hs1 _ _ _ _
              rcases xhand_some E M1 _ hs1 (Nat.le_refl _) with q | ⟨t, q⟩
              · rw [q] at h
                cases h
                exact xneeds_d _ _ _ _ _ (xmon_refl _) e (fun _ _ e' => by simp only [e']; exact (q _).trans rfl)
              · rw [q] at h
                exact xneeds_cn _ _ _ _ _ _ _ _ _ _ (xmon_refl _) e h (fun _ _ e' h' => by simp only [e']; exact (q _).trans h')
          · cases h
        · split at h
          · split at h
            · obtain ⟨hg, h⟩ := xgd_some h
              split at h
              · cases h
              · exact xneeds_n _ _ _ _ _ (xmon_cpy (and_l (by assumption))) h (fun _ _ h' => (xgd_ok hg).trans ((if_neg ‹_›).trans h'))
            · cases h
          · cases h
        · split at h
          · obtain ⟨hg, h⟩ := xgd_some h
            exact xneeds_n _ _ _ _ _ (xmon_trans (xmon_newD (and_l (by assumption))) (xmon_cpy (and_l (by assumption)))) h (fun _ _ h' => (xgd_ok hg).trans h')
          · cases h
        · split at h
          · obtain ⟨hg, h⟩ := xgd_some h
            exact xneeds_n _ _ _ _ _ (xmon_refl _) h (fun _ _ h' => (xgd_ok hg).trans h')
          · cases h
        · cases h
      · cases h
    · cases h
  · cases h
set_option maxHeartbeats 4000000 in
theorem xctl_needs {tab : Nat → List xE} {ml : Nat → Nat} {Ec En : xP} {i : Instr} {aux : List Nat} {kc : Int32} {C cs : List xE} {ls st : List xV} {M : xM} {r} (h : xctl tab ml Ec En i aux kc C cs ls st M = some r) : xneeds (fun Ec En => xctl tab ml Ec En i aux kc C cs ls st M) Ec En M r := by
  cases i with
  | invokevirtual n => exact xinvoke_needs h
  | invokestatic n => exact xinvoke_needs h
  | invokespecial n => exact xinvoke_needs h
  | ifnonnull off =>
    simp only [xctl] at h ⊢
    split at h
    · obtain ⟨hg, h⟩ := xgd_some h
      exact xneeds_n _ _ _ _ _ (xmon_refl _) h (fun _ _ h9 => (xgd_ok hg).trans h9)
    · cases h
  | tableswitch a b c d => 
    simp only [xctl] at h ⊢
    split at h
    · rename_i x st d lo ts
      obtain ⟨t, ht⟩ := xsw_some (x := x) (d := d) ts lo
      rw [ht] at h
      exact xneeds_n _ _ _ _ _ (xmon_refl _) h (fun Ec' En' h' => by simp only [ht]; exact h')
    · cases h
  | new n =>
    simp only [xctl] at h ⊢
    split at h
    · split at h
      · cases h
        exact xneeds_c (xmon_bump _ _ _) (fun _ _ => rfl)
      · cases h
    · split at h
      · exact xneeds_n _ _ _ _ _ (xmon_new (by assumption)) h (fun _ _ h' => h')
      · cases h
    · cases h
  | newarray n =>
    simp only [xctl] at h ⊢
    split at h
    · split at h
      · split at h
        · cases h
        · exact xneeds_n _ _ _ _ _ (xmon_newD (by assumption)) h (fun _ _ h' => (if_neg ‹_›).trans h')
      · split at h
        · exact xneeds_n _ _ _ _ _ (xmon_new (by assumption)) h (fun _ _ h' => (if_pos ‹_›).trans h')
        · cases h
      · cases h
    · cases h
  | anewarray n =>
    simp only [xctl] at h ⊢
    split at h
    · split at h
      · split at h
        · cases h
        · exact xneeds_n _ _ _ _ _ (xmon_newD (by assumption)) h (fun _ _ h' => (if_neg ‹_›).trans h')
      · split at h
        · exact xneeds_n _ _ _ _ _ (xmon_new (by assumption)) h (fun _ _ h' => (if_pos ‹_›).trans h')
        · cases h
      · cases h
    · cases h
  | aaload =>
    simp only [xctl] at h ⊢
    split at h
    · split at h
      · obtain ⟨h1, h⟩ := xck_some h
        split at h
        · exact xneeds_n _ _ _ _ _ (xmon_refl _) h (fun _ _ h' => (if_pos ‹_›).trans ((xck_ok h1).trans ((if_pos ‹_›).trans h')))
        · cases h
      · cases h
    · split at h
      · obtain ⟨h1, h⟩ := xck_some h
        exact xneeds_n _ _ _ _ _ (xmon_refl _) h (fun _ _ h' => (if_pos ‹_›).trans ((xck_ok h1).trans h'))
      · cases h
    · cases h
  | checkcast n =>
    simp only [xctl] at h ⊢
    split at h
    · obtain ⟨hg, h⟩ := xgd_some h
      exact xneeds_n _ _ _ _ _ (xmon_refl _) h (fun _ _ h' => (xgd_ok hg).trans h')
    · cases h
  | aastore =>
    simp only [xctl] at h ⊢
    split at h
    · split at h
      · split at h
        · split at h
          · obtain ⟨h1, h⟩ := xck_some h
            split at h
            · exact xneeds_n _ _ _ _ _ (xmon_fl (by assumption)) h (fun _ _ h' => (if_pos ‹_›).trans ((if_pos ‹_›).trans ((xck_ok h1).trans ((if_pos ‹_›).trans h'))))
            · cases h
          · cases h
        · cases h
      · cases h
    · cases h
  | putfield n =>
    simp only [xctl] at h ⊢
    split at h
    · split at h
      · split at h
        · split at h
          · obtain ⟨hg, h⟩ := xgd_some h
            split at h
            · split at h
              · exact xneeds_n _ _ _ _ _ (xmon_fl (by assumption)) h (fun _ _ h' => (if_pos ‹_›).trans ((if_pos ‹_›).trans ((xgd_ok hg).trans ((if_pos ‹_›).trans h'))))
              · cases h
            · split at h
              · exact xneeds_n _ _ _ _ _ (xmon_fl (by assumption)) h (fun _ _ h' => (if_pos ‹_›).trans ((if_pos ‹_›).trans ((xgd_ok hg).trans ((if_pos ‹_›).trans h'))))
              · cases h
            · exact xneeds_n _ _ _ _ _ (xmon_trans (xmon_st (by assumption)) (xmon_fl (by assumption))) h (fun _ _ h' => (if_pos ‹_›).trans ((if_pos ‹_›).trans ((xgd_ok hg).trans h')))
            · cases h
          · cases h
        · cases h
      · cases h
    · split at h
      · split at h
        · obtain ⟨hg, h⟩ := xgd_some h
          split at h
          · exact xneeds_n _ _ _ _ _ (xmon_st (by assumption)) h (fun _ _ h' => (if_pos ‹_›).trans ((xgd_ok hg).trans ((if_pos ‹_›).trans h')))
          · cases h
        · cases h
      · cases h
    · cases h
  | _ =>
    first
    | (simp [xctl] at h; done)
    | (simp only [xctl] at h ⊢
       repeat' split at h
       all_goals first
         | (simp at h; done)
         | (cases h; exact xneeds_c (xmon_refl _) (fun _ _ => rfl))
         | exact xneeds_n _ _ _ _ _ (xmon_refl _) h (fun _ _ h' => h')
         | exact xneeds_n _ _ _ _ _ (xmon_refl _) h (fun _ _ h' => (if_pos ‹_›).trans h')
         | exact xneeds_n _ _ _ _ _ (xmon_refl _) h (fun _ _ h' => (if_neg ‹_›).trans h')
         | exact xneeds_n _ _ _ _ _ (xmon_refl _) h (fun _ _ h' => (if_pos ‹_›).trans ((if_pos ‹_›).trans h'))
         | exact xneeds_n _ _ _ _ _ (xmon_refl _) h (fun _ _ h' => (if_pos ‹_›).trans ((if_neg ‹_›).trans h'))
         | exact xneeds_n _ _ _ _ _ (xmon_refl _) (xck_some h).2 (fun _ _ h' => (xck_ok (xck_some h).1).trans h')
         | exact xneeds_n _ _ _ _ _ (xmon_st (and_l ‹_›)) (xck_some h).2 (fun _ _ h' => (xck_ok (xck_some h).1).trans h')
         | (obtain ⟨hg, h⟩ := xgd_some h; exact xneeds_n _ _ _ _ _ (xmon_refl _) (xck_some h).2 (fun _ _ h' => (xgd_ok hg).trans ((xck_ok (xck_some h).1).trans h')))
         | exact xneeds_n _ _ _ _ _ (xmon_refl _) (xck_some h).2 (fun _ _ h' => (if_pos ‹_›).trans ((xck_ok (xck_some h).1).trans h')))
theorem xput_mon {kx tag tk f o : Nat} {v : xV} {M M' : xM} (h : xput kx tag tk f o v M = some M') : xmon M M' := by
  unfold xput at h
  split at h
  · split at h
    · cases h; exact xmon_st (and_l (by assumption))
    · cases h; exact xmon_st (and_l (by assumption))
    · split at h
      · cases h; exact xmon_st (and_l (by assumption))
      · cases h
    · cases h
  · cases h
set_option maxHeartbeats 4000000 in
theorem xpure_mon {i : Instr} {aux : List Nat} {kc : Int32} {ls st ls' st' : List xV} {M M' : xM} (h : xpure i aux kc ls st M = some (ls', st', M')) : xmon M M' := by
  cases i with
  | putfield n =>
    simp only [xpure] at h
    split at h
    · split at h
      · split at h
        · rename_i e
          cases h
          exact xput_mon e
        · cases h
      · cases h
    · cases h
  | _ =>
    first
    | (simp [xpure] at h; done)
    | (simp only [xpure] at h
       repeat' split at h
       all_goals first
         | (simp at h; done)
         | (cases h; exact xmon_refl _))
theorem xstep_needs {tab : Nat → List xE} {ml : Nat → Nat} {Ec En : xP} {C cs : List xE} {ls st : List xV} {M : xM} {r} (h : xstep tab ml Ec En C cs ls st M = some r) : xneeds (fun Ec En => xstep tab ml Ec En C cs ls st M) Ec En M r := by
  unfold xstep at h ⊢
  split at h
  · cases h
  · split at h
    · rename_i e
      exact xneeds_n _ _ _ _ _ (xpure_mon e) h (fun _ _ h' => h')
    · rename_i e
      exact xctl_needs h
/-- the machine takes nothing back -/
theorem xexec_mon {tab : Nat → List xE} {ml : Nat → Nat} : ∀ (n : Nat) {C cs : List xE} {ls st : List xV} {M : xM} {r}, xexec tab ml n C cs ls st M = some r → xmon M r.2
  | 0, _, _, _, _, _, _, h => nomatch h
  | k + 1, C, cs, ls, st, M, r, h => by
    obtain ⟨c, n, h1, h2, -, h4, h5⟩ := xstep_needs h
    have e1 : xmon M ((c.map fun q => q.2.2).getD M) := by
      cases c with
      | none => exact xmon_refl _
      | some q =>
        have e := xexec_mon k (h1 q rfl)
        rw [h4 q rfl] at e
        exact e
    refine xmon_trans e1 (xmon_trans h5 ?_)
    cases n with
    | none => exact xmon_refl _
    | some q => exact xexec_mon k (h2 q rfl)
theorem xstep_mono {tab : Nat → List xE} {ml : Nat → Nat} {Ec En Ec' En' : xP} (hc : ∀ C cs ls st M r, Ec C cs ls st M = some r → Ec' C cs ls st M = some r) (hn : ∀ C cs ls st M r, En C cs ls st M = some r → En' C cs ls st M = some r) {C cs : List xE} {ls st : List xV} {M : xM} {r} (h : xstep tab ml Ec En C cs ls st M = some r) : xstep tab ml Ec' En' C cs ls st M = some r := by
  obtain ⟨c, n, h1, h2, h3, -, -⟩ := xstep_needs h
  exact h3 Ec' En' (fun q hq => hc _ _ _ _ _ _ (h1 q hq)) (fun q hq => hn _ _ _ _ _ _ (h2 q hq))
theorem xexec_succ {tab : Nat → List xE} {ml : Nat → Nat} : ∀ (n : Nat) {C cs : List xE} {ls st : List xV} {M : xM} {r}, xexec tab ml n C cs ls st M = some r → xexec tab ml (n + 1) C cs ls st M = some r
  | 0, _, _, _, _, _, _, h => nomatch h
  | n + 1, _, _, _, _, _, _, h => xstep_mono (fun _ _ _ _ _ _ => xexec_succ n) (fun _ _ _ _ _ _ => xexec_succ n) h
theorem xexec_le {tab : Nat → List xE} {ml : Nat → Nat} {n k : Nat} (hk : n ≤ k) {C cs : List xE} {ls st : List xV} {M : xM} {r} (h : xexec tab ml n C cs ls st M = some r) : xexec tab ml k C cs ls st M = some r := by
  induction hk with
  | refl => exact h
  | step _ ih => exact xexec_succ _ ih
/-- the machine without fuel -/
noncomputable def xEv (tab : Nat → List xE) (ml : Nat → Nat) : xP := fun C cs ls st M => haveI := Classical.propDecidable; if h : ∃ n r, xexec tab ml n C cs ls st M = some r then xexec tab ml h.choose C cs ls st M else none
theorem xEv_of {tab : Nat → List xE} {ml : Nat → Nat} {n : Nat} {C cs : List xE} {ls st : List xV} {M : xM} {r} (h : xexec tab ml n C cs ls st M = some r) : xEv tab ml C cs ls st M = some r := by
  have h1 : ∃ n r, xexec tab ml n C cs ls st M = some r := ⟨n, r, h⟩
  unfold xEv
  rw [dif_pos h1]
  obtain ⟨r', h2⟩ := h1.choose_spec
  rw [h2, ← xexec_le (Nat.le_max_left h1.choose n) h2, xexec_le (Nat.le_max_right h1.choose n) h]
theorem xEv_ex {tab : Nat → List xE} {ml : Nat → Nat} {C cs : List xE} {ls st : List xV} {M : xM} {r} (h : xEv tab ml C cs ls st M = some r) : ∃ n, xexec tab ml n C cs ls st M = some r := by
  unfold xEv at h
  split at h
  · exact ⟨_, h⟩
  · cases h
theorem xEv_eq (tab : Nat → List xE) (ml : Nat → Nat) (C cs : List xE) (ls st : List xV) (M : xM) : xEv tab ml C cs ls st M = xstep tab ml (xEv tab ml) (xEv tab ml) C cs ls st M := by
  have key : ∀ r, xEv tab ml C cs ls st M = some r ↔ xstep tab ml (xEv tab ml) (xEv tab ml) C cs ls st M = some r := by
    intro r
    constructor
    · intro h
      obtain ⟨n, h⟩ := xEv_ex h
      cases n with
      | zero => cases h
      | succ n => exact xstep_mono (fun _ _ _ _ _ _ h => xEv_of h) (fun _ _ _ _ _ _ h => xEv_of h) h
    · intro h
      obtain ⟨c, n, h1, h2, h3, -, -⟩ := xstep_needs h
      have hc : ∃ k, ∀ q, c = some q → xexec tab ml k q.1.1 q.1.2.1 q.1.2.2.1 q.1.2.2.2.1 q.1.2.2.2.2 = some q.2 := by
        cases c with
        | none => exact ⟨0, fun _ h => nomatch h⟩
        | some q =>
          obtain ⟨k, hk⟩ := xEv_ex (h1 q rfl)
          exact ⟨k, fun q' e => by cases e; exact hk⟩
      have hn : ∃ k, ∀ q, n = some q → xexec tab ml k q.1 q.2.1 q.2.2.1 q.2.2.2.1 q.2.2.2.2 = some r := by
        cases n with
        | none => exact ⟨0, fun _ h => nomatch h⟩
        | some q =>
          obtain ⟨k, hk⟩ := xEv_ex (h2 q rfl)
          exact ⟨k, fun q' e => by cases e; exact hk⟩
      obtain ⟨k1, hk1⟩ := hc
      obtain ⟨k2, hk2⟩ := hn
      exact xEv_of (n := max k1 k2 + 1) (h3 _ _ (fun q hq => xexec_le (Nat.le_max_left _ _) (hk1 q hq)) (fun q hq => xexec_le (Nat.le_max_right _ _) (hk2 q hq)))
  cases h : xEv tab ml C cs ls st M with
  | none =>
    cases h2 : xstep tab ml (xEv tab ml) (xEv tab ml) C cs ls st M with
    | none => rfl
    | some r => rw [(key r).mpr h2] at h; cases h
  | some r => exact ((key r).mp h).symm
/-- up to k steps, as far as the next entry with a mark (nop), where the machine goes on -/
noncomputable def xrun (tab : Nat → List xE) (ml : Nat → Nat) : Nat → xP
  | 0 => xEv tab ml
  | k + 1 => fun C cs ls st M => match cs with
    | (_, .nop, _, kc) :: _ => if kc = 0 then xstep tab ml (xEv tab ml) (xEv tab ml) C cs ls st M else xstep tab ml (xEv tab ml) (xrun tab ml k) C cs ls st M
    | _ => xstep tab ml (xEv tab ml) (xrun tab ml k) C cs ls st M
theorem xrun_eq (tab : Nat → List xE) (ml : Nat → Nat) : ∀ k, xrun tab ml k = xEv tab ml
  | 0 => rfl
  | k + 1 => by
    funext C cs ls st M
    have ih := xrun_eq tab ml k
    unfold xrun
    split
    · rw [ih, ite_self]
      exact (xEv_eq ..).symm
    · rw [ih]
      exact (xEv_eq ..).symm
theorem xEv_unf (k : Nat) (tab : Nat → List xE) (ml : Nat → Nat) (C cs : List xE) (ls st : List xV) (M : xM) : xEv tab ml C cs ls st M = xstep tab ml (xEv tab ml) (xrun tab ml k) C cs ls st M := by
  rw [xrun_eq]
  exact xEv_eq ..
end
section
/-! THE WORLD OF A STORE: addresses of things, what the heap holds of them. -/
abbrev xA : Type := Nat → Nat → Nat
/-- how many things of a kind there are -/
abbrev xc (M : xM) (k : Nat) : Nat := gn M 101 k 0
/-- whether a reference is set -/
abbrev xf (M : xM) (k o f : Nat) : Prop := gn M (200 + k) o f = 1
def xtg (t tw o x : Nat) : Nat := match t with
  | 2 => o
  | 3 => tw
  | 4 => x
  | _ => o + tw
def xfv (ad : xA) (M : xM) (k o f : Nat) (d : Nat × Nat × Nat) : Value := match d with
  | (0, _, _) => .int (gi M k o f)
  | (1, _, _) => .long (gl M k o f)
  | (t, tk, tw) => if gn M (200 + k) o f = 1 then .ref (ad tk (xtg t tw o (gn M k o f))) else .null
def xav (ad : xA) (M : xM) (k o j : Nat) : Value := match xat k with
  | some .long => .long (gl M k o j)
  | some .double => .double (gd M k o j)
  | some (.object _) => (match xae k with
    | some (tk, tw) => if gn M (200 + k) o j = 1 then .ref (ad tk (j + tw)) else .null
    | none => .null)
  | _ => .int (gi M k o j)
/-- a constant, there from the start -/
def xcst (k o : Nat) : Bool := !xmut k o
def xenc (ad : xA) (v : xV) : Value := match v with
  | (k, .ref o) => (match Nat.beq k 51 with
    | true => (match ad 60 o with
      | 0 => .null
      | n + 1 => .ref n)
    | false => .ref (ad k o))
  | (_, w) => w
def xOb (U : State) (A : Nat → Prop) (ad : xA) (M : xM) (H : Heap) (k o : Nat) : Prop :=
  ∃ cell : Cell, H[ad k o]? = some cell ∧ cell.vm.isStatics = false ∧ cell.vm ≠ .unknown ∧ (A (ad k o) → cell.vm = .none) ∧ U.vm.findClass (xcl k) = some cell.cls ∧
    ∀ (f : Nat) (d : Nat × Nat × Nat), (xfd k)[f]? = some d → ∃ (cf : ClassId) (kf : Class) (i : Nat) (fd : Field), U.fieldFound? (xTf k f).1 (xTf k f).2.1 (xTf k f).2.2.1 = some (cf, kf, i, fd) ∧ fd.isStatic = false ∧ cell.slots[fd.slot]? = some (xfv ad M k o f d)
def xAr (U : State) (A : Nat → Prop) (ad : xA) (M : xM) (H : Heap) (k o : Nat) (ty : FieldType) : Prop :=
  ∃ cell : Cell, H[ad k o]? = some cell ∧ U.isArrayOf cell ty ∧ cell.vm ≠ .unknown ∧ (A (ad k o) → cell.vm = .none ∧ (ty = .byte → U.vm.findClass "[B" = some cell.cls) ∧ ∀ C, ty = .object C → ∃ (kA : Class) (comp : ClassId), U.vm.classes[cell.cls]? = some kA ∧ kA.kind = .array comp ty ∧ U.vm.findClass C = some comp) ∧ cell.slots.size = xlen k o M ∧
    ∀ j, j < xlen k o M → cell.slots[j]? = some (xav ad M k o j)
def xWd (U : State) (A : Nat → Prop) (ad : xA) (M : xM) (H : Heap) : Prop :=
  ∀ k o, k < 60 → o < xc M k → (xfd k ≠ [] → xOb U A ad M H k o) ∧ ∀ ty, xat k = some ty → xAr U A ad M H k o ty
/-- kinds whose things lie in the heap -/
def xtrk (k : Nat) : Prop := xfd k ≠ [] ∨ xat k ≠ none
def xAp (A : Nat → Prop) (ad : xA) (M : xM) : Prop :=
  (∀ k o, k < 60 → o < xc M k → (A (ad k o) ↔ xcst k o = false)) ∧
  (∀ k o k' o', k < 60 → k' < 60 → o < xc M k → o' < xc M k' → xtrk k → xtrk k' → xcst k o = false → xcst k' o' = false → ad k o = ad k' o' → k = k' ∧ o = o') ∧
  ∀ o o', o < xc M 42 → o' < xc M 42 → ad 42 o = ad 42 o' → o = o'
/-- references that are set refer to something -/
def xWT (M : xM) : Prop :=
  (∀ k o f t tk tw, k < 60 → o < xc M k → (xfd k)[f]? = some (t, tk, tw) → 2 ≤ t → xf M k o f → xtg t tw o (gn M k o f) < xc M tk) ∧
  ∀ k o tk tw j, k < 60 → o < xc M k → xae k = some (tk, tw) → j < xnth xlens k → xf M k o j → j + tw < xc M tk
theorem xOb.moved {u U : State} {A : Nat → Prop} {ad : xA} {M : xM} {H : Heap} {k o : Nat} (hvm : u.vm.Alike U.vm) (h : xOb u A ad M H k o) : xOb U A ad M H k o := by
  obtain ⟨cell, h1, h2, h3, h4, h5, h6⟩ := h
  refine ⟨cell, h1, h2, h3, h4, by rw [hvm.findClass]; exact h5, fun f d hd => ?_⟩
  obtain ⟨cf, kf, i, fd, g1, g2⟩ := h6 f d hd
  obtain ⟨k', hi', -⟩ := State.fieldFound?_setVm hvm g1
  exact ⟨cf, k', i, fd, hi', g2⟩
theorem xAr.moved {u U : State} {A : Nat → Prop} {ad : xA} {M : xM} {H : Heap} {k o : Nat} {ty : FieldType} (hvm : u.vm.Alike U.vm) (h : xAr u A ad M H k o ty) : xAr U A ad M H k o ty := by
  obtain ⟨cell, h1, h2, h3, h4, h5⟩ := h
  refine ⟨cell, h1, State.isArrayOf_alike hvm h2, h3, fun hA => ⟨(h4 hA).1, fun ht => by rw [hvm.findClass]; exact (h4 hA).2.1 ht, fun C hC => ?_⟩, h5⟩
  obtain ⟨kA, comp, g1, g2, g3⟩ := (h4 hA).2.2 C hC
  obtain ⟨k', hk', he⟩ := hvm.2.2 _ _ g1
  exact ⟨k', comp, hk', by rw [he]; exact g2, by rw [hvm.findClass]; exact g3⟩
theorem xWd.moved {u U : State} {A : Nat → Prop} {ad : xA} {M : xM} {H : Heap} (hvm : u.vm.Alike U.vm) (h : xWd u A ad M H) : xWd U A ad M H := fun k o hk ho => ⟨fun hf => ((h k o hk ho).1 hf).moved hvm, fun ty ht => ((h k o hk ho).2 ty ht).moved hvm⟩
/-- a thing that doesn't change -/
theorem xOb.same {U : State} {A : Nat → Prop} {ad ad' : xA} {M M' : xM} {H H' : Heap} {k o : Nat} (h : xOb U A ad M H k o) (ha : ad' k o = ad k o) (hH : H'[ad k o]? = H[ad k o]?) (hv : ∀ f d, (xfd k)[f]? = some d → xfv ad' M' k o f d = xfv ad M k o f d) : xOb U A ad' M' H' k o := by
  obtain ⟨cell, h1, h2, h3, h4, h5, h6⟩ := h
  refine ⟨cell, by rw [ha, hH]; exact h1, h2, h3, by rw [ha]; exact h4, h5, fun f d hd => ?_⟩
  obtain ⟨cf, kf, i, fd, g1, g2, g3⟩ := h6 f d hd
  exact ⟨cf, kf, i, fd, g1, g2, by rw [hv f d hd]; exact g3⟩
theorem xAr.same {U : State} {A : Nat → Prop} {ad ad' : xA} {M M' : xM} {H H' : Heap} {k o : Nat} {ty : FieldType} (h : xAr U A ad M H k o ty) (ha : ad' k o = ad k o) (hH : H'[ad k o]? = H[ad k o]?) (hl : xlen k o M' = xlen k o M) (hv : ∀ j, j < xlen k o M → xav ad' M' k o j = xav ad M k o j) : xAr U A ad' M' H' k o ty := by
  obtain ⟨cell, h1, h2, h3, h4, h5, h6⟩ := h
  exact ⟨cell, by rw [ha, hH]; exact h1, h2, h3, by rw [ha]; exact h4, by rw [hl]; exact h5, fun j hj => by rw [hl] at hj; rw [hv j hj]; exact h6 j hj⟩
theorem xWd.lt {U : State} {A : Nat → Prop} {ad : xA} {M : xM} {H : Heap} (h : xWd U A ad M H) {k o : Nat} (hk : k < 60) (ho : o < xc M k) (hn : xfd k ≠ [] ∨ xat k ≠ none) : ad k o < H.size := by
  obtain ⟨h1, h2⟩ := h k o hk ho
  rcases hn with hn | hn
  · obtain ⟨cell, h, -⟩ := h1 hn
    exact (Array.getElem?_eq_some_iff.mp h).1
  · cases ht : xat k with
    | none => exact absurd ht hn
    | some ty =>
      obtain ⟨cell, h, -⟩ := h2 ty ht
      exact (Array.getElem?_eq_some_iff.mp h).1
/-- the values of things without a change of theirs -/
theorem xfv_eq {ad : xA} {M M' : xM} {k o f : Nat} {d : Nat × Nat × Nat} (h1 : M' k o f = M k o f) (h2 : gn M' (200 + k) o f = gn M (200 + k) o f) : xfv ad M' k o f d = xfv ad M k o f d := by
  obtain ⟨t, tk, tw⟩ := d
  have e1 : gi M' k o f = gi M k o f := by unfold gi; rw [h1]
  have e2 : gl M' k o f = gl M k o f := by unfold gl; rw [h1]
  have e3 : gn M' k o f = gn M k o f := by unfold gn; rw [h1]
  unfold xfv
  rw [e1, e2, e3, h2]
theorem xav_eq {ad : xA} {M M' : xM} {k o j : Nat} (h1 : M' k o j = M k o j) (h2 : gn M' (200 + k) o j = gn M (200 + k) o j) : xav ad M' k o j = xav ad M k o j := by
  have e1 : gi M' k o j = gi M k o j := by unfold gi; rw [h1]
  have e2 : gl M' k o j = gl M k o j := by unfold gl; rw [h1]
  have e3 : gd M' k o j = gd M k o j := by unfold gd; rw [h1]
  unfold xav
  rw [e1, e2, e3, h2]
theorem xlen_eq {k o : Nat} {M M' : xM} (h : gn M' (110 + k) o 0 = gn M (110 + k) o 0) : xlen k o M' = xlen k o M := by
  unfold xlen
  rw [h]
theorem xst_ne {M : xM} {k o s : Nat} {v : Value} {k' o' s' : Nat} (h : ¬ (k' = k ∧ o' = o ∧ s' = s)) : xst M k o s v k' o' s' = M k' o' s' := if_neg h
theorem xst_eq {M : xM} {k o s : Nat} {v : Value} : xst M k o s v k o s = v := if_pos ⟨rfl, rfl, rfl⟩
/-- two stores that differ at one place of one thing -/
def xch (M M' : xM) (k o f : Nat) : Prop := (∀ k', xc M' k' = xc M k') ∧ (∀ k' o' f', k' < 60 → ¬ (k' = k ∧ o' = o ∧ f' = f) → M' k' o' f' = M k' o' f' ∧ gn M' (200 + k') o' f' = gn M (200 + k') o' f') ∧ ∀ k' o', k' < 60 → gn M' (110 + k') o' 0 = gn M (110 + k') o' 0
theorem xch_st {M : xM} {k o s : Nat} {v : Value} (hk : k < 60) : xch M (xst M k o s v) k o s :=
  ⟨fun k' => gn_xst_ne (by omega), fun k' o' f' h1 h2 => ⟨xst_ne h2, gn_xst_ne (by omega)⟩, fun k' o' h => gn_xst_ne (by omega)⟩
theorem xch_fl {M : xM} {k o s : Nat} (hk : k < 60) : xch M (xst M (200 + k) o s (.ref 1)) k o s := by
  refine ⟨fun k' => gn_xst_ne (by omega), fun k' o' f' h1 h2 => ⟨xst_ne (by omega), ?_⟩, fun k' o' h => gn_xst_ne (by omega)⟩
  rw [gn_xst, if_neg]
  intro q
  exact h2 ⟨by omega, q.2.1, q.2.2⟩
theorem xch_sf {M : xM} {k o s : Nat} {v : Value} (hk : k < 60) : xch M (xst (xst M k o s v) (200 + k) o s (.ref 1)) k o s := by
  obtain ⟨a1, a2, a3⟩ := xch_st (M := M) (k := k) (o := o) (s := s) (v := v) hk
  obtain ⟨b1, b2, b3⟩ := xch_fl (M := xst M k o s v) (k := k) (o := o) (s := s) hk
  exact ⟨fun k' => (b1 k').trans (a1 k'), fun k' o' f' h1 h2 => ⟨(b2 k' o' f' h1 h2).1.trans (a2 k' o' f' h1 h2).1, (b2 k' o' f' h1 h2).2.trans (a2 k' o' f' h1 h2).2⟩, fun k' o' h => (b3 k' o' h).trans (a3 k' o' h)⟩
theorem xAp.ch {A : Nat → Prop} {ad : xA} {M M' : xM} (hc : ∀ k, xc M' k = xc M k) (h : xAp A ad M) : xAp A ad M' :=
  ⟨fun k o hk ho => h.1 k o hk (by rw [← hc]; exact ho), fun k o k' o' hk hk' ho ho' => h.2.1 k o k' o' hk hk' (by rw [← hc]; exact ho) (by rw [← hc]; exact ho'), fun o o' ho ho' => h.2.2 o o' (by rw [← hc]; exact ho) (by rw [← hc]; exact ho')⟩
/-- the words of the fields -/
theorem xlays_all : (List.range 60).all (fun k => Nat.beq k 43 || (List.range (xfd k).length).all (fun f => (xlay.contains (k, f) && !(xTf k f).2.2.2) || (xlayF.contains (k, f) && (xTf k f).2.2.2))) = true := by decide +kernel
theorem xlays {args : Array Value} {s : State} (hts : ∀ w ∈ xwA, w.before args s = true) {k f : Nat} {d : Nat × Nat × Nat} (hk : k < 60) (h43 : k ≠ 43) (hd : (xfd k)[f]? = some d) :
    ((xTf k f).2.2.2 = false ∧ (Cond.lays (xcl k) (xTf k f).1 (xTf k f).2.1 (xTf k f).2.2.1).before args s = true) ∨ ((xTf k f).2.2.2 = true ∧ (Cond.laysFinal (xcl k) (xTf k f).1 (xTf k f).2.1 (xTf k f).2.2.1).before args s = true) := by
  have h1 := List.all_eq_true.mp xlays_all k (List.mem_range.mpr hk)
  have hf : f < (xfd k).length := (List.getElem?_eq_some_iff.mp hd).1
  rcases (Bool.or_eq_true _ _).mp h1 with h | h
  · exact absurd (Nat.eq_of_beq_eq_true h) h43
  · have h2 := List.all_eq_true.mp h f (List.mem_range.mpr hf)
    rcases (Bool.or_eq_true _ _).mp h2 with h | h
    · rw [Bool.and_eq_true] at h
      exact Or.inl ⟨by simpa using h.2, hts _ (xlay_ok (k, f) (List.contains_iff_mem.mp h.1))⟩
    · rw [Bool.and_eq_true] at h
      exact Or.inr ⟨h.2, hts _ (xlayF_ok (k, f) (List.contains_iff_mem.mp h.1))⟩
theorem xnames_all : (List.range 60).all (fun k => (List.range (xfd k).length).all (fun f => (List.range (xfd k).length).all (fun g => Nat.beq f g || !((xTf k f).2.1 == (xTf k g).2.1)))) = true := by decide +kernel
theorem xnames {k f g : Nat} {d d' : Nat × Nat × Nat} (hk : k < 60) (hd : (xfd k)[f]? = some d) (hd' : (xfd k)[g]? = some d') (hne : f ≠ g) : (xTf k f).2.1 ≠ (xTf k g).2.1 := by
  have h1 := List.all_eq_true.mp (List.all_eq_true.mp (List.all_eq_true.mp xnames_all k (List.mem_range.mpr hk)) f (List.mem_range.mpr (List.getElem?_eq_some_iff.mp hd).1)) g (List.mem_range.mpr (List.getElem?_eq_some_iff.mp hd').1)
  rcases (Bool.or_eq_true _ _).mp h1 with h | h
  · exact absurd (Nat.eq_of_beq_eq_true h) hne
  · intro e
    rw [e] at h
    simp at h
/-- a field's type by its mark -/
theorem xtypes_all : (List.range 60).all (fun k => (List.range (xfd k).length).all (fun f => match (xfd k)[f]? with
  | some d => (match parseFieldDescriptor (xTf k f).2.2.1 with
    | some ty => (match d.1 with
      | 0 => (ty == .int || (ty == .byte || (ty == .boolean)))
      | 1 => ty == .long
      | _ => ty.isReference)
    | none => false)
  | none => false)) = true := by decide +kernel
theorem xtypes {k f : Nat} {d : Nat × Nat × Nat} (hk : k < 60) (hd : (xfd k)[f]? = some d) : ∃ ty, parseFieldDescriptor (xTf k f).2.2.1 = some ty ∧ (d.1 = 0 → ty = .int ∨ ty = .byte ∨ ty = .boolean) ∧ (d.1 = 1 → ty = .long) ∧ (2 ≤ d.1 → ty.isReference = true) := by
  have h1 := List.all_eq_true.mp (List.all_eq_true.mp xtypes_all k (List.mem_range.mpr hk)) f (List.mem_range.mpr (List.getElem?_eq_some_iff.mp hd).1)
  rw [hd] at h1
  simp only at h1
  split at h1
  · rename_i ty hty
    refine ⟨ty, hty, fun e => ?_, fun e => ?_, fun e => ?_⟩
    · rw [e] at h1
      simpa using h1
    · rw [e] at h1
      simpa using h1
    · split at h1
      · omega
      · omega
      · exact h1
  · cases h1
theorem xapart {args : Array Value} {s : State} (hts : ∀ w ∈ xwA, w.before args s = true) {k f g : Nat} {d d' : Nat × Nat × Nat} (hk : k < 60) (h43 : k ≠ 43) (hd : (xfd k)[f]? = some d) (hd' : (xfd k)[g]? = some d') (hne : f ≠ g)
    {cf kf i fd cf' kf' i' fd'} (hi : s.fieldFound? (xTf k f).1 (xTf k f).2.1 (xTf k f).2.2.1 = some (cf, kf, i, fd)) (hi' : s.fieldFound? (xTf k g).1 (xTf k g).2.1 (xTf k g).2.2.1 = some (cf', kf', i', fd')) : fd.slot ≠ fd'.slot := by
  obtain ⟨ty, hty, -⟩ := xtypes hk hd
  obtain ⟨ty', hty', -⟩ := xtypes hk hd'
  refine u_apart ((xlays hts hk h43 hd).elim (fun h => Or.inl h.2) (fun h => Or.inr h.2)) ((xlays hts hk h43 hd').elim (fun h => Or.inl h.2) (fun h => Or.inr h.2)) hi hi' ?_
  rw [(State.fieldFound?_type hi hty).1, (State.fieldFound?_type hi' hty').1]
  exact xnames hk hd hd' hne
/-- the world behind a store into a field -/
theorem xWd_put {args : Array Value} {s : State} (hts : ∀ w ∈ xwA, w.before args s = true) {A : Nat → Prop} {ad : xA} {M M' : xM} {H H' : Heap} {k o f : Nat} {d : Nat × Nat × Nat} (hW : xWd s A ad M H) (hP : xAp A ad M) (hk : k < 60) (ho : o < xc M k) (h43 : k ≠ 43) (hc : xcst k o = false) (hd : (xfd k)[f]? = some d) (hM : xch M M' k o f) (hat : xat k = none)
    {cell : Cell} {cf : ClassId} {kf : Class} {i : Nat} {fd : Field} (hcell : H[ad k o]? = some cell) (hi : s.fieldFound? (xTf k f).1 (xTf k f).2.1 (xTf k f).2.2.1 = some (cf, kf, i, fd)) (hlt : fd.slot < cell.slots.size) {v : Value} (hv : xfv ad M' k o f d = v)
    (e1 : H'[ad k o]? = some (cell.setSlot fd.slot v)) (e3 : ∀ q, q ≠ ad k o → H'[q]? = H[q]?) : xWd s A ad M' H' := by
  have htr : xtrk k := Or.inl (fun h => by rw [h] at hd; simp at hd)
  intro k' o' hk' ho'
  rw [hM.1] at ho'
  by_cases hsame : k' = k ∧ o' = o
  · obtain ⟨rfl, rfl⟩ := hsame
    refine ⟨fun hf => ?_, fun ty hty => by rw [hat] at hty; cases hty⟩
    obtain ⟨cell', h1, h2, h3, h4, h5, h6⟩ := (hW k' o' hk ho).1 hf
    obtain rfl : cell' = cell := Option.some.inj (h1.symm.trans hcell)
    refine ⟨_, e1, h2, h3, h4, h5, fun g d' hg => ?_⟩
    obtain ⟨cf', kf', i', fd', g1, g2, g3⟩ := h6 g d' hg
    refine ⟨cf', kf', i', fd', g1, g2, ?_⟩
    by_cases hgf : g = f
    · subst hgf
      obtain rfl : d' = d := Option.some.inj (hg.symm.trans hd)
      obtain ⟨-, -, -, rfl⟩ : cf' = cf ∧ kf' = kf ∧ i' = i ∧ fd' = fd := by
        have := g1.symm.trans hi
        simpa using this
      rw [Cell.slots_setSlot_self _ hlt, hv]
    · rw [Cell.slots_setSlot_ne _ (xapart hts hk h43 hd hg (fun e => hgf e.symm) hi g1), g3]
      obtain ⟨q1, q2⟩ := hM.2.1 k' o' g hk (fun q => hgf q.2.2)
      rw [xfv_eq q1 q2]
  · have hq : ∀ (hn : xfd k' ≠ [] ∨ xat k' ≠ none), H'[ad k' o']? = H[ad k' o']? := by
      intro hn
      refine e3 _ (fun e => ?_)
      by_cases hc' : xcst k' o' = false
      · exact hsame (hP.2.1 k' o' k o hk' hk ho' ho hn htr hc' hc e)
      · have h1 := (hP.1 k o hk ho).mpr hc
        rw [← e] at h1
        exact hc' ((hP.1 k' o' hk' ho').mp h1)
    refine ⟨fun hf => ((hW k' o' hk' ho').1 hf).same rfl (hq (Or.inl hf)) (fun g d' hg => ?_), fun ty hty => ((hW k' o' hk' ho').2 ty hty).same rfl (hq (Or.inr (by rw [hty]; exact fun h => nomatch h))) (xlen_eq (hM.2.2 k' o' hk')) (fun j hj => ?_)⟩
    · obtain ⟨q1, q2⟩ := hM.2.1 k' o' g hk' (fun q => hsame ⟨q.1, q.2.1⟩)
      exact xfv_eq q1 q2
    · obtain ⟨q1, q2⟩ := hM.2.1 k' o' j hk' (fun q => hsame ⟨q.1, q.2.1⟩)
      exact xav_eq q1 q2
/-- the world behind a store into an array -/
theorem xWd_ast {s : State} {A : Nat → Prop} {ad : xA} {M M' : xM} {H H' : Heap} {k o j : Nat} {ty : FieldType} (hW : xWd s A ad M H) (hP : xAp A ad M) (hk : k < 60) (ho : o < xc M k) (hc : xcst k o = false) (hM : xch M M' k o j) (hfd : xfd k = []) (hat : xat k = some ty)
    {cell : Cell} (hcell : H[ad k o]? = some cell) (hlt : j < cell.slots.size) {v : Value} (hv : xav ad M' k o j = v)
    (e1 : H'[ad k o]? = some (cell.setSlot j v)) (e3 : ∀ q, q ≠ ad k o → H'[q]? = H[q]?) : xWd s A ad M' H' := by
  have htr : xtrk k := Or.inr (by rw [hat]; exact fun h => nomatch h)
  intro k' o' hk' ho'
  rw [hM.1] at ho'
  by_cases hsame : k' = k ∧ o' = o
  · obtain ⟨rfl, rfl⟩ := hsame
    refine ⟨fun hf => absurd hfd hf, fun ty hty => ?_⟩
    obtain ⟨cell', h1, h2, h3, h4, h5, h6⟩ := (hW k' o' hk ho).2 ty hty
    obtain rfl : cell' = cell := Option.some.inj (h1.symm.trans hcell)
    refine ⟨_, e1, h2, h3, h4, ?_, fun g hg => ?_⟩
    · rw [xlen_eq (hM.2.2 k' o' hk)]
      show (cell'.slots.setIfInBounds _ _).size = _
      rw [Array.size_setIfInBounds]
      exact h5
    · rw [xlen_eq (hM.2.2 k' o' hk)] at hg
      by_cases hgf : g = j
      · subst hgf
        rw [Cell.slots_setSlot_self _ hlt, hv]
      · rw [Cell.slots_setSlot_ne _ (fun e => hgf e.symm), h6 g hg]
        obtain ⟨q1, q2⟩ := hM.2.1 k' o' g hk (fun q => hgf q.2.2)
        rw [xav_eq q1 q2]
  · have hq : ∀ (hn : xfd k' ≠ [] ∨ xat k' ≠ none), H'[ad k' o']? = H[ad k' o']? := by
      intro hn
      refine e3 _ (fun e => ?_)
      by_cases hc' : xcst k' o' = false
      · exact hsame (hP.2.1 k' o' k o hk' hk ho' ho hn htr hc' hc e)
      · have h1 := (hP.1 k o hk ho).mpr hc
        rw [← e] at h1
        exact hc' ((hP.1 k' o' hk' ho').mp h1)
    refine ⟨fun hf => ((hW k' o' hk' ho').1 hf).same rfl (hq (Or.inl hf)) (fun g d' hg => ?_), fun ty hty => ((hW k' o' hk' ho').2 ty hty).same rfl (hq (Or.inr (by rw [hty]; exact fun h => nomatch h))) (xlen_eq (hM.2.2 k' o' hk')) (fun j hj => ?_)⟩
    · obtain ⟨q1, q2⟩ := hM.2.1 k' o' g hk' (fun q => hsame ⟨q.1, q.2.1⟩)
      exact xfv_eq q1 q2
    · obtain ⟨q1, q2⟩ := hM.2.1 k' o' j hk' (fun q => hsame ⟨q.1, q.2.1⟩)
      exact xav_eq q1 q2
end
section
/-! INSTRUCTIONS OVER THE WORLD OF A STORE, one row each. -/
section XST
variable {p : Program} {l : Launch} {e : Env} {R : Room} {s : State} {m : MethodId} {args : Array Value} {below : List Frame} {meth : Method} {c : Code} {H H0 : Heap} {locs : List Loc} {cells slots : Nat} {Q : State → Prop}
variable {cc : ByteArray} {pc : Nat} {ls : Array Slot} {rest : List Value} {A : Nat → Prop} {ad : xA} {M : xM}
theorem xw_get (hx : p.tables.exec = Jvm.exec) (hb : c.code = cc) (hts : ∀ w ∈ xwA, w.before args s = true) {oc ix kx f o : Nat} (hown : s.vm.findClass (xcn oc) = some m.cls) (hl : ((oc, ix), kx, f) ∈ xfl) (hW : xWd s A ad M H) (hk : kx < 60) (ho : o < xc M kx) {d : Nat × Nat × Nat} (hd : (xfd kx)[f]? = some d) (hdg : decode cc pc = .ok (.getfield ix, 3))
    (kk : W p l e R s m args below meth c H locs cells slots Q (F0 m (pc + 3) ls (xfv ad M kx o f d :: rest))) : W p l e R s m args below meth c H locs cells slots Q (F0 m pc ls (.ref (ad kx o) :: rest)) := by
  obtain ⟨cell, h1, h2, h3, h4, h5, h6⟩ := (hW kx o hk ho).1 (fun h => by rw [h] at hd; simp at hd)
  obtain ⟨cf, kf, i, fd, g1, g2, g3⟩ := h6 f d hd
  exact W.getf hx hb hown (hts _ (xfl_ok _ hl)) g1 g2 h1 h3 g3 rfl rfl hdg kk
/-- kinds whose things are made -/
theorem xins {k : Nat} (h : xnewL.any (fun q => Nat.beq q.2.1 k) = true) (hts : ∀ w ∈ xwA, w.before args s = true) : ∃ (cC : ClassId) (kC : Class), s.vm.findClass (xcl k) = some cC ∧ s.vm.classes[cC]? = some kC ∧ kC.kind = .ordinary := by
  obtain ⟨q, hq, he⟩ := List.any_eq_true.mp h
  have hk := Nat.eq_of_beq_eq_true he
  obtain ⟨cC, kC, h1, h2, h3, -⟩ := Cond.instantiable_spec (hts _ (xnew2_ok q hq))
  rw [hk] at h1
  exact ⟨cC, kC, h1, h2, h3⟩
theorem xins_all : (List.range 60).all (fun k => (xfd k).isEmpty || (Nat.beq k 43 || (xnewL.any (fun q => Nat.beq q.2.1 k) && (xat k).isNone))) = true := by decide +kernel
theorem xins_of {k f : Nat} {d : Nat × Nat × Nat} (hk : k < 60) (h43 : k ≠ 43) (hd : (xfd k)[f]? = some d) : xnewL.any (fun q => Nat.beq q.2.1 k) = true ∧ xat k = none := by
  have h1 := List.all_eq_true.mp xins_all k (List.mem_range.mpr hk)
  rcases (Bool.or_eq_true _ _).mp h1 with h | h
  · rw [List.isEmpty_iff] at h
    rw [h] at hd
    simp at hd
  · rcases (Bool.or_eq_true _ _).mp h with h | h
    · exact absurd (Nat.eq_of_beq_eq_true h) h43
    · rw [Bool.and_eq_true] at h
      exact ⟨h.1, by simpa using h.2⟩
theorem xw_put (hx : p.tables.exec = Jvm.exec) (hb : c.code = cc) (hts : ∀ w ∈ xwA, w.before args s = true) {oc ix kx f o : Nat} (hown : s.vm.findClass (xcn oc) = some m.cls) (hl : ((oc, ix), kx, f) ∈ xfl) (hW : xWd s A ad M H) (hP : xAp A ad M) (hS : va_S A H0 H locs) (hk : kx < 60) (h43 : kx ≠ 43) (ho : o < xc M kx) (hc : xcst kx o = false) {d : Nat × Nat × Nat} (hd : (xfd kx)[f]? = some d)
    (hfin : (xTf kx f).2.2.2 = false ∨ ((xTf kx f).1 = xcn oc ∧ meth.name = "<init>")) {M' : xM} (hM : xch M M' kx o f) {v : Value} (hv : xfv ad M' kx o f d = v) (hn : ∀ ty, parseFieldDescriptor (xTf kx f).2.2.1 = some ty → narrow ty v = v ∧ fits ty v = true) (hdg : decode cc pc = .ok (.putfield ix, 3))
    (kk : ∀ (H1 : Heap) (locs1 : List Loc), xWd s A ad M' H1 → xAp A ad M' → va_S A H0 H1 locs1 → W p l e R s m args below meth c H1 locs1 cells slots Q (F0 m (pc + 3) ls rest)) : W p l e R s m args below meth c H locs cells slots Q (F0 m pc ls (v :: .ref (ad kx o) :: rest)) := by
  obtain ⟨cell, h1, h2, h3, h4, h5, h6⟩ := (hW kx o hk ho).1 (fun h => by rw [h] at hd; simp at hd)
  obtain ⟨cf, kf, i, fd, g1, g2, g3⟩ := h6 f d hd
  have hA : A (ad kx o) := (hP.1 kx o hk ho).mpr hc
  obtain ⟨q1, q2⟩ := xins_of hk h43 hd
  obtain ⟨cC, kC, i1, i2, i3⟩ := xins q1 hts
  cases h5.symm.trans i1
  have hlt : fd.slot < cell.slots.size := (Array.getElem?_eq_some_iff.mp g3).1
  obtain ⟨ty, hty, -⟩ := xtypes hk hd
  obtain ⟨n1, n2⟩ := hn ty hty
  rcases xlays hts hk h43 hd with ⟨hf0, hlay⟩ | ⟨hf1, hlay⟩
  · refine W.putK hx hb (f := fd) ⟨hown, hts _ (xfl_ok _ hl), ⟨_, _, _, g1⟩, g2⟩ (u_store i1 i2 i3 hlay g1 hty n1 n2) h1 (h4 hA) hlt rfl rfl hdg fun H' e1 e2 e3 => ?_
    exact kk H' _ (xWd_put hts hW hP hk ho h43 hc hd hM q2 h1 g1 hlt hv e1 e3) (hP.ch hM.1) (hS.put e2 e3 hA)
  · obtain ⟨hdecl, hin⟩ := hfin.resolve_left (by rw [hf1]; exact fun h => nomatch h)
    have hcf : m.cls = cf := by
      obtain ⟨_, _, c', _, _, _, -, -, hf', -, -, -, hown2, -⟩ := Cond.laysFinal_spec hlay
      have e1 : c' = cf := by have := g1.symm.trans hf'; simp at this; exact this.1.symm
      rw [hdecl] at hown2
      rw [← e1]
      exact Option.some.inj (hown.symm.trans hown2)
    refine W.putFinK hx hb hown (hts _ (xfl_ok _ hl)) g1 g2 hcf hin (u_fits i1 i2 i3 (Or.inr hlay) g1 hty n1 n2) h1 (h4 hA) hlt rfl rfl hdg fun H' e1 e2 e3 => ?_
    exact kk H' _ (xWd_put hts hW hP hk ho h43 hc hd hM q2 h1 g1 hlt hv e1 e3) (hP.ch hM.1) (hS.put e2 e3 hA)
/-- what an array's kind says -/
theorem xtc_at : (List.range 60).all (fun k => match xat k with
  | none => Nat.beq (xtc k) 0
  | some ty => (xfd k).isEmpty && (match ty with
    | .int => Nat.beq (xtc k) 1
    | .byte => Nat.beq (xtc k) 2
    | .boolean => Nat.beq (xtc k) 3
    | .long => Nat.beq (xtc k) 4
    | .double => Nat.beq (xtc k) 5
    | .object C => Nat.beq (xtc k) 6 && (match xae k with
      | some (tk, _) => xcl tk == C && Nat.blt tk 60
      | none => false)
    | _ => false)) = true := by decide +kernel
theorem xtc_lt (k : Nat) (h : xtc k ≠ 0) : k < 60 := by
  unfold xtc at h
  split at h <;> first | omega | exact absurd rfl h
theorem xat_of {k t : Nat} (ht : xtc k = t) (h0 : t ≠ 0) : k < 60 ∧ xfd k = [] ∧ ∃ ty, xat k = some ty ∧ (t = 1 → ty = .int) ∧ (t = 2 → ty = .byte) ∧ (t = 3 → ty = .boolean) ∧ (t = 4 → ty = .long) ∧ (t = 5 → ty = .double) ∧ (t = 6 → ∃ tk tw, xae k = some (tk, tw) ∧ ty = .object (xcl tk) ∧ tk < 60) := by
  have hk := xtc_lt k (by rw [ht]; exact h0)
  have h1 := List.all_eq_true.mp xtc_at k (List.mem_range.mpr hk)
  split at h1
  · exact absurd ((Nat.eq_of_beq_eq_true h1).symm.trans ht).symm h0
  · rename_i ty hty
    rw [Bool.and_eq_true, List.isEmpty_iff] at h1
    refine ⟨hk, h1.1, ty, hty, ?_⟩
    have h2 := h1.2
    split at h2
    all_goals first
      | (have e := (Nat.eq_of_beq_eq_true h2); rw [ht] at e; subst e; simp)
      | skip
    · rw [Bool.and_eq_true] at h2
      have e := Nat.eq_of_beq_eq_true h2.1
      rw [ht] at e
      subst e
      split at h2
      · rename_i C tk tw hae
        rw [Bool.and_eq_true] at h2
        have h3 := h2.2
        refine ⟨by simp, by simp, by simp, by simp, by simp, fun _ => ⟨tk, tw, hae, ?_, Nat.le_of_ble_eq_true h3.2⟩⟩
        have h4 := h3.1
        rw [beq_iff_eq] at h4
        rw [h4]
      · simp at h2
    · cases h2
theorem xw_alen (hx : p.tables.exec = Jvm.exec) (hb : c.code = cc) {k o : Nat} (hW : xWd s A ad M H) (ho : o < xc M k) (ht : xtc k ≠ 0) (hlt : xlen k o M < 2 ^ 31) (hdg : decode cc pc = .ok (.arraylength, 1))
    (kk : W p l e R s m args below meth c H locs cells slots Q (F0 m (pc + 1) ls (.int (Int32.ofNat (xlen k o M)) :: rest))) : W p l e R s m args below meth c H locs cells slots Q (F0 m pc ls (.ref (ad k o) :: rest)) := by
  obtain ⟨hk, -, ty, hty, -⟩ := xat_of rfl ht
  obtain ⟨cell, h1, h2, h3, h4, h5, h6⟩ := (hW k o hk ho).2 ty hty
  exact W.alen hx hb h1 h2 (by rw [h5]) rfl rfl hdg kk
theorem xw_ald (hx : p.tables.exec = Jvm.exec) (hb : c.code = cc) {k o t : Nat} {i : Int32} {ins : Instr} (hW : xWd s A ad M H) (ho : o < xc M k) (ht : xtc k = t) (hin : ¬ (i < 0 ∨ xlen k o M ≤ ix i)) (hi : (ins = .iaload ∧ t = 1) ∨ (ins = .baload ∧ (t = 2 ∨ t = 3)) ∨ (ins = .laload ∧ t = 4) ∨ (ins = .daload ∧ t = 5) ∨ (ins = .aaload ∧ t = 6)) (hdg : decode cc pc = .ok (ins, 1))
    (kk : W p l e R s m args below meth c H locs cells slots Q (F0 m (pc + 1) ls (xav ad M k o (ix i) :: rest))) : W p l e R s m args below meth c H locs cells slots Q (F0 m pc ls (.int i :: .ref (ad k o) :: rest)) := by
  have h0 : t ≠ 0 := by omega
  obtain ⟨hk, -, ty, hty, t1, t2, t3, t4, t5, t6⟩ := xat_of ht h0
  obtain ⟨cell, h1, h2, h3, h4, h5, h6⟩ := (hW k o hk ho).2 ty hty
  have hin' : ¬ (i < 0 ∨ cell.slots.size ≤ i.toNatClampNeg) := by rw [h5]; exact hin
  have hv := h6 (ix i) (Nat.not_le.mp fun q => hin (Or.inr q))
  rcases hi with ⟨rfl, h⟩ | ⟨rfl, h | h⟩ | ⟨rfl, h⟩ | ⟨rfl, h⟩ | ⟨rfl, h⟩
  · exact W.iald hx hb h1 (t1 h ▸ h2) h3 hin' hv rfl rfl hdg kk
  · exact W.bald hx hb h1 (t2 h ▸ h2) h3 hin' hv rfl rfl hdg kk
  · exact W.zald hx hb h1 (t3 h ▸ h2) h3 hin' hv rfl rfl hdg kk
  · exact W.lald hx hb h1 (t4 h ▸ h2) h3 hin' hv rfl rfl hdg kk
  · exact W.dald hx hb h1 (t5 h ▸ h2) h3 hin' hv rfl rfl hdg kk
  · obtain ⟨tk, tw, -, e, -⟩ := t6 h
    exact W.aald hx hb h1 h2 (by rw [e]; rfl) h3 hin' hv rfl rfl hdg kk
theorem xw_ast (hx : p.tables.exec = Jvm.exec) (hb : c.code = cc) {k o t : Nat} {i : Int32} {ins : Instr} {w v : Value} (hW : xWd s A ad M H) (hP : xAp A ad M) (hS : va_S A H0 H locs) (ho : o < xc M k) (ht : xtc k = t) (hc : xcst k o = false) (hin : ¬ (i < 0 ∨ xlen k o M ≤ ix i)) {M' : xM} (hM : xch M M' k o (ix i)) (hv : xav ad M' k o (ix i) = v)
    (hi : (ins = .iastore ∧ t = 1 ∧ ∃ x, w = .int x ∧ v = .int x) ∨ (ins = .bastore ∧ (t = 2 ∨ t = 3) ∧ ∃ x, w = .int x ∧ v = .int (xnab t x)) ∨ (ins = .lastore ∧ t = 4 ∧ ∃ x, w = .long x ∧ v = .long x) ∨ (ins = .dastore ∧ t = 5 ∧ ∃ x, w = .double x ∧ v = .double x)) (hdg : decode cc pc = .ok (ins, 1))
    (kk : ∀ (H1 : Heap) (locs1 : List Loc), xWd s A ad M' H1 → xAp A ad M' → va_S A H0 H1 locs1 → W p l e R s m args below meth c H1 locs1 cells slots Q (F0 m (pc + 1) ls rest)) : W p l e R s m args below meth c H locs cells slots Q (F0 m pc ls (w :: .int i :: .ref (ad k o) :: rest)) := by
  have h0 : t ≠ 0 := by omega
  obtain ⟨hk, hfd, ty, hty, t1, t2, t3, t4, t5, -⟩ := xat_of ht h0
  obtain ⟨cell, h1, h2, h3, h4, h5, h6⟩ := (hW k o hk ho).2 ty hty
  have hA : A (ad k o) := (hP.1 k o hk ho).mpr hc
  have hin' : ¬ (i < 0 ∨ cell.slots.size ≤ i.toNatClampNeg) := by rw [h5]; exact hin
  have hlt : ix i < cell.slots.size := Nat.not_le.mp fun q => hin' (Or.inr q)
  rcases hi with ⟨rfl, h, x, rfl, rfl⟩ | ⟨rfl, h | h, x, rfl, rfl⟩ | ⟨rfl, h, x, rfl, rfl⟩ | ⟨rfl, h, x, rfl, rfl⟩
  · exact W.iast hx hb h1 (t1 h ▸ h2) h3 hin' rfl rfl hdg fun H1 e1 e2 e3 => kk H1 _ (xWd_ast hW hP hk ho hc hM hfd hty h1 hlt hv e1 e3) (hP.ch hM.1) (hS.put e2 e3 hA)
  · subst h
    exact W.bast hx hb h1 (t2 rfl ▸ h2) h3 hin' rfl rfl hdg fun H1 e1 e2 e3 => kk H1 _ (xWd_ast hW hP hk ho hc hM hfd hty h1 hlt hv e1 e3) (hP.ch hM.1) (hS.put e2 e3 hA)
  · subst h
    exact W.zast hx hb h1 (t3 rfl ▸ h2) h3 hin' rfl rfl hdg fun H1 e1 e2 e3 => kk H1 _ (xWd_ast hW hP hk ho hc hM hfd hty h1 hlt hv e1 e3) (hP.ch hM.1) (hS.put e2 e3 hA)
  · exact W.last hx hb h1 (t4 h ▸ h2) h3 hin' rfl rfl hdg fun H1 e1 e2 e3 => kk H1 _ (xWd_ast hW hP hk ho hc hM hfd hty h1 hlt hv e1 e3) (hP.ch hM.1) (hS.put e2 e3 hA)
  · exact W.dast hx hb h1 (t5 h ▸ h2) h3 hin' rfl rfl hdg fun H1 e1 e2 e3 => kk H1 _ (xWd_ast hW hP hk ho hc hM hfd hty h1 hlt hv e1 e3) (hP.ch hM.1) (hS.put e2 e3 hA)
theorem xw_aast (hx : p.tables.exec = Jvm.exec) (hb : c.code = cc) (hts : ∀ w ∈ xwA, w.before args s = true) {k o tk tw q : Nat} {i : Int32} (hW : xWd s A ad M H) (hP : xAp A ad M) (hS : va_S A H0 H locs) (ho : o < xc M k) (hae : xae k = some (tk, tw)) (hc : xcst k o = false) (hq : q < xc M tk) (hfq : xfd tk ≠ []) (h43 : tk ≠ 43) (hin : ¬ (i < 0 ∨ xlen k o M ≤ ix i)) {M' : xM} (hM : xch M M' k o (ix i)) (hv : xav ad M' k o (ix i) = .ref (ad tk q)) (ht : xtc k = 6) (hdg : decode cc pc = .ok (.aastore, 1))
    (kk : ∀ (H1 : Heap) (locs1 : List Loc), xWd s A ad M' H1 → xAp A ad M' → va_S A H0 H1 locs1 → W p l e R s m args below meth c H1 locs1 cells slots Q (F0 m (pc + 1) ls rest)) : W p l e R s m args below meth c H locs cells slots Q (F0 m pc ls (.ref (ad tk q) :: .int i :: .ref (ad k o) :: rest)) := by
  obtain ⟨hk, hfd, ty, hty, -, -, -, -, -, t6⟩ := xat_of ht (by decide)
  obtain ⟨tk', tw', hae', rfl, htk⟩ := t6 rfl
  cases hae.symm.trans hae'
  obtain ⟨cell, h1, h2, h3, h4, h5, h6⟩ := (hW k o hk ho).2 _ hty
  have hA : A (ad k o) := (hP.1 k o hk ho).mpr hc
  obtain ⟨hvm, -, hC⟩ := h4 hA
  obtain ⟨kA, comp, g1, g2, g3⟩ := hC _ rfl
  have hin' : ¬ i < 0 ∧ i.toNatClampNeg < cell.slots.size := by rw [h5]; exact ⟨fun z => hin (Or.inl z), Nat.not_le.mp fun z => hin (Or.inr z)⟩
  obtain ⟨cv, v1, v2, v3, -, v5, -⟩ := (hW tk q htk hq).1 hfq
  have hcomp : comp = cv.cls := Option.some.inj (g3.symm.trans v5)
  cases hfd0 : (xfd tk)[0]? with
  | none =>
    cases hz : xfd tk with
    | nil => exact absurd hz hfq
    | cons a r => rw [hz] at hfd0; simp at hfd0
  | some d0 =>
    obtain ⟨q1, -⟩ := xins_of htk h43 hfd0
    obtain ⟨cC, kC, i1, i2, i3⟩ := xins q1 hts
    cases v5.symm.trans i1
    subst hcomp
    refine W.aast hx hb h1 (fun z hz => by rw [hvm] at hz; cases hz) (by rw [hvm]; exact fun z => by cases z) g1 g2 rfl i2 hin' v1 (fun z hz => by rw [hz] at v2; cases v2) i2 (va_assign ⟨i1, kC, i2, i3⟩) rfl rfl hdg fun H1 e1 e2 e3 => ?_
    exact kk H1 _ (xWd_ast hW hP hk ho hc hM hfd hty h1 hin'.2 hv e1 e3) (hP.ch hM.1) (hS.put e2 e3 hA)
end XST
end
section
/-! LOCALS, STACK, WHAT A METHOD'S TABLE MUST KEEP, the invariant. -/
def xisJ (v : xV) : Bool := match v.2 with
  | .retAddr _ => true
  | _ => false
def xlv (ad : xA) : List xV → Nat → List (Nat × Value)
  | [], _ => []
  | v :: r, i => match xisJ v with
    | true => xlv ad r (i + 1)
    | false => (i, xenc ad v) :: xlv ad r (i + 1)
theorem xlv_mem {ad : xA} {q : Nat × Value} : ∀ (ls : List xV) (i : Nat), q ∈ xlv ad ls i ↔ ∃ j, j < ls.length ∧ q.1 = i + j ∧ xisJ (xg ls j) = false ∧ q.2 = xenc ad (xg ls j)
  | [], i => by simp [xlv]
  | v :: r, i => by
    have ih := xlv_mem (ad := ad) (q := q) r (i + 1)
    have step : (∃ j, j < r.length ∧ q.1 = i + 1 + j ∧ xisJ (xg r j) = false ∧ q.2 = xenc ad (xg r j)) ↔ ∃ j, 0 < j ∧ j < (v :: r).length ∧ q.1 = i + j ∧ xisJ (xg (v :: r) j) = false ∧ q.2 = xenc ad (xg (v :: r) j) := by
      constructor
      · rintro ⟨j, h1, h2, h3, h4⟩
        exact ⟨j + 1, by omega, by simp; omega, by omega, h3, h4⟩
      · rintro ⟨j, h0, h1, h2, h3, h4⟩
        obtain ⟨j, rfl⟩ : ∃ z, j = z + 1 := ⟨j - 1, by omega⟩
        exact ⟨j, by simpa using h1, by omega, h3, h4⟩
    unfold xlv
    cases hv : xisJ v with
    | true =>
      simp only
      rw [ih, step]
      constructor
      · rintro ⟨j, -, h⟩
        exact ⟨j, h⟩
      · rintro ⟨j, h1, h2, h3, h4⟩
        cases j with
        | zero => rw [show xg (v :: r) 0 = v from rfl, hv] at h3; cases h3
        | succ j => exact ⟨j + 1, by omega, h1, h2, h3, h4⟩
    | false =>
      simp only [List.mem_cons]
      rw [ih, step]
      constructor
      · rintro (rfl | ⟨j, -, h⟩)
        · exact ⟨0, by simp, rfl, hv, rfl⟩
        · exact ⟨j, h⟩
      · rintro ⟨j, h1, h2, h3, h4⟩
        cases j with
        | zero => exact Or.inl (by obtain ⟨a, b⟩ := q; simp at h2; subst h2; simp only at h4; rw [h4]; rfl)
        | succ j => exact Or.inr ⟨j + 1, by omega, h1, h2, h3, h4⟩
theorem xs_len : ∀ (ls : List xV) (i : Nat) (v : xV), (xs ls i v).length = ls.length
  | [], _, _ => rfl
  | _ :: _, 0, _ => rfl
  | _ :: r, i + 1, v => by simp [xs, xs_len r i v]
theorem xg_xs : ∀ (ls : List xV) (i j : Nat) (v : xV), xg (xs ls i v) j = if j = i ∧ i < ls.length then v else xg ls j
  | [], i, j, v => by simp [xs]
  | a :: r, 0, 0, v => by simp [xs, xg]
  | a :: r, 0, j + 1, v => by simp [xs, xg]
  | a :: r, i + 1, 0, v => by simp [xs, xg]
  | a :: r, i + 1, j + 1, v => by simp [xs, xg, xg_xs r i j v]
theorem xsw1_len (ls : List xV) (i : Nat) (v : xV) : (xsw1 ls i v).length = ls.length := by
  unfold xsw1
  split
  · exact xs_len _ _ _
  · split
    · rw [xs_len, xs_len]
    · exact xs_len _ _ _
theorem xg_xsw1 {ls : List xV} {i j : Nat} {v : xV} (hi : i < ls.length) : xg (xsw1 ls i v) j = if j = i then v else if j + 1 = i ∧ xwide (xg ls j) = true then xJ else xg ls j := by
  unfold xsw1
  split
  · rw [xg_xs]
    by_cases h : j = 0
    · subst h; simp [hi]
    · simp [h]
  · rename_i k
    split
    · rename_i hw
      rw [xg_xs, xs_len, xg_xs]
      by_cases h : j = k + 1
      · subst h; simp [hi]
      · by_cases h2 : j = k
        · subst h2; simp [hw]; omega
        · have h3 : ¬ (j + 1 = k + 1 ∧ xwide (xg ls j) = true) := by omega
          simp [h, h2]
    · rename_i hw
      rw [xg_xs]
      by_cases h : j = k + 1
      · subst h; simp [hi]
      · by_cases h2 : j = k
        · subst h2; simp [hw]
        · simp [h, h2]
/-- the locals of the frame -/
def xlr (ad : xA) (n : Nat) (la : Array Slot) (ls : List xV) : Prop := ls.length = n ∧ lv_has la n (xlv ad ls 0)
theorem lv_less {la : Array Slot} {n : Nat} {l l' : List (Nat × Value)} (h : lv_has la n l) (hs : ∀ q ∈ l', q ∈ l) : lv_has la n l' := ⟨h.1, h.2.1, fun q hq => h.2.2 q (hs q hq)⟩
theorem xlr.at {ad : xA} {n : Nat} {la : Array Slot} {ls : List xV} (h : xlr ad n la ls) {i : Nat} {w : xV} (hw : xg ls i = w) (hj : xisJ w = false) : la[i]? = some (.val (xenc ad w)) := by
  subst hw
  have hi : i < ls.length := by
    rcases Nat.lt_or_ge i ls.length with q | q
    · exact q
    · have e : xg ls i = xJ := by
        clear hj h
        induction ls generalizing i with
        | nil => rfl
        | cons a r ih =>
          cases i with
          | zero => simp at q
          | succ i => exact ih (by simpa using q)
      rw [e] at hj
      cases hj
  exact h.2.2.2 (i, xenc ad (xg ls i)) ((xlv_mem ls 0).mpr ⟨i, hi, by simp, hj, rfl⟩)
theorem xenc_rn (ad : xA) (k o : Nat) : xenc ad (k, .ref o) = .null ∨ ∃ a, xenc ad (k, .ref o) = .ref a := by
  unfold xenc
  simp only
  split
  · split
    · exact Or.inl rfl
    · exact Or.inr ⟨_, rfl⟩
  · exact Or.inr ⟨_, rfl⟩
theorem xenc_cat {ad : xA} {v : xV} (h : xwide v = false) : ¬ (xenc ad v).category = 2 := by
  obtain ⟨k, w⟩ := v
  cases w with
  | ref o =>
    rcases xenc_rn ad k o with e | ⟨a, e⟩ <;> rw [e] <;> (show ¬ (1 : Nat) = 2) <;> decide
  | long x => simp [xwide] at h
  | double x => simp [xwide] at h
  | _ =>
    show ¬ (1 : Nat) = 2
    decide
theorem xlr.store1 {ad : xA} {n i : Nat} {la : Array Slot} {ls : List xV} {v : xV} (h : xlr ad n la ls) (hi : i < n) {la' : Array Slot} (h' : lv_has la' n ((i, xenc ad v) :: (xlv ad ls 0).filter (fun q => !(q.1 == i) && !(q.1 + 1 == i && q.2.category == 2)))) : xlr ad n la' (xsw1 ls i v) := by
  refine ⟨(xsw1_len _ _ _).trans h.1, lv_less h' fun q hq => ?_⟩
  obtain ⟨j, h1, h2, h3, h4⟩ := (xlv_mem _ 0).mp hq
  rw [xsw1_len] at h1
  rw [xg_xsw1 (by rw [h.1]; exact hi)] at h3 h4
  by_cases hj : j = i
  · subst hj
    rw [if_pos rfl] at h4
    exact List.mem_cons.mpr (Or.inl (Prod.ext (by simpa using h2) h4))
  · rw [if_neg hj] at h3 h4
    by_cases hw : j + 1 = i ∧ xwide (xg ls j) = true
    · rw [if_pos hw] at h3; cases h3
    · rw [if_neg hw] at h3 h4
      refine List.mem_cons.mpr (Or.inr (List.mem_filter.mpr ⟨(xlv_mem ls 0).mpr ⟨j, h1, h2, h3, h4⟩, ?_⟩))
      have e1 : q.1 = j := by omega
      rw [e1, h4]
      by_cases hji : j + 1 = i
      · have := xenc_cat (ad := ad) (v := xg ls j) (by cases hz : xwide (xg ls j) with
          | true => exact absurd ⟨hji, hz⟩ hw
          | false => rfl)
        simp [hj, this]
      · simp [hj, hji]
theorem xlr.store2 {ad : xA} {n i : Nat} {la : Array Slot} {ls : List xV} {v : xV} (h : xlr ad n la ls) (hi : i + 1 < n) {la' : Array Slot} (h' : lv_has la' n ((i, xenc ad v) :: (xlv ad ls 0).filter (fun q => !(q.1 == i) && (!(q.1 == i + 1) && !(q.1 + 1 == i && q.2.category == 2))))) : xlr ad n la' (xs (xsw1 ls i v) (i + 1) xJ) := by
  refine ⟨(xs_len _ _ _).trans ((xsw1_len _ _ _).trans h.1), lv_less h' fun q hq => ?_⟩
  obtain ⟨j, h1, h2, h3, h4⟩ := (xlv_mem _ 0).mp hq
  rw [xs_len, xsw1_len] at h1
  rw [xg_xs, xsw1_len] at h3 h4
  by_cases hj1 : j = i + 1 ∧ i + 1 < ls.length
  · rw [if_pos hj1] at h3; cases h3
  · have hj1' : j ≠ i + 1 := fun e => hj1 ⟨e, by omega⟩
    rw [if_neg hj1, xg_xsw1 (by rw [h.1]; omega)] at h3 h4
    by_cases hj : j = i
    · subst hj
      rw [if_pos rfl] at h4
      exact List.mem_cons.mpr (Or.inl (Prod.ext (by simpa using h2) h4))
    · rw [if_neg hj] at h3 h4
      by_cases hw : j + 1 = i ∧ xwide (xg ls j) = true
      · rw [if_pos hw] at h3; cases h3
      · rw [if_neg hw] at h3 h4
        refine List.mem_cons.mpr (Or.inr (List.mem_filter.mpr ⟨(xlv_mem ls 0).mpr ⟨j, h1, h2, h3, h4⟩, ?_⟩))
        have e1 : q.1 = j := by omega
        rw [e1, h4]
        by_cases hji : j + 1 = i
        · have := xenc_cat (ad := ad) (v := xg ls j) (by cases hz : xwide (xg ls j) with
            | true => exact absurd ⟨hji, hz⟩ hw
            | false => rfl)
          simp [hj, hj1', this]
        · simp [hj, hj1', hji]
theorem xg_kill : ∀ (ks : List Nat) (ls : List xV) (j : Nat), xg (xkill ls ks) j = xg ls j ∨ xg (xkill ls ks) j = xJ
  | [], _, _ => Or.inl rfl
  | k :: r, ls, j => by
    rcases xg_kill r (xs ls k xJ) j with h | h
    · rw [show xkill ls (k :: r) = xkill (xs ls k xJ) r from rfl, h, xg_xs]
      split
      · exact Or.inr rfl
      · exact Or.inl rfl
    · exact Or.inr h
theorem xkill_len : ∀ (ks : List Nat) (ls : List xV), (xkill ls ks).length = ls.length
  | [], _ => rfl
  | k :: r, ls => (xkill_len r _).trans (xs_len _ _ _)
theorem xlr.kill {ad : xA} {n : Nat} {la : Array Slot} {ls : List xV} (h : xlr ad n la ls) (ks : List Nat) : xlr ad n la (xkill ls ks) := by
  refine ⟨(xkill_len _ _).trans h.1, lv_less h.2 fun q hq => ?_⟩
  obtain ⟨j, h1, h2, h3, h4⟩ := (xlv_mem _ 0).mp hq
  rw [xkill_len] at h1
  rcases xg_kill ks ls j with e | e
  · rw [e] at h3 h4
    exact (xlv_mem ls 0).mpr ⟨j, h1, h2, h3, h4⟩
  · rw [e] at h3; cases h3
/-- values are of things that are there -/
def xvok (rg : Option (List (Nat × Nat))) (M : xM) (v : xV) : Prop := match v with
  | (k, .ref o) => k = 51 ∨ (k < 60 ∧ o < xc M k ∧ ∀ L, rg = some L → xstrk k = true → (k, o) ∈ L)
  | _ => True
theorem xvok.mon {rg : Option (List (Nat × Nat))} {M M' : xM} {v : xV} (hm : xmon M M') (h : xvok rg M v) : xvok rg M' v := by
  obtain ⟨k, w⟩ := v
  cases w <;> try trivial
  rcases h with h | ⟨h1, h2, h3⟩
  · exact Or.inl h
  · exact Or.inr ⟨h1, Nat.lt_of_lt_of_le h2 (hm.1 k), h3⟩
theorem xvok_J {rg : Option (List (Nat × Nat))} {M : xM} : xvok rg M xJ := trivial
theorem xlr.ad {ad ad' : xA} {n : Nat} {la : Array Slot} {ls : List xV} (h : xlr ad n la ls) (he : ∀ v ∈ ls, xenc ad' v = xenc ad v) : xlr ad' n la ls := by
  refine ⟨h.1, lv_less h.2 fun q hq => ?_⟩
  obtain ⟨j, h1, h2, h3, h4⟩ := (xlv_mem _ 0).mp hq
  refine (xlv_mem ls 0).mpr ⟨j, h1, h2, h3, ?_⟩
  rw [h4]
  refine he _ ?_
  clear h h2 h3 h4 hq he
  induction ls generalizing j with
  | nil => simp at h1
  | cons a r ih =>
    cases j with
    | zero => exact List.mem_cons_self
    | succ j => exact List.mem_cons_of_mem _ (ih j (by simpa using h1))
theorem xg_mem {ls : List xV} {j : Nat} : xg ls j ∈ ls ∨ xg ls j = xJ := by
  induction ls generalizing j with
  | nil => exact Or.inr rfl
  | cons a r ih =>
    cases j with
    | zero => exact Or.inl List.mem_cons_self
    | succ j => exact (ih (j := j)).imp (List.mem_cons_of_mem _) id
theorem xs_all {P : xV → Prop} : ∀ {ls : List xV} {i : Nat} {v : xV}, (∀ w ∈ ls, P w) → P v → ∀ w ∈ xs ls i v, P w
  | [], _, _, h, _ => h
  | a :: r, 0, v, h, hv => fun w hw => (List.mem_cons.mp hw).elim (fun e => e ▸ hv) (fun z => h w (List.mem_cons_of_mem _ z))
  | a :: r, i + 1, v, h, hv => fun w hw => (List.mem_cons.mp hw).elim (fun e => e ▸ h a List.mem_cons_self) (fun z => xs_all (fun w hw => h w (List.mem_cons_of_mem _ hw)) hv w z)
theorem xsw1_all {P : xV → Prop} {ls : List xV} {i : Nat} {v : xV} (h : ∀ w ∈ ls, P w) (hv : P v) (hJ : P xJ) : ∀ w ∈ xsw1 ls i v, P w := by
  unfold xsw1
  split
  · exact xs_all h hv
  · split
    · exact xs_all (xs_all h hJ) hv
    · exact xs_all h hv
theorem xkill_all {P : xV → Prop} (hJ : P xJ) : ∀ (ks : List Nat) {ls : List xV}, (∀ w ∈ ls, P w) → ∀ w ∈ xkill ls ks, P w
  | [], _, h => h
  | k :: r, _, h => xkill_all hJ r (xs_all h hJ)
/-- the list is closed under references that are read without a look -/
def xclosed (L : List (Nat × Nat)) : Bool := L.all (fun q => match xae q.1 with
  | some (tk, tw) => !xstrk tk || (List.range (xnth xlens q.1)).all (fun i => L.contains (tk, i + tw))
  | none => (xfd q.1).all (fun d => match d with
    | (0, _, _) => true
    | (1, _, _) => true
    | (4, tk, _) => !xstrk tk
    | (t, tk, tw) => !xstrk tk || L.contains (tk, xtg t tw q.2 0)))
theorem xclosed_sl : (xclosed (xsl 0) && xclosed (xsl 1)) && ((xclosed (xsl 2) && xclosed (xsl 3)) && xclosed (xsl 4)) = true := by decide +kernel
def xrok (rg : Option (List (Nat × Nat))) (M : xM) : Prop := ∀ L, rg = some L → xgood L M = true ∧ xclosed L = true
theorem xgdF_spec {M : xM} {k o : Nat} : ∀ {l : List (Nat × Nat × Nat)} {f0 : Nat}, xgdF M k o l f0 = true → ∀ (f t tk tw : Nat), l[f]? = some (t, tk, tw) → 2 ≤ t → xf M k o (f0 + f)
  | [], _, _, f, _, _, _, hf, _ => by simp at hf
  | (t0, w0) :: r, f0, h, f, t, tk, tw, hf, ht => by
    unfold xgdF at h
    rw [Bool.and_eq_true] at h
    cases f with
    | zero =>
      simp at hf
      obtain ⟨rfl, -⟩ := hf
      have h1 := h.1
      split at h1
      · omega
      · omega
      · exact Nat.eq_of_beq_eq_true h1
    | succ f =>
      have := xgdF_spec h.2 f t tk tw (by simpa using hf) ht
      rw [show f0 + (f + 1) = f0 + 1 + f by omega]
      exact this
theorem xgdA_spec {M : xM} {k o : Nat} : ∀ {n : Nat}, xgdA M k o n = true → ∀ j, j < n → xf M k o j
  | 0, _, j, hj => by omega
  | n + 1, h, j, hj => by
    unfold xgdA at h
    rw [Bool.and_eq_true] at h
    rcases Nat.lt_or_ge j n with q | q
    · exact xgdA_spec h.2 j q
    · have : j = n := by omega
      subst this
      exact Nat.eq_of_beq_eq_true h.1
theorem xgood_spec {L : List (Nat × Nat)} {M : xM} (h : xgood L M = true) {k o : Nat} (hq : (k, o) ∈ L) : o < xc M k ∧ (xra k = false → ∀ (f t tk tw : Nat), (xfd k)[f]? = some (t, tk, tw) → 2 ≤ t → xf M k o f) ∧ (xra k = true → ∀ j, j < xnth xlens k → xf M k o j) := by
  have h1 := List.all_eq_true.mp h (k, o) hq
  rw [Bool.and_eq_true] at h1
  refine ⟨Nat.le_of_ble_eq_true h1.1, fun hr f t tk tw hf ht => ?_, fun hr j hj => ?_⟩
  · have h2 := h1.2
    simp only [hr] at h2
    have := xgdF_spec h2 f t tk tw hf ht
    rwa [Nat.zero_add] at this
  · have h2 := h1.2
    simp only [hr] at h2
    exact xgdA_spec h2 j hj
theorem xgdF_mon {M M' : xM} {k o : Nat} (hm : xmon M M') (hk : k < 60) (ho : o < xc M k) : ∀ {l : List (Nat × Nat × Nat)} {f0 : Nat}, xgdF M k o l f0 = true → xgdF M' k o l f0 = true
  | [], _, _ => rfl
  | (t, w) :: r, f0, h => by
    unfold xgdF at h ⊢
    rw [Bool.and_eq_true] at h ⊢
    refine ⟨?_, xgdF_mon hm hk ho h.2⟩
    have h1 := h.1
    split at h1
    · rfl
    · rfl
    · rw [hm.2.1 k o f0 hk ho (Nat.eq_of_beq_eq_true h1)]
      rfl
theorem xgdA_mon {M M' : xM} {k o : Nat} (hm : xmon M M') (hk : k < 60) (ho : o < xc M k) : ∀ {n : Nat}, xgdA M k o n = true → xgdA M' k o n = true
  | 0, _ => rfl
  | n + 1, h => by
    unfold xgdA at h ⊢
    rw [Bool.and_eq_true] at h ⊢
    exact ⟨by rw [hm.2.1 k o n hk ho (Nat.eq_of_beq_eq_true h.1)]; rfl, xgdA_mon hm hk ho h.2⟩
theorem xgood_mon {L : List (Nat × Nat)} {M M' : xM} (hm : xmon M M') (hL : L.all (fun q => Nat.blt q.1 60) = true) (h : xgood L M = true) : xgood L M' = true := by
  refine List.all_eq_true.mpr fun q hq => ?_
  have h1 := List.all_eq_true.mp h q hq
  have hk : q.1 < 60 := Nat.le_of_ble_eq_true (List.all_eq_true.mp hL q hq)
  rw [Bool.and_eq_true] at h1 ⊢
  have ho : q.2 < xc M q.1 := Nat.le_of_ble_eq_true h1.1
  refine ⟨Nat.ble_eq_true_of_le (Nat.lt_of_lt_of_le ho (hm.1 q.1)), ?_⟩
  have h2 := h1.2
  cases hr : xra q.1 with
  | true => simp only [hr] at h2 ⊢; exact xgdA_mon hm hk ho h2
  | false => simp only [hr] at h2 ⊢; exact xgdF_mon hm hk ho h2
end
section
/-- the constants are there -/
def xK (M : xM) : Prop := 5 ≤ xc M 42 ∧ 1 ≤ xc M 43 ∧ 0 ≤ xc M 44 ∧ 0 ≤ xc M 45 ∧ 13 ≤ xc M 46 ∧ 13 ≤ xc M 47 ∧ 1 ≤ xc M 48 ∧ 1 ≤ xc M 52
theorem xK.mon {M M' : xM} (hm : xmon M M') (h : xK M) : xK M' := by
  obtain ⟨a, b, c, d, e, f, g, i⟩ := h
  exact ⟨Nat.le_trans a (hm.1 _), Nat.le_trans b (hm.1 _), Nat.le_trans c (hm.1 _), Nat.le_trans d (hm.1 _), Nat.le_trans e (hm.1 _), Nat.le_trans f (hm.1 _), Nat.le_trans g (hm.1 _), Nat.le_trans i (hm.1 _)⟩
/-- bytes are bytes, lengths are small -/
def xBt (M : xM) : Prop := (∀ k o j, xtc k = 2 → o < xc M k → fits .byte (.int (gi M k o j)) = true) ∧ ∀ k o, xdyn k = true → k < 60 → o < xc M k → gn M (110 + k) o 0 ≤ 65536
/-- the invariant of a frame: what the heap holds, and the store -/
def xInv (s : State) (A : Nat → Prop) (ad : xA) (M : xM) (H0 H : Heap) (locs : List Loc) : Prop :=
  xWd s A ad M H ∧ xAp A ad M ∧ xWT M ∧ xBt M ∧ xK M ∧ va_S A H0 H locs
/-- statics, strings, the words of nest mates: what a start gives of the constants -/
def xCs (A : Nat → Prop) (ad : xA) (s : State) : Prop :=
  (∀ q ∈ xlds, vk_R (xcn q.1.1) q.1.2 (xget0 "" xtxt q.2) (ad 46 q.2) s) ∧ (∀ q ∈ xstt, va_Z q.1 q.2.1 q.2.2.1 (xenc ad q.2.2.2) A s s.heap) ∧
  (∀ q ∈ xgsN, (Cond.fieldLinkNest (xcn q.1.1) q.1.2 (xget0 xst0 xstt q.2).1 (xget0 xst0 xstt q.2).2.1 (xget0 xst0 xstt q.2).2.2.1 "ProjectPlanner").before #[] s = true) ∧
  va_AO "ProjectPlanner$Plan" s ∧ va_AO "ProjectPlanner$Command" s ∧ va_Nw (.castable "[B" "java/lang/Cloneable") s ∧
  (∀ q ∈ xcal2, va_Nw (.methodLinkNest (xcn q.1.1) q.1.2 (xY q.2.2.1) "ProjectPlanner") s) ∧ (∀ q ∈ xcal3, va_Nw (.methodLinkNest (xcn q.1.1) q.1.2 (xY q.2.2.1) "ProjectPlanner") s)
/-- what a frame is given -/
def xFx (y : Nat) (p : Program) (l : Launch) (s : State) (m : MethodId) (args : Array Value) (meth : Method) (c : Code) : Prop :=
  p.tables.exec = Jvm.exec ∧ c.code = xCode y ∧ c.maxLocals = xml y ∧ s.vm.findClass (xcn (xoc y)) = some m.cls ∧ (∀ w ∈ xwA, w.before args s = true) ∧ meth.locks = false ∧ meth.sig.returnType = xRet y ∧ ((xY y).name = "<init>" → meth.name = "<init>") ∧ l.stackTraces = false
/-- how long an instruction is -/
def xil (i : Instr) : Nat := match i with
  | .bipush _ => 2
  | .sipush _ => 3
  | .ldc _ => 2
  | .ldc_w _ => 3
  | .ldc2_w _ => 3
  | .iload _ => 2
  | .lload _ => 2
  | .fload _ => 2
  | .dload _ => 2
  | .aload _ => 2
  | .istore _ => 2
  | .lstore _ => 2
  | .fstore _ => 2
  | .dstore _ => 2
  | .astore _ => 2
  | .iinc _ _ => 3
  | .ifCond _ _ => 3
  | .if_icmp _ _ => 3
  | .if_acmp _ _ => 3
  | .goto _ => 3
  | .ifnonnull _ => 3
  | .getfield _ => 3
  | .putfield _ => 3
  | .getstatic _ => 3
  | .invokevirtual _ => 3
  | .invokestatic _ => 3
  | .invokespecial _ => 3
  | .new _ => 3
  | .newarray _ => 2
  | .anewarray _ => 3
  | .checkcast _ => 3
  | _ => 1
def xeV (a b : xV) : Bool := match a, b with
  | (k, .ref o), (k', .ref o') => Nat.beq k k' && Nat.beq o o'
  | (0, .int x), (0, .int y) => decide (x = y)
  | _, _ => false
def xpc (cs : List xE) : Nat := match cs with
  | [] => 0
  | (pc, _) :: _ => pc
noncomputable def xdec (y pc : Nat) (i : Instr) (n : Nat) : Bool := decide (decode (xCode y) pc = .ok (i, n))
def xsv (y : Nat) (ix : Nat) (v : xV) : Bool := xgs.any (fun q => (Nat.beq q.1.1 (xoc y) && Nat.beq q.1.2 ix) && xeV (xget0 xst0 xstt q.2).2.2.2 v) || xgsN.any (fun q => (Nat.beq q.1.1 (xoc y) && Nat.beq q.1.2 ix) && xeV (xget0 xst0 xstt q.2).2.2.2 v)
def xjmp (C : List xE) (pc : Nat) (off : Int) (aux : List Nat) : Bool := match aux with
  | t :: _ => decide ((pc : Int) + off = (xpc (C.drop t) : Int))
  | [] => false
/-- what an instruction of a table must keep, beside its place -/
def xokX (y : Nat) (C : List xE) (pc : Nat) (i : Instr) (aux : List Nat) (kc : Int32) : Bool := match i with
  | .iconst n => decide (Int32.ofInt n = kc)
  | .bipush n => decide ((Int8.ofInt n).toInt32 = kc)
  | .sipush n => decide ((Int16.ofInt n).toInt32 = kc)
  | .fconst n => decide (n = 0)
  | .dconst n => decide (n = 0)
  | .iinc n d => Nat.blt n (xml y) && decide (Int32.ofInt d = kc)
  | .istore n => Nat.blt n (xml y)
  | .fstore n => Nat.blt n (xml y)
  | .astore n => Nat.blt n (xml y)
  | .lstore n => Nat.blt (n + 1) (xml y)
  | .dstore n => Nat.blt (n + 1) (xml y)
  | .istore_n n => Nat.blt n.val (xml y)
  | .fstore_n n => Nat.blt n.val (xml y)
  | .astore_n n => Nat.blt n.val (xml y)
  | .lstore_n n => Nat.blt (n.val + 1) (xml y)
  | .dstore_n n => Nat.blt (n.val + 1) (xml y)
  | .ldc ix => (match aux with
    | [] => xldi.contains ((xoc y, ix), kc)
    | [46, sid] => xlds.contains ((xoc y, ix), sid) && Nat.blt sid 13
    | [_] => true
    | _ => false)
  | .ldc_w ix => (match aux with
    | [] => xldi.contains ((xoc y, ix), kc)
    | [_] => true
    | _ => false)
  | .ldc2_w ix => (match aux with
    | [n] => xldl.contains ((xoc y, ix), n)
    | _ => false)
  | .getstatic ix => (match aux with
    | [] => xsv y ix (0, .int kc)
    | [k, o] => xsv y ix (k, .ref o) && ((Nat.beq k 51 && Nat.beq o 0) || (Nat.blt k 60 && !xstrk k))
    | _ => false)
  | .getfield ix => (match aux with
    | [kx, f, tag, tk, tw] => xfl.contains ((xoc y, ix), kx, f) && (Nat.blt kx 60 && (decide ((xfd kx)[f]? = some (tag % 10, tk, tw)) && (match tag with
      | 0 => true
      | 1 => true
      | 12 => !xstrk tk || xreg y
      | 13 => !xstrk tk || xreg y
      | 14 => !xstrk tk || xreg y
      | 15 => !xstrk tk || xreg y
      | _ => Nat.blt tag 6 && (!xreg y && (xstrk kx && !xra kx)))))
    | _ => true)
  | .putfield ix => (match aux with
    | [kx, f, tag, tk, tw] => xfl.contains ((xoc y, ix), kx, f) && (Nat.blt kx 60 && (decide ((xfd kx)[f]? = some (tag % 10, tk, tw)) && (!Nat.beq kx 43 && ((!(xTf kx f).2.2.2 || ((xTf kx f).1 == xcn (xoc y) && (xY y).name == "<init>")) && (match tag with
      | 0 => (xTf kx f).2.2.1 == "I"
      | 1 => (xTf kx f).2.2.1 == "J"
      | 4 => !xreg y && (xstrk kx && !xra kx)
      | 10 => (xTf kx f).2.2.1 == "B"
      | 12 => true
      | 13 => true
      | 14 => true
      | _ => false)))))
    | _ => true)
  | .iaload => (match aux with
    | [] => true
    | _ => false)
  | .baload => (match aux with
    | [] => false
    | _ => true)
  | .goto off => xjmp C pc off aux
  | .ifnonnull off => xjmp C pc off aux
  | .ifCond _ off => xjmp C pc off aux
  | .if_icmp _ off => xjmp C pc off aux
  | .if_acmp _ off => xjmp C pc off aux
  | .aaload => (match aux with
    | [kx, tk, tw] => decide (xae kx = some (tk, tw)) && (!xreg y && xstrk kx)
    | [kx, tk, tw, _] => decide (xae kx = some (tk, tw)) && !xstrk tk
    | _ => true)
  | .aastore => (match aux with
    | [kx, tk, tw] => decide (xae kx = some (tk, tw)) && !Nat.beq tk 43
    | _ => true)
  | .new ix => (match aux with
    | [_, _] => true
    | [k, n, z] => xnewL.contains ((xoc y, ix), k, n) && (xmut k 13 && ((!xstrk k || xreg y) && Nat.beq z 0))
    | _ => true)
  | .newarray a => (match aux with
    | [k] => decide (xat k = some (newarray.typeOf a)) && (xmut k 13 && (!xstrk k || xreg y))
    | _ => true)
  | .anewarray ix => (match aux with
    | [k] => xarr.contains ((xoc y, ix), k) && (xmut k 13 && xreg y)
    | _ => true)
  | .checkcast ix => Nat.beq (xoc y) 17 && Nat.beq ix 311
  | .ireturn => (match aux with
    | [] => decide (xRet y = some .int)
    | [1] => decide (xRet y = some .boolean)
    | [2] => decide (xRet y = some .char)
    | [3] => decide (xRet y = some .byte)
    | _ => false)
  | .lreturn => decide (xRet y = some .long)
  | .freturn => decide (xRet y = some .float)
  | .dreturn => decide (xRet y = some .double)
  | .areturn => (match xRet y with
    | some t => t.isReference
    | none => false)
  | .return_ => decide (xRet y = none)
  | _ => true
def xend (i : Instr) (aux : List Nat) : Bool := match i with
  | .goto _ => true
  | .ireturn => true
  | .lreturn => true
  | .freturn => true
  | .dreturn => true
  | .areturn => true
  | .return_ => true
  | .athrow => true
  | .tableswitch _ _ _ _ => true
  | .new _ => Nat.blt aux.length 3
  | _ => false
noncomputable def xok (y : Nat) (C : List xE) (q : xE) (nx : Nat) : Bool := match q with
  | (pc, i, aux, kc) => match i with
    | .nop => Nat.beq nx pc
    | .tableswitch dflt lo hi offs => (match aux with
      | d :: l :: ts => (match decode (xCode y) pc with
        | .ok (i', _) => decide (i' = i)
        | _ => false) && (decide (lo = (l : Int)) && (decide (hi = (l : Int) + ts.length - 1) && (Nat.beq offs.size ts.length && (Nat.blt (l + ts.length) 1000 && (decide ((pc : Int) + dflt = (xpc (C.drop d) : Int)) && (List.range ts.length).all (fun j => match offs[j]?, ts[j]? with
          | some off, some t => decide ((pc : Int) + off = (xpc (C.drop t) : Int))
          | _, _ => false))))))
      | _ => false)
    | _ => xdec y pc i (xil i) && ((xend i aux || Nat.beq nx (pc + xil i)) && xokX y C pc i aux kc)
end
section
/-! THE INSTRUCTIONS THAT ONLY MOVE VALUES, over the world of a store. -/
theorem xok_dec {y pc nx n : Nat} {i : Instr} {e X : Bool} (h : (xdec y pc i n && ((e || Nat.beq nx (pc + n)) && X)) = true) (he : e = false) : decode (xCode y) pc = .ok (i, n) ∧ nx = pc + n ∧ X = true := by
  rw [Bool.and_eq_true, Bool.and_eq_true, he, Bool.false_or] at h
  exact ⟨of_decide_eq_true h.1, Nat.eq_of_beq_eq_true h.2.1, h.2.2⟩
theorem xenc_ref {ad : xA} {k o : Nat} (h : k ≠ 51) : xenc ad (k, .ref o) = .ref (ad k o) := by
  unfold xenc
  simp only
  split
  · rename_i e
    exact absurd (Nat.eq_of_beq_eq_true e) h
  · rfl
theorem xcat1_cat {ad : xA} {v : xV} (h : xcat1 v = true) : (xenc ad v).category = 1 := by
  obtain ⟨k, w⟩ := v
  cases w with
  | ref o =>
    rcases xenc_rn ad k o with e | ⟨a, e⟩ <;> rw [e] <;> rfl
  | _ => first | rfl | (simp [xcat1] at h)
theorem xpush {P : xV → Prop} {a : xV} {st : List xV} (h : P a) (hs : ∀ v ∈ st, P v) : ∀ v ∈ a :: st, P v := List.forall_mem_cons.mpr ⟨h, hs⟩
theorem xpop {P : xV → Prop} {a : xV} {st : List xV} (hs : ∀ v ∈ a :: st, P v) : ∀ v ∈ st, P v := fun v hv => hs v (List.mem_cons_of_mem _ hv)
theorem xvok_at {rg : Option (List (Nat × Nat))} {M : xM} {ls : List xV} {n : Nat} {w : xV} (vl : ∀ v ∈ ls, xvok rg M v) (e : xg ls n = w) : xvok rg M w := by
  rcases xg_mem (ls := ls) (j := n) with h | h
  · exact e ▸ vl _ h
  · rw [← e, h]; exact xvok_J
section XP
variable {p : Program} {l : Launch} {e : Env} {R : Room} {s : State} {m : MethodId} {args : Array Value} {below : List Frame} {meth : Method} {c : Code} {H H0 : Heap} {locs : List Loc} {cells slots : Nat} {Q : State → Prop}
variable {cc : ByteArray} {pc : Nat} {ls : Array Slot} {rest : List Value} {A : Nat → Prop} {ad : xA} {M : xM}
theorem xw_aload_n (hx : p.tables.exec = Jvm.exec) (hb : c.code = cc) {k : Fin 4} {w : Value} (hdg : decode cc pc = .ok (.aload_n k, 1)) (hl : ls[k.val]? = some (.val w)) (hw : w = .null ∨ ∃ a, w = .ref a)
    (kk : W p l e R s m args below meth c H locs cells slots Q (F0 m (pc + 1) ls (w :: rest))) : W p l e R s m args below meth c H locs cells slots Q (F0 m pc ls rest) := by
  rcases hw with rfl | ⟨a, rfl⟩
  · exact lv_aload_nN hx hb hdg rfl hl kk
  · exact lv_aload_n hx hb hdg rfl hl kk
theorem xw_aload (hx : p.tables.exec = Jvm.exec) (hb : c.code = cc) {k : Nat} {w : Value} (hdg : decode cc pc = .ok (.aload k, 2)) (hl : ls[k]? = some (.val w)) (hw : w = .null ∨ ∃ a, w = .ref a)
    (kk : W p l e R s m args below meth c H locs cells slots Q (F0 m (pc + 2) ls (w :: rest))) : W p l e R s m args below meth c H locs cells slots Q (F0 m pc ls rest) := by
  rcases hw with rfl | ⟨a, rfl⟩
  · exact lv_aloadN hx hb hdg hl kk
  · exact lv_aload hx hb hdg hl kk
theorem xw_astore_n (hx : p.tables.exec = Jvm.exec) (hb : c.code = cc) {k : Fin 4} {nL : Nat} {w : Value} {lv : List (Nat × Value)} (hdg : decode cc pc = .ok (.astore_n k, 1)) (h : lv_has ls nL lv) (hn : k.val < nL) (hw : w = .null ∨ ∃ a, w = .ref a)
    (kk : ∀ ls' : Array Slot, lv_has ls' nL ((k.val, w) :: lv.filter (fun q => !(q.1 == k.val) && !(q.1 + 1 == k.val && q.2.category == 2))) → W p l e R s m args below meth c H locs cells slots Q (F0 m (pc + 1) ls' rest)) : W p l e R s m args below meth c H locs cells slots Q (F0 m pc ls (w :: rest)) := by
  rcases hw with rfl | ⟨a, rfl⟩
  · exact lv_astore_nN hx hb hdg rfl h hn rfl kk
  · exact lv_astore_n hx hb hdg rfl h hn rfl kk
theorem xw_astore (hx : p.tables.exec = Jvm.exec) (hb : c.code = cc) {k : Nat} {nL : Nat} {w : Value} {lv : List (Nat × Value)} (hdg : decode cc pc = .ok (.astore k, 2)) (h : lv_has ls nL lv) (hn : k < nL) (hw : w = .null ∨ ∃ a, w = .ref a)
    (kk : ∀ ls' : Array Slot, lv_has ls' nL ((k, w) :: lv.filter (fun q => !(q.1 == k) && !(q.1 + 1 == k && q.2.category == 2))) → W p l e R s m args below meth c H locs cells slots Q (F0 m (pc + 2) ls' rest)) : W p l e R s m args below meth c H locs cells slots Q (F0 m pc ls (w :: rest)) := by
  rcases hw with rfl | ⟨a, rfl⟩
  · exact lv_astoreN hx hb hdg h hn rfl kk
  · exact lv_astore hx hb hdg h hn rfl kk
end XP
theorem xlen_small {M : xM} (h : xBt M) {k o : Nat} (hk : k < 60) (ho : o < xc M k) : xlen k o M < 2 ^ 31 := by
  unfold xlen
  split
  · rename_i hd
    exact Nat.lt_of_le_of_lt (h.2 k o hd hk ho) (by decide)
  · have h1 : (List.range 60).all (fun k => Nat.blt (xnth xlens k) 100000) = true := by decide +kernel
    have h2 := List.all_eq_true.mp h1 k (List.mem_range.mpr hk)
    exact Nat.lt_trans (Nat.le_of_ble_eq_true h2) (by decide)
/-- where a thing's fields are read without a look, what they refer to -/
theorem xvok_tgt {L : List (Nat × Nat)} {M : xM} (hg : xgood L M = true) (hc : xclosed L = true) (hT : xWT M) {kx o f t tk tw : Nat} (hk : kx < 60) (hq : (kx, o) ∈ L) (hra : xra kx = false) (hae : xae kx = none) (hd : (xfd kx)[f]? = some (t, tk, tw)) (ht : 2 ≤ t) (ht5 : t < 6) (htk : tk < 60) :
    xf M kx o f ∧ xvok (some L) M (tk, .ref (xtg t tw o (gn M kx o f))) := by
  obtain ⟨ho, h1, -⟩ := xgood_spec hg hq
  have hfl := h1 hra f t tk tw hd ht
  refine ⟨hfl, Or.inr ⟨htk, hT.1 kx o f t tk tw hk ho hd ht hfl, fun L' hL' hs => ?_⟩⟩
  cases hL'
  have h2 := List.all_eq_true.mp hc (kx, o) hq
  simp only [hae] at h2
  have h3 := List.all_eq_true.mp h2 (t, tk, tw) (List.mem_of_getElem? hd)
  have h4 : t = 2 ∨ t = 3 ∨ t = 4 ∨ t = 5 := by omega
  rcases h4 with rfl | rfl | rfl | rfl <;> simp [hs] at h3
  · exact h3
  · exact h3
  · exact h3
theorem xtk_all : (List.range 60).all (fun k => (xfd k).all (fun d => Nat.blt d.1 6 && (Nat.blt d.2.1 60 && !Nat.beq d.2.1 51))) = true := by decide +kernel
theorem xtk_lt {k f t tk tw : Nat} (hk : k < 60) (hd : (xfd k)[f]? = some (t, tk, tw)) : t < 6 ∧ tk < 60 ∧ tk ≠ 51 := by
  have h := List.all_eq_true.mp (List.all_eq_true.mp xtk_all k (List.mem_range.mpr hk)) _ (List.mem_of_getElem? hd)
  rw [Bool.and_eq_true, Bool.and_eq_true] at h
  refine ⟨Nat.le_of_ble_eq_true h.1, Nat.le_of_ble_eq_true h.2.1, fun e => ?_⟩
  have h2 := h.2.2
  simp only at e h2
  rw [e] at h2
  simp at h2
theorem xra_ae : (List.range 60).all (fun k => xra k == (xae k).isSome) = true := by decide +kernel
theorem xae_none {k : Nat} (hk : k < 60) (h : xra k = false) : xae k = none := by
  have h1 := List.all_eq_true.mp xra_ae k (List.mem_range.mpr hk)
  simp only [h] at h1
  cases hz : xae k with
  | none => rfl
  | some v => rw [hz] at h1; simp at h1
theorem xfv_ref {ad : xA} {M : xM} {k o f t tk tw : Nat} (h2 : 2 ≤ t) (hf : xf M k o f) : xfv ad M k o f (t, tk, tw) = .ref (ad tk (xtg t tw o (gn M k o f))) := by
  unfold xfv
  obtain ⟨t, rfl⟩ : ∃ z, t = z + 2 := ⟨t - 2, by omega⟩
  simp only
  rw [if_pos hf]
theorem xnarrow_ref {ty : FieldType} {a : Nat} (h : ty.isReference = true) : narrow ty (.ref a) = .ref a ∧ fits ty (.ref a) = true := by
  cases ty <;> first | exact ⟨rfl, rfl⟩ | (cases h)
theorem xeV_eq {a b : xV} (h : xeV a b = true) : a = b := by
  unfold xeV at h
  split at h
  · rw [Bool.and_eq_true] at h
    rw [Nat.eq_of_beq_eq_true h.1, Nat.eq_of_beq_eq_true h.2]
  · rw [of_decide_eq_true h]
  · cases h
theorem xget0_mem {α : Type} {d : α} : ∀ {l : List α} {i : Nat}, xget0 d l i = d ∨ xget0 d l i ∈ l
  | [], _ => Or.inl rfl
  | a :: r, 0 => Or.inr List.mem_cons_self
  | a :: r, i + 1 => (xget0_mem (l := r) (i := i)).imp id (List.mem_cons_of_mem _)
theorem xsv_spec {y ix : Nat} {v : xV} (h : xsv y ix v = true) : ∃ S ∈ xstt, S.2.2.2 = v ∧ ((∃ q ∈ xgs, q.1 = (xoc y, ix) ∧ xget0 xst0 xstt q.2 = S) ∨ ∃ q ∈ xgsN, q.1 = (xoc y, ix) ∧ xget0 xst0 xstt q.2 = S) := by
  have fin : ∀ q : (Nat × Nat) × Nat, ((Nat.beq q.1.1 (xoc y) && Nat.beq q.1.2 ix) && xeV (xget0 xst0 xstt q.2).2.2.2 v) = true → xget0 xst0 xstt q.2 ∈ xstt ∧ (xget0 xst0 xstt q.2).2.2.2 = v ∧ q.1 = (xoc y, ix) := by
    intro q hq
    rw [Bool.and_eq_true, Bool.and_eq_true] at hq
    refine ⟨?_, xeV_eq hq.2, Prod.ext (Nat.eq_of_beq_eq_true hq.1.1) (Nat.eq_of_beq_eq_true hq.1.2)⟩
    rcases xget0_mem (d := xst0) (l := xstt) (i := q.2) with e | e
    · have h2 := hq.2
      rw [e] at h2
      have e3 := xeV_eq h2
      rw [← e3] at h2
      cases h2
    · exact e
  rcases (Bool.or_eq_true _ _).mp h with h | h
  · obtain ⟨q, hq, he⟩ := List.any_eq_true.mp h
    obtain ⟨a, b, c⟩ := fin q he
    exact ⟨_, a, b, Or.inl ⟨q, hq, c, rfl⟩⟩
  · obtain ⟨q, hq, he⟩ := List.any_eq_true.mp h
    obtain ⟨a, b, c⟩ := fin q he
    exact ⟨_, a, b, Or.inr ⟨q, hq, c, rfl⟩⟩
def xkn (k : Nat) : Nat := match k with
  | 42 => 5
  | 43 => 1
  | 44 => 0
  | 45 => 0
  | 46 => 13
  | 47 => 13
  | 48 => 1
  | 52 => 1
  | _ => 0
theorem xK_le {M : xM} (h : xK M) (k : Nat) : xkn k ≤ xc M k := by
  obtain ⟨a, b, c, d, e, f, g, i⟩ := h
  unfold xkn
  split <;> first | assumption | exact Nat.zero_le _
theorem xstt_all : xstt.all (fun S => match S.2.2.2 with
  | (k, .ref o) => Nat.beq k 51 || Nat.blt o (xkn k)
  | _ => true) = true := by decide +kernel
theorem xstt_live {S : String × String × String × xV} (hS : S ∈ xstt) {k o : Nat} (e : S.2.2.2 = (k, .ref o)) (h51 : k ≠ 51) {M : xM} (hK : xK M) : o < xc M k := by
  have h := List.all_eq_true.mp xstt_all S hS
  rw [e] at h
  rcases (Bool.or_eq_true _ _).mp h with h | h
  · exact absurd (Nat.eq_of_beq_eq_true h) h51
  · exact Nat.lt_of_lt_of_le (Nat.le_of_ble_eq_true h) (xK_le hK k)
theorem xfd_at : (List.range 60).all (fun k => (xfd k).isEmpty || (Nat.beq (xtc k) 0 && ((xae k).isNone && (xat k).isNone))) = true := by decide +kernel
theorem xfd_tc {k f : Nat} {d : Nat × Nat × Nat} (hk : k < 60) (hd : (xfd k)[f]? = some d) : xtc k = 0 ∧ xae k = none ∧ xat k = none := by
  have h := List.all_eq_true.mp xfd_at k (List.mem_range.mpr hk)
  rcases (Bool.or_eq_true _ _).mp h with h | h
  · rw [List.isEmpty_iff] at h
    rw [h] at hd
    simp at hd
  · rw [Bool.and_eq_true, Bool.and_eq_true] at h
    exact ⟨Nat.eq_of_beq_eq_true h.1, by simpa using h.2.1, by simpa using h.2.2⟩
theorem xrest_fld {M M' : xM} {k o f : Nat} {d : Nat × Nat × Nat} (hk : k < 60) (hd : (xfd k)[f]? = some d) (hM : xch M M' k o f) (hT : xWT M) (hB : xBt M) (hK : xK M) (hnew : 2 ≤ d.1 → xf M' k o f → xtg d.1 d.2.2 o (gn M' k o f) < xc M d.2.1) : xWT M' ∧ xBt M' ∧ xK M' := by
  obtain ⟨htc, hae, -⟩ := xfd_tc hk hd
  refine ⟨⟨fun k' o' f' t tk tw hk' ho' hd' ht hf => ?_, fun k' o' tk tw j hk' ho' hae' hj hf => ?_⟩, ⟨fun k' o' j ht ho' => ?_, fun k' o' hy hk' ho' => ?_⟩, ?_⟩
  · rw [hM.1] at ho' ⊢
    by_cases e : k' = k ∧ o' = o ∧ f' = f
    · obtain ⟨rfl, rfl, rfl⟩ := e
      obtain rfl : (t, tk, tw) = d := Option.some.inj (hd'.symm.trans hd)
      exact hnew ht hf
    · obtain ⟨q1, q2⟩ := hM.2.1 k' o' f' hk' e
      have e3 : gn M' k' o' f' = gn M k' o' f' := by unfold gn; rw [q1]
      rw [e3]
      exact hT.1 k' o' f' t tk tw hk' ho' hd' ht (by show gn M (200 + k') o' f' = 1; rw [← q2]; exact hf)
  · rw [hM.1] at ho' ⊢
    have hne : k' ≠ k := fun e => by rw [e, hae] at hae'; cases hae'
    obtain ⟨-, q2⟩ := hM.2.1 k' o' j hk' (fun q => hne q.1)
    exact hT.2 k' o' tk tw j hk' ho' hae' hj (by show gn M (200 + k') o' j = 1; rw [← q2]; exact hf)
  · rw [hM.1] at ho'
    have hne : k' ≠ k := fun e => by rw [e, htc] at ht; cases ht
    obtain ⟨q1, -⟩ := hM.2.1 k' o' j (xtc_lt k' (by rw [ht]; decide)) (fun q => hne q.1)
    have e3 : gi M' k' o' j = gi M k' o' j := by unfold gi; rw [q1]
    rw [e3]
    exact hB.1 k' o' j ht ho'
  · rw [hM.1] at ho'
    rw [hM.2.2 k' o' hk']
    exact hB.2 k' o' hy hk' ho'
  · obtain ⟨a, b, c, e1, e2, e3, e4, e5⟩ := hK
    exact ⟨by rw [hM.1]; exact a, by rw [hM.1]; exact b, by rw [hM.1]; exact c, by rw [hM.1]; exact e1, by rw [hM.1]; exact e2, by rw [hM.1]; exact e3, by rw [hM.1]; exact e4, by rw [hM.1]; exact e5⟩
set_option maxHeartbeats 4000000 in
theorem xpure_W {p : Program} {l : Launch} {e : Env} {R : Room} {s : State} {m : MethodId} {args : Array Value} {below : List Frame} {meth : Method} {c : Code} {H : Heap} {locs : List Loc} {cells slots : Nat} {Q : State → Prop} {A : Nat → Prop} {ad : xA}
    {y pc nx : Nat} {i : Instr} {aux : List Nat} {kc : Int32} {C : List xE} {ls st ls' st' : List xV} {M M' : xM} {la : Array Slot} {rg : Option (List (Nat × Nat))}
    (F : xFx y p l s m args meth c) (Z : xCs A ad s) (I : xInv s A ad M s.heap H locs) (hl : xlr ad (xml y) la ls) (vl : ∀ v ∈ ls, xvok rg M v) (vs : ∀ v ∈ st, xvok rg M v) (hr : xrok rg M) (hrg : xreg y = false → ∃ L, rg = some L)
    (hok : xok y C (pc, i, aux, kc) nx = true) (h : xpure i aux kc ls st M = some (ls', st', M'))
    (kk : ∀ (H1 : Heap) (locs1 : List Loc) (la1 : Array Slot), xInv s A ad M' s.heap H1 locs1 → xlr ad (xml y) la1 ls' → (∀ v ∈ ls', xvok rg M' v) → (∀ v ∈ st', xvok rg M' v) → W p l e R s m args below meth c H1 locs1 cells slots Q (F0 m nx la1 (st'.map (xenc ad)))) :
    W p l e R s m args below meth c H locs cells slots Q (F0 m pc la (st.map (xenc ad))) := by
  obtain ⟨hx, hb, hml, hown, hts, hlk, hrt, hnm, htr⟩ := F
  cases i with
  | iadd =>
    simp only [xpure] at h
    split at h
    · cases h
      obtain ⟨hd, rfl, hX⟩ := xok_dec (e := false) hok rfl
      exact lv_iadd hx hb hd (kk H locs la I hl vl (xpush trivial (xpop (xpop vs))))
    · cases h
  | isub =>
    simp only [xpure] at h
    split at h
    · cases h
      obtain ⟨hd, rfl, hX⟩ := xok_dec (e := false) hok rfl
      exact lv_isub hx hb hd (kk H locs la I hl vl (xpush trivial (xpop (xpop vs))))
    · cases h
  | imul =>
    simp only [xpure] at h
    split at h
    · cases h
      obtain ⟨hd, rfl, hX⟩ := xok_dec (e := false) hok rfl
      exact lv_imul hx hb hd (kk H locs la I hl vl (xpush trivial (xpop (xpop vs))))
    · cases h
  | iand =>
    simp only [xpure] at h
    split at h
    · cases h
      obtain ⟨hd, rfl, hX⟩ := xok_dec (e := false) hok rfl
      exact lv_iand hx hb hd (kk H locs la I hl vl (xpush trivial (xpop (xpop vs))))
    · cases h
  | ior =>
    simp only [xpure] at h
    split at h
    · cases h
      obtain ⟨hd, rfl, hX⟩ := xok_dec (e := false) hok rfl
      exact lv_ior hx hb hd (kk H locs la I hl vl (xpush trivial (xpop (xpop vs))))
    · cases h
  | ixor =>
    simp only [xpure] at h
    split at h
    · cases h
      obtain ⟨hd, rfl, hX⟩ := xok_dec (e := false) hok rfl
      exact lv_ixor hx hb hd (kk H locs la I hl vl (xpush trivial (xpop (xpop vs))))
    · cases h
  | ishl =>
    simp only [xpure] at h
    split at h
    · cases h
      obtain ⟨hd, rfl, hX⟩ := xok_dec (e := false) hok rfl
      exact lv_ishl hx hb hd (kk H locs la I hl vl (xpush trivial (xpop (xpop vs))))
    · cases h
  | ishr =>
    simp only [xpure] at h
    split at h
    · cases h
      obtain ⟨hd, rfl, hX⟩ := xok_dec (e := false) hok rfl
      exact lv_ishr hx hb hd (kk H locs la I hl vl (xpush trivial (xpop (xpop vs))))
    · cases h
  | land =>
    simp only [xpure] at h
    split at h
    · cases h
      obtain ⟨hd, rfl, hX⟩ := xok_dec (e := false) hok rfl
      exact lv_land hx hb hd (kk H locs la I hl vl (xpush trivial (xpop (xpop vs))))
    · cases h
  | lor =>
    simp only [xpure] at h
    split at h
    · cases h
      obtain ⟨hd, rfl, hX⟩ := xok_dec (e := false) hok rfl
      exact lv_lor hx hb hd (kk H locs la I hl vl (xpush trivial (xpop (xpop vs))))
    · cases h
  | ineg =>
    simp only [xpure] at h
    split at h
    · cases h
      obtain ⟨hd, rfl, hX⟩ := xok_dec (e := false) hok rfl
      exact lv_ineg hx hb hd (kk H locs la I hl vl (xpush trivial (xpop vs)))
    · cases h
  | iushr =>
    simp only [xpure] at h
    split at h
    · cases h
      obtain ⟨hd, rfl, hX⟩ := xok_dec (e := false) hok rfl
      exact lv_iushr hx hb hd rfl (kk H locs la I hl vl (xpush trivial (xpop (xpop vs))))
    · cases h
  | lshl =>
    simp only [xpure] at h
    split at h
    · cases h
      obtain ⟨hd, rfl, hX⟩ := xok_dec (e := false) hok rfl
      exact lv_lshl hx hb hd rfl (kk H locs la I hl vl (xpush trivial (xpop (xpop vs))))
    · cases h
  | lshr =>
    simp only [xpure] at h
    split at h
    · cases h
      obtain ⟨hd, rfl, hX⟩ := xok_dec (e := false) hok rfl
      exact lv_lshr hx hb hd rfl (kk H locs la I hl vl (xpush trivial (xpop (xpop vs))))
    · cases h
  | lcmp =>
    simp only [xpure] at h
    split at h
    · cases h
      obtain ⟨hd, rfl, hX⟩ := xok_dec (e := false) hok rfl
      exact W.lcmp hx hb hd (kk H locs la I hl vl (xpush trivial (xpop (xpop vs))))
    · cases h
  | i2l =>
    simp only [xpure] at h
    split at h
    · cases h
      obtain ⟨hd, rfl, hX⟩ := xok_dec (e := false) hok rfl
      exact lv_i2l hx hb hd rfl (kk H locs la I hl vl (xpush trivial (xpop vs)))
    · cases h
  | l2i =>
    simp only [xpure] at h
    split at h
    · cases h
      obtain ⟨hd, rfl, hX⟩ := xok_dec (e := false) hok rfl
      exact lv_l2i hx hb hd rfl (kk H locs la I hl vl (xpush trivial (xpop vs)))
    · cases h
  | i2b =>
    simp only [xpure] at h
    split at h
    · cases h
      obtain ⟨hd, rfl, hX⟩ := xok_dec (e := false) hok rfl
      exact lv_i2b hx hb hd rfl (kk H locs la I hl vl (xpush trivial (xpop vs)))
    · cases h
  | i2c =>
    simp only [xpure] at h
    split at h
    · cases h
      obtain ⟨hd, rfl, hX⟩ := xok_dec (e := false) hok rfl
      exact lv_i2c hx hb hd rfl (kk H locs la I hl vl (xpush trivial (xpop vs)))
    · cases h
  | i2f =>
    simp only [xpure] at h
    split at h
    · cases h
      obtain ⟨hd, rfl, hX⟩ := xok_dec (e := false) hok rfl
      exact lv_i2f hx hb hd (kk H locs la I hl vl (xpush trivial (xpop vs)))
    · cases h
  | i2d =>
    simp only [xpure] at h
    split at h
    · cases h
      obtain ⟨hd, rfl, hX⟩ := xok_dec (e := false) hok rfl
      exact lv_i2d hx hb hd (kk H locs la I hl vl (xpush trivial (xpop vs)))
    · cases h
  | fcmp op =>
    simp only [xpure] at h
    split at h
    · cases h
      obtain ⟨hd, rfl, hX⟩ := xok_dec (e := false) hok rfl
      exact lv_fcmp hx hb hd (kk H locs la I hl vl (xpush trivial (xpop (xpop vs))))
    · cases h
  | dcmp op =>
    simp only [xpure] at h
    split at h
    · cases h
      obtain ⟨hd, rfl, hX⟩ := xok_dec (e := false) hok rfl
      exact lv_dcmp hx hb hd (kk H locs la I hl vl (xpush trivial (xpop (xpop vs))))
    · cases h
  | nop =>
    simp only [xpure] at h
    cases h
    obtain rfl : nx = pc := Nat.eq_of_beq_eq_true hok
    exact kk H locs la I (hl.kill _) (xkill_all xvok_J _ vl) vs
  | iconst n =>
    simp only [xpure] at h
    cases h
    obtain ⟨hd, rfl, hX⟩ := xok_dec (e := false) hok rfl
    exact lv_iconst hx hb hd (of_decide_eq_true hX) (kk H locs la I hl vl (xpush trivial vs))
  | bipush n =>
    simp only [xpure] at h
    cases h
    obtain ⟨hd, rfl, hX⟩ := xok_dec (e := false) hok rfl
    exact lv_bipush hx hb hd (of_decide_eq_true hX) (kk H locs la I hl vl (xpush trivial vs))
  | sipush n =>
    simp only [xpure] at h
    cases h
    obtain ⟨hd, rfl, hX⟩ := xok_dec (e := false) hok rfl
    exact lv_sipush hx hb hd (of_decide_eq_true hX) (kk H locs la I hl vl (xpush trivial vs))
  | lconst n =>
    simp only [xpure] at h
    cases h
    obtain ⟨hd, rfl, hX⟩ := xok_dec (e := false) hok rfl
    exact lv_lconst hx hb hd rfl (kk H locs la I hl vl (xpush trivial vs))
  | fconst n =>
    simp only [xpure] at h
    cases h
    obtain ⟨hd, rfl, hX⟩ := xok_dec (e := false) hok rfl
    obtain rfl : n = 0 := of_decide_eq_true hX
    exact lv_fconst0 hx hb hd (kk H locs la I hl vl (xpush trivial vs))
  | dconst n =>
    simp only [xpure] at h
    cases h
    obtain ⟨hd, rfl, hX⟩ := xok_dec (e := false) hok rfl
    obtain rfl : n = 0 := of_decide_eq_true hX
    exact lv_dconst0 hx hb hd (kk H locs la I hl vl (xpush trivial vs))
  | aconst_null =>
    simp only [xpure] at h
    cases h
    obtain ⟨hd, rfl, hX⟩ := xok_dec (e := false) hok rfl
    exact lv_null hx hb hd (kk H locs la I hl vl (xpush trivial vs))
  | iload n =>
    simp only [xpure] at h
    split at h
    · rename_i hg
      cases h
      obtain ⟨hd, rfl, hX⟩ := xok_dec (e := false) hok rfl
      exact lv_iload hx hb hd (hl.at hg rfl) (kk H locs la I hl vl (xpush trivial vs))
    · cases h
  | lload n =>
    simp only [xpure] at h
    split at h
    · rename_i hg
      cases h
      obtain ⟨hd, rfl, hX⟩ := xok_dec (e := false) hok rfl
      exact lv_lload hx hb hd (hl.at hg rfl) (kk H locs la I hl vl (xpush trivial vs))
    · cases h
  | fload n =>
    simp only [xpure] at h
    split at h
    · rename_i hg
      cases h
      obtain ⟨hd, rfl, hX⟩ := xok_dec (e := false) hok rfl
      exact lv_fload hx hb hd (hl.at hg rfl) (kk H locs la I hl vl (xpush trivial vs))
    · cases h
  | dload n =>
    simp only [xpure] at h
    split at h
    · rename_i hg
      cases h
      obtain ⟨hd, rfl, hX⟩ := xok_dec (e := false) hok rfl
      exact lv_dload hx hb hd (hl.at hg rfl) (kk H locs la I hl vl (xpush trivial vs))
    · cases h
  | aload n =>
    simp only [xpure] at h
    split at h
    · rename_i hg
      cases h
      obtain ⟨hd, rfl, hX⟩ := xok_dec (e := false) hok rfl
      exact xw_aload hx hb hd (hl.at hg rfl) (xenc_rn _ _ _) (kk H locs la I hl vl (xpush (xvok_at vl hg) vs))
    · rename_i hg
      cases h
      obtain ⟨hd, rfl, hX⟩ := xok_dec (e := false) hok rfl
      exact xw_aload hx hb hd (hl.at hg rfl) (Or.inl rfl) (kk H locs la I hl vl (xpush trivial vs))
    · cases h
  | istore n =>
    simp only [xpure] at h
    split at h
    · cases h
      obtain ⟨hd, rfl, hX⟩ := xok_dec (e := false) hok rfl
      have hn := Nat.le_of_ble_eq_true hX
      exact lv_istore hx hb hd hl.2 hn rfl (fun la1 h1 => kk H locs la1 I (hl.store1 hn h1) (xsw1_all vl trivial xvok_J) (xpop vs))
    · cases h
  | fstore n =>
    simp only [xpure] at h
    split at h
    · cases h
      obtain ⟨hd, rfl, hX⟩ := xok_dec (e := false) hok rfl
      have hn := Nat.le_of_ble_eq_true hX
      exact lv_fstore hx hb hd hl.2 hn rfl (fun la1 h1 => kk H locs la1 I (hl.store1 hn h1) (xsw1_all vl trivial xvok_J) (xpop vs))
    · cases h
  | astore n =>
    simp only [xpure] at h
    split at h
    · cases h
      obtain ⟨hd, rfl, hX⟩ := xok_dec (e := false) hok rfl
      have hn := Nat.le_of_ble_eq_true hX
      exact xw_astore hx hb hd hl.2 hn (xenc_rn _ _ _) (fun la1 h1 => kk H locs la1 I (hl.store1 hn h1) (xsw1_all vl (vs _ List.mem_cons_self) xvok_J) (xpop vs))
    · cases h
      obtain ⟨hd, rfl, hX⟩ := xok_dec (e := false) hok rfl
      have hn := Nat.le_of_ble_eq_true hX
      exact xw_astore hx hb hd hl.2 hn (Or.inl rfl) (fun la1 h1 => kk H locs la1 I (hl.store1 hn h1) (xsw1_all vl trivial xvok_J) (xpop vs))
    · cases h
  | lstore n =>
    simp only [xpure] at h
    split at h
    · cases h
      obtain ⟨hd, rfl, hX⟩ := xok_dec (e := false) hok rfl
      have hn := Nat.le_of_ble_eq_true hX
      exact lv_lstore hx hb hd hl.2 hn rfl (fun la1 h1 => kk H locs la1 I (hl.store2 hn h1) (xs_all (xsw1_all vl trivial xvok_J) xvok_J) (xpop vs))
    · cases h
  | dstore n =>
    simp only [xpure] at h
    split at h
    · cases h
      obtain ⟨hd, rfl, hX⟩ := xok_dec (e := false) hok rfl
      have hn := Nat.le_of_ble_eq_true hX
      exact lv_dstore hx hb hd hl.2 hn rfl (fun la1 h1 => kk H locs la1 I (hl.store2 hn h1) (xs_all (xsw1_all vl trivial xvok_J) xvok_J) (xpop vs))
    · cases h
  | iload_n n =>
    simp only [xpure] at h
    split at h
    · rename_i hg
      cases h
      obtain ⟨hd, rfl, hX⟩ := xok_dec (e := false) hok rfl
      exact lv_iload_n hx hb hd rfl (hl.at hg rfl) (kk H locs la I hl vl (xpush trivial vs))
    · cases h
  | lload_n n =>
    simp only [xpure] at h
    split at h
    · rename_i hg
      cases h
      obtain ⟨hd, rfl, hX⟩ := xok_dec (e := false) hok rfl
      exact lv_lload_n hx hb hd rfl (hl.at hg rfl) (kk H locs la I hl vl (xpush trivial vs))
    · cases h
  | fload_n n =>
    simp only [xpure] at h
    split at h
    · rename_i hg
      cases h
      obtain ⟨hd, rfl, hX⟩ := xok_dec (e := false) hok rfl
      exact lv_fload_n hx hb hd rfl (hl.at hg rfl) (kk H locs la I hl vl (xpush trivial vs))
    · cases h
  | dload_n n =>
    simp only [xpure] at h
    split at h
    · rename_i hg
      cases h
      obtain ⟨hd, rfl, hX⟩ := xok_dec (e := false) hok rfl
      exact lv_dload_n hx hb hd rfl (hl.at hg rfl) (kk H locs la I hl vl (xpush trivial vs))
    · cases h
  | aload_n n =>
    simp only [xpure] at h
    split at h
    · rename_i hg
      cases h
      obtain ⟨hd, rfl, hX⟩ := xok_dec (e := false) hok rfl
      exact xw_aload_n hx hb hd (hl.at hg rfl) (xenc_rn _ _ _) (kk H locs la I hl vl (xpush (xvok_at vl hg) vs))
    · rename_i hg
      cases h
      obtain ⟨hd, rfl, hX⟩ := xok_dec (e := false) hok rfl
      exact xw_aload_n hx hb hd (hl.at hg rfl) (Or.inl rfl) (kk H locs la I hl vl (xpush trivial vs))
    · cases h
  | istore_n n =>
    simp only [xpure] at h
    split at h
    · cases h
      obtain ⟨hd, rfl, hX⟩ := xok_dec (e := false) hok rfl
      have hn := Nat.le_of_ble_eq_true hX
      exact lv_istore_n hx hb hd rfl hl.2 hn rfl (fun la1 h1 => kk H locs la1 I (hl.store1 hn h1) (xsw1_all vl trivial xvok_J) (xpop vs))
    · cases h
  | fstore_n n =>
    simp only [xpure] at h
    split at h
    · cases h
      obtain ⟨hd, rfl, hX⟩ := xok_dec (e := false) hok rfl
      have hn := Nat.le_of_ble_eq_true hX
      exact lv_fstore_n hx hb hd rfl hl.2 hn rfl (fun la1 h1 => kk H locs la1 I (hl.store1 hn h1) (xsw1_all vl trivial xvok_J) (xpop vs))
    · cases h
  | astore_n n =>
    simp only [xpure] at h
    split at h
    · cases h
      obtain ⟨hd, rfl, hX⟩ := xok_dec (e := false) hok rfl
      have hn := Nat.le_of_ble_eq_true hX
      exact xw_astore_n hx hb hd hl.2 hn (xenc_rn _ _ _) (fun la1 h1 => kk H locs la1 I (hl.store1 hn h1) (xsw1_all vl (vs _ List.mem_cons_self) xvok_J) (xpop vs))
    · cases h
      obtain ⟨hd, rfl, hX⟩ := xok_dec (e := false) hok rfl
      have hn := Nat.le_of_ble_eq_true hX
      exact xw_astore_n hx hb hd hl.2 hn (Or.inl rfl) (fun la1 h1 => kk H locs la1 I (hl.store1 hn h1) (xsw1_all vl trivial xvok_J) (xpop vs))
    · cases h
  | lstore_n n =>
    simp only [xpure] at h
    split at h
    · cases h
      obtain ⟨hd, rfl, hX⟩ := xok_dec (e := false) hok rfl
      have hn := Nat.le_of_ble_eq_true hX
      exact lv_lstore_n hx hb hd rfl hl.2 hn rfl (fun la1 h1 => kk H locs la1 I (hl.store2 hn h1) (xs_all (xsw1_all vl trivial xvok_J) xvok_J) (xpop vs))
    · cases h
  | dstore_n n =>
    simp only [xpure] at h
    split at h
    · cases h
      obtain ⟨hd, rfl, hX⟩ := xok_dec (e := false) hok rfl
      have hn := Nat.le_of_ble_eq_true hX
      exact lv_dstore_n hx hb hd rfl hl.2 hn rfl (fun la1 h1 => kk H locs la1 I (hl.store2 hn h1) (xs_all (xsw1_all vl trivial xvok_J) xvok_J) (xpop vs))
    · cases h
  | iinc n d =>
    simp only [xpure] at h
    split at h
    · rename_i k x hg
      cases h
      obtain ⟨hd, rfl, hX⟩ := xok_dec (e := false) hok rfl
      replace hX : (Nat.blt n (xml y) && decide (Int32.ofInt d = kc)) = true := hX
      rw [Bool.and_eq_true] at hX
      have hn := Nat.le_of_ble_eq_true hX.1
      have hmem : (n, Value.int x) ∈ xlv ad ls 0 := (xlv_mem ls 0).mpr ⟨n, by rw [hl.1]; exact hn, by simp, by rw [hg]; rfl, by rw [hg]; rfl⟩
      obtain ⟨k9, hk9⟩ := List.getElem?_of_mem hmem
      exact lv_iinc hx hb hd hl.2 hk9 (by rw [of_decide_eq_true hX.2]) hn rfl (fun la1 h1 => kk H locs la1 I (hl.store1 hn h1) (xsw1_all vl trivial xvok_J) vs)
    · cases h
  | pop =>
    simp only [xpure] at h
    split at h
    · split at h
      · rename_i hc
        cases h
        obtain ⟨hd, rfl, hX⟩ := xok_dec (e := false) hok rfl
        exact lv_pop hx hb hd (xcat1_cat hc) (kk H locs la I hl vl (xpop vs))
      · cases h
    · cases h
  | dup =>
    simp only [xpure] at h
    split at h
    · split at h
      · rename_i hc
        cases h
        obtain ⟨hd, rfl, hX⟩ := xok_dec (e := false) hok rfl
        exact lv_dup hx hb hd (xcat1_cat hc) (kk H locs la I hl vl (xpush (vs _ List.mem_cons_self) vs))
      · cases h
    · cases h
  | dup_x1 =>
    simp only [xpure] at h
    split at h
    · split at h
      · rename_i hc
        cases h
        obtain ⟨hd, rfl, hX⟩ := xok_dec (e := false) hok rfl
        exact lv_dup_x1 hx hb hd (xcat1_cat (and_l hc)) (xcat1_cat (and_r hc)) (kk H locs la I hl vl (xpush (vs _ List.mem_cons_self) (xpush (vs _ (List.mem_cons_of_mem _ List.mem_cons_self)) (xpush (vs _ List.mem_cons_self) (xpop (xpop vs))))))
      · cases h
    · cases h
  | dup2 =>
    simp only [xpure] at h
    split at h
    · split at h
      · rename_i hc
        cases h
        obtain ⟨hd, rfl, hX⟩ := xok_dec (e := false) hok rfl
        exact lv_dup2_11 hx hb hd (xcat1_cat (and_l hc)) (xcat1_cat (and_r hc)) (kk H locs la I hl vl (xpush (vs _ List.mem_cons_self) (xpush (vs _ (List.mem_cons_of_mem _ List.mem_cons_self)) vs)))
      · cases h
    · cases h
  | ldc ix =>
    simp only [xpure] at h
    split at h
    · cases h
      obtain ⟨hd, rfl, hX⟩ := xok_dec (e := false) hok rfl
      exact lv_ldc hx hb hown (hts _ (xldi_ok _ (List.contains_iff_mem.mp hX))) hd (kk H locs la I hl vl (xpush trivial vs))
    · rename_i k sid r
      cases h
      obtain ⟨hd, rfl, hX⟩ := xok_dec (e := false) hok rfl
      simp only [xokX] at hX
      split at hX
      · rename_i heq
        cases heq
      · rename_i sid' heq
        cases heq
        rw [Bool.and_eq_true] at hX
        have h1 := Z.1 _ (List.contains_iff_mem.mp hX.1)
        refine va_ldcS hx hb hown h1 hd ?_
        have h2 := kk H locs la I hl vl (xpush (Or.inr ⟨by decide, Nat.lt_of_lt_of_le (Nat.le_of_ble_eq_true hX.2) I.2.2.2.2.1.2.2.2.2.1, fun L hL hs => by cases hs⟩) vs)
        exact h2
      · rename_i heq
        cases heq
      · cases hX
    · cases h
  | ldc_w ix =>
    simp only [xpure] at h
    split at h
    · cases h
      obtain ⟨hd, rfl, hX⟩ := xok_dec (e := false) hok rfl
      exact lv_ldcw hx hb hown (hts _ (xldi_ok _ (List.contains_iff_mem.mp hX))) hd (kk H locs la I hl vl (xpush trivial vs))
    · rename_i k sid r
      cases h
      obtain ⟨hd, rfl, hX⟩ := xok_dec (e := false) hok rfl
      simp [xokX] at hX
    · cases h
  | ldc2_w ix =>
    simp only [xpure] at h
    split at h
    · cases h
      obtain ⟨hd, rfl, hX⟩ := xok_dec (e := false) hok rfl
      exact lv_ldc2 hx hb hown (hts _ (xldl_ok ((xoc y, ix), _) (List.contains_iff_mem.mp hX))) hd (kk H locs la I hl vl (xpush trivial vs))
    · cases h
  | arraylength =>
    simp only [xpure] at h
    split at h
    · rename_i k o st
      split at h
      · cases h
      · rename_i hz
        cases h
        obtain ⟨hd, rfl, hX⟩ := xok_dec (e := false) hok rfl
        have ht : xtc k ≠ 0 := fun e => by rw [e] at hz; cases hz
        have hk := xtc_lt k ht
        have h51 : k ≠ 51 := fun e => ht (by rw [e]; rfl)
        have ho : o < xc M k := by
          rcases vs _ List.mem_cons_self with q | q
          · exact absurd q h51
          · exact q.2.1
        rw [List.map_cons, xenc_ref h51]
        exact xw_alen hx hb I.1 ho ht (xlen_small I.2.2.2.1 hk ho) hd (kk H locs la I hl vl (xpush trivial (xpop vs)))
    · cases h
  | getstatic ix =>
    simp only [xpure] at h
    have key : ∀ v : xV, xsv y ix v = true → decode (xCode y) pc = .ok (.getstatic ix, 3) → W p l e R s m args below meth c H locs cells slots Q (F0 m (pc + 3) la (xenc ad v :: st.map (xenc ad))) → W p l e R s m args below meth c H locs cells slots Q (F0 m pc la (st.map (xenc ad))) := by
      intro v hv hd k9
      obtain ⟨S, hS, rfl, ⟨q, hq, e1, e2⟩ | ⟨q, hq, e1, e2⟩⟩ := xsv_spec hv
      · have h1 := hts _ (xgs_ok q hq)
        rw [e1, e2] at h1
        exact va_gets hx hb (Z.2.1 S hS) I.2.2.2.2.2 hown h1 (fun _ h9 => h9) hd k9
      · have h1 := Z.2.2.1 q hq
        rw [e1, e2] at h1
        exact va_getsN hx hb (Z.2.1 S hS) I.2.2.2.2.2 hown (va_tabs rfl rfl h1) (fun _ h9 => h9) hd k9
    split at h
    · cases h
      obtain ⟨hd, rfl, hX⟩ := xok_dec (e := false) hok rfl
      exact key (0, .int kc) hX hd (kk H locs la I hl vl (xpush trivial vs))
    · rename_i k o
      cases h
      obtain ⟨hd, rfl, hX⟩ := xok_dec (e := false) hok rfl
      replace hX : (xsv y ix (k, .ref o) && ((Nat.beq k 51 && Nat.beq o 0) || (Nat.blt k 60 && !xstrk k))) = true := hX
      rw [Bool.and_eq_true] at hX
      refine key (k, .ref o) hX.1 hd (kk H locs la I hl vl (xpush ?_ vs))
      rcases (Bool.or_eq_true _ _).mp hX.2 with h9 | h9
      · rw [Bool.and_eq_true] at h9
        exact Or.inl (Nat.eq_of_beq_eq_true h9.1)
      · rw [Bool.and_eq_true] at h9
        by_cases h51 : k = 51
        · exact Or.inl h51
        · obtain ⟨S, hS, e9, -⟩ := xsv_spec hX.1
          exact Or.inr ⟨Nat.le_of_ble_eq_true h9.1, xstt_live hS e9 h51 I.2.2.2.2.1, fun L hL hs => by rw [hs] at h9; cases h9.2⟩
    · cases h
  | getfield ix =>
    simp only [xpure] at h
    split at h
    · rename_i k o st kx f tag tk tw
      split at h
      · rename_i hkk
        subst hkk
        split at h
        · rename_i v hv
          cases h
          obtain ⟨hd, rfl, hX⟩ := xok_dec (e := false) hok rfl
          simp only [xokX, Bool.and_eq_true] at hX
          obtain ⟨hX1, hX2, hX3, hX4⟩ := hX
          have hk := Nat.le_of_ble_eq_true hX2
          have hfd := of_decide_eq_true hX3
          have h51 : k ≠ 51 := fun e => by rw [e] at hfd; cases hfd
          have hvo := vs _ List.mem_cons_self
          have ho : o < xc M k := by
            rcases hvo with q | q
            · exact absurd q h51
            · exact q.2.1
          rw [List.map_cons, xenc_ref h51]
          have fin : xenc ad v = xfv ad M k o f (tag % 10, tk, tw) ∧ xvok rg M v := by
            have main : ∀ t, 2 ≤ t → t < 6 → tag = t → v = (tk, .ref (xtg t tw o (gn M k o f))) → xenc ad v = xfv ad M k o f (tag % 10, tk, tw) ∧ xvok rg M v := by
              intro t h2 h6 e ev
              subst e
              have e10 : tag % 10 = tag := Nat.mod_eq_of_lt (by omega)
              rw [e10] at hfd ⊢
              have h4 : (Nat.blt tag 6 && (!xreg y && (xstrk k && !xra k))) = true := by
                have : tag = 2 ∨ tag = 3 ∨ tag = 4 ∨ tag = 5 := by omega
                rcases this with rfl | rfl | rfl | rfl <;> exact hX4
              rw [Bool.and_eq_true, Bool.and_eq_true, Bool.and_eq_true] at h4
              obtain ⟨L, rfl⟩ := hrg (by simpa using h4.2.1)
              have hra : xra k = false := by simpa using h4.2.2.2
              have hmem : (k, o) ∈ L := by
                rcases hvo with q | q
                · exact absurd q h51
                · exact q.2.2 L rfl h4.2.2.1
              obtain ⟨hg, hc⟩ := hr L rfl
              obtain ⟨-, htk, htk51⟩ := xtk_lt hk hfd
              obtain ⟨hfl, hok2⟩ := xvok_tgt hg hc I.2.2.1 hk hmem hra (xae_none hk hra) hfd h2 h6 htk
              subst ev
              exact ⟨by rw [xenc_ref htk51, xfv_ref h2 hfl], hok2⟩
            unfold xget at hv
            split at hv
            · cases hv; exact ⟨rfl, trivial⟩
            · cases hv; exact ⟨rfl, trivial⟩
            · cases hv; exact main 2 (by decide) (by decide) rfl rfl
            · cases hv; exact main 3 (by decide) (by decide) rfl rfl
            · cases hv; exact main 4 (by decide) (by decide) rfl rfl
            · cases hv; exact main 5 (by decide) (by decide) rfl rfl
            · cases hv
          refine xw_get hx hb hts hown (List.contains_iff_mem.mp hX1) I.1 hk ho hfd hd ?_
          rw [← fin.1]
          exact kk H locs la I hl vl (xpush fin.2 (xpop vs))
        · cases h
      · cases h
    · cases h
  | putfield ix =>
    simp only [xpure] at h
    split at h
    · rename_i v k o st kx f tag tk tw
      split at h
      · rename_i hkk
        subst hkk
        split at h
        · rename_i M1 hv
          cases h
          obtain ⟨hd, rfl, hX⟩ := xok_dec (e := false) hok rfl
          simp only [xokX, Bool.and_eq_true] at hX
          obtain ⟨hX1, hX2, hX3, hX4, hX5, hX6⟩ := hX
          have hk := Nat.le_of_ble_eq_true hX2
          have hfd := of_decide_eq_true hX3
          have h51 : k ≠ 51 := fun e => by rw [e] at hfd; cases hfd
          have h43 : k ≠ 43 := fun e => by rw [e] at hX4; cases hX4
          have hvo := vs _ (List.mem_cons_of_mem _ List.mem_cons_self)
          have ho : o < xc M k := by
            rcases hvo with q | q
            · exact absurd q h51
            · exact q.2.1
          have hfin : (xTf k f).2.2.2 = false ∨ ((xTf k f).1 = xcn (xoc y) ∧ meth.name = "<init>") := by
            rcases (Bool.or_eq_true _ _).mp hX5 with h9 | h9
            · exact Or.inl (by simpa using h9)
            · rw [Bool.and_eq_true, beq_iff_eq, beq_iff_eq] at h9
              exact Or.inr ⟨h9.1, hnm h9.2⟩
          unfold xput at hv
          split at hv
          · rename_i hg
            have hc : xcst k o = false := by unfold xcst; rw [and_r hg]; rfl
            rw [List.map_cons, List.map_cons, xenc_ref h51]
            split at hv
            · rename_i k2 x
              cases hv
              have hM : xch M (xst M k o f (.int x)) k o f := xch_st hk
              refine xw_put hx hb hts hown (List.contains_iff_mem.mp hX1) I.1 I.2.1 I.2.2.2.2.2 hk h43 ho hc hfd hfin hM (v := .int x) (by show Value.int (gi _ k o f) = _; unfold gi; rw [xst_eq]) (fun ty hty => by rw [beq_iff_eq.mp hX6] at hty; cases hty; exact ⟨rfl, rfl⟩) hd (fun H1 locs1 w1 w2 w3 => ?_)
              have hr3 := xrest_fld hk hfd hM I.2.2.1 I.2.2.2.1 I.2.2.2.2.1 (fun h9 => absurd (show 2 ≤ 0 from h9) (by decide))
              exact kk H1 locs1 la ⟨w1, w2, hr3.1, hr3.2.1, hr3.2.2, w3⟩ hl (fun v hv => (vl v hv).mon (xmon_st hX2)) (fun v hv => (xpop (xpop vs) v hv).mon (xmon_st hX2))
            · rename_i k2 x
              cases hv
              have hM : xch M (xst M k o f (.long x)) k o f := xch_st hk
              refine xw_put hx hb hts hown (List.contains_iff_mem.mp hX1) I.1 I.2.1 I.2.2.2.2.2 hk h43 ho hc hfd hfin hM (v := .long x) (by show Value.long (gl _ k o f) = _; unfold gl; rw [xst_eq]) (fun ty hty => by rw [beq_iff_eq.mp hX6] at hty; cases hty; exact ⟨rfl, rfl⟩) hd (fun H1 locs1 w1 w2 w3 => ?_)
              have hr3 := xrest_fld hk hfd hM I.2.2.1 I.2.2.2.1 I.2.2.2.2.1 (fun h9 => absurd (show 2 ≤ 1 from h9) (by decide))
              exact kk H1 locs1 la ⟨w1, w2, hr3.1, hr3.2.1, hr3.2.2, w3⟩ hl (fun v hv => (vl v hv).mon (xmon_st hX2)) (fun v hv => (xpop (xpop vs) v hv).mon (xmon_st hX2))
            · rename_i k2 q
              split at hv
              · rename_i hk2
                subst hk2
                cases hv
                have hM : xch M (xst M k o f (.ref q)) k o f := xch_st hk
                obtain ⟨-, htk, htk51⟩ := xtk_lt hk hfd
                have hX6' : (!xreg y && (xstrk k && !xra k)) = true := hX6
                rw [Bool.and_eq_true, Bool.and_eq_true] at hX6'
                obtain ⟨L, rfl⟩ := hrg (by simpa using hX6'.1)
                have hra : xra k = false := by simpa using hX6'.2.2
                have hmem : (k, o) ∈ L := by
                  rcases hvo with q | q
                  · exact absurd q h51
                  · exact q.2.2 L rfl hX6'.2.1
                have hfl := (xgood_spec (hr L rfl).1 hmem).2.1 hra f 4 k2 tw hfd (by decide)
                have hq : q < xc M k2 := by
                  rcases vs _ List.mem_cons_self with z | z
                  · exact absurd z htk51
                  · exact z.2.1
                have eg : gn (xst M k o f (.ref q)) k o f = q := by unfold gn; rw [xst_eq]
                have hfl2 : xf (xst M k o f (.ref q)) k o f := by
                  show gn _ (200 + k) o f = 1
                  rw [gn_xst_ne (by omega)]
                  exact hfl
                rw [xenc_ref htk51]
                refine xw_put hx hb hts hown (List.contains_iff_mem.mp hX1) I.1 I.2.1 I.2.2.2.2.2 hk h43 ho hc hfd hfin hM (v := .ref (ad k2 q)) (by rw [show 4 % 10 = 4 from rfl, xfv_ref (by decide) hfl2, eg]; rfl) (fun ty hty => ?_) hd (fun H1 locs1 w1 w2 w3 => ?_)
                · obtain ⟨ty', hty', -, -, h9⟩ := xtypes hk hfd
                  obtain rfl : ty' = ty := Option.some.inj (hty'.symm.trans hty)
                  exact xnarrow_ref (h9 (show 2 ≤ 4 by decide))
                · have hr3 := xrest_fld hk hfd hM I.2.2.1 I.2.2.2.1 I.2.2.2.2.1 (fun _ _ => by show xtg 4 tw o (gn _ k o f) < xc M k2; rw [eg]; exact hq)
                  exact kk H1 locs1 la ⟨w1, w2, hr3.1, hr3.2.1, hr3.2.2, w3⟩ hl (fun v hv => (vl v hv).mon (xmon_st hX2)) (fun v hv => (xpop (xpop vs) v hv).mon (xmon_st hX2))
              · cases hv
            · cases hv
          · cases hv
        · cases h
      · cases h
    · cases h
  | _ =>
    simp [xpure] at h
end
section
/-! MAKING THINGS, COPYING ARRAYS. -/
def xup (ad : xA) (k c a : Nat) : xA := fun k' o' => if k' = k ∧ o' = c then a else ad k' o'
theorem xup_ne {ad : xA} {k c a k' o' : Nat} (h : ¬ (k' = k ∧ o' = c)) : xup ad k c a k' o' = ad k' o' := if_neg h
theorem xup_eq {ad : xA} {k c a : Nat} : xup ad k c a k c = a := if_pos ⟨rfl, rfl⟩
/-- a store with one thing more -/
def xmk (M M' : xM) (k : Nat) : Prop := xc M' k = xc M k + 1 ∧ (∀ k', k' ≠ k → xc M' k' = xc M k') ∧ (∀ k' o' f', k' < 60 → o' < xc M k' → M' k' o' f' = M k' o' f' ∧ gn M' (200 + k') o' f' = gn M (200 + k') o' f') ∧ (∀ k' o', k' < 60 → o' < xc M k' → gn M' (110 + k') o' 0 = gn M (110 + k') o' 0)
theorem xnew_at {M : xM} {k n k' o' f' : Nat} (hk' : k' < 100) : xnew M k n k' o' f' = xclr M k (xc M k) k' o' f' := by
  unfold xnew xbump
  rw [xst_ne (by omega), xst_ne (by omega), xst_ne (by omega)]
theorem xmk_new {M : xM} {k n : Nat} (hk : k < 60) : xmk M (xnew M k n) k := by
  have hb : Nat.blt k 60 = true := Nat.ble_eq_true_of_le hk
  refine ⟨by rw [xc, gn_xnew_cnt hb, if_pos rfl], fun k' h => by rw [xc, gn_xnew_cnt hb, if_neg h], fun k' o' f' h1 h2 => ?_, fun k' o' h1 h2 => ?_⟩
  · have hne : ¬ (k' = k ∧ o' = xc M k) := fun q => by rw [q.1] at h2; omega
    constructor
    · rw [xnew_at (by omega)]
      unfold xclr
      rw [if_neg (fun q => q.1.elim (fun e => hne ⟨e, q.2⟩) (fun e => by omega))]
    · unfold xnew xbump
      rw [gn_xst_ne (by omega), gn_xst_ne (by omega), gn_xst_ne (by omega), gn_xclr_ne (by omega)]
      by_cases e : k' = k
      · exact Or.inr (fun q => hne ⟨e, q⟩)
      · exact Or.inl (by omega)
  · unfold xnew xbump
    rw [gn_xst_ne (by omega), gn_xst_ne (by omega), gn_xst_ne (by omega), gn_xclr_ne (by omega) (Or.inl (by omega))]
theorem xmk_newD {M : xM} {k n : Nat} (hk : k < 60) : xmk M (xnewD M k n) k := by
  obtain ⟨h1, h2, h3, h4⟩ := xmk_new (M := M) (n := n) hk
  unfold xnewD
  refine ⟨by rw [xc, gn_xst_ne (by omega)]; exact h1, fun k' h => by rw [xc, gn_xst_ne (by omega)]; exact h2 k' h, fun k' o' f' q1 q2 => ⟨by rw [xst_ne (by omega)]; exact (h3 k' o' f' q1 q2).1, by rw [gn_xst_ne (by omega)]; exact (h3 k' o' f' q1 q2).2⟩, fun k' o' q1 q2 => ?_⟩
  rw [gn_xst, if_neg (fun q => by
    have e : k' = k := by omega
    subst e
    exact absurd q2 (by rw [q.2.1]; exact Nat.lt_irrefl _))]
  exact h4 k' o' q1 q2
theorem xnew_def {M : xM} {k n f : Nat} (hk : k < 60) : gi (xnew M k n) k (xc M k) f = 0 ∧ gl (xnew M k n) k (xc M k) f = 0 ∧ gd (xnew M k n) k (xc M k) f = 0 ∧ gn (xnew M k n) (200 + k) (xc M k) f = 0 := by
  have e1 : xnew M k n k (xc M k) f = .retAddr 0 := by
    rw [xnew_at (by omega)]
    exact if_pos ⟨Or.inl rfl, rfl⟩
  have e2 : xnew M k n (200 + k) (xc M k) f = .retAddr 0 := by
    unfold xnew xbump
    rw [xst_ne (by omega), xst_ne (by omega), xst_ne (by omega)]
    exact if_pos ⟨Or.inr rfl, rfl⟩
  unfold gi gl gd gn
  rw [e1, e2]
  exact ⟨rfl, rfl, rfl, rfl⟩
theorem xnewD_def {M : xM} {k n f : Nat} (hk : k < 60) : gi (xnewD M k n) k (xc M k) f = 0 ∧ gl (xnewD M k n) k (xc M k) f = 0 ∧ gd (xnewD M k n) k (xc M k) f = 0 ∧ gn (xnewD M k n) (200 + k) (xc M k) f = 0 ∧ gn (xnewD M k n) (110 + k) (xc M k) 0 = n := by
  obtain ⟨h1, h2, h3, h4⟩ := xnew_def (M := M) (n := n) (f := f) hk
  have e : ∀ k' o' f', k' < 110 ∨ 170 ≤ k' → xnewD M k n k' o' f' = xnew M k n k' o' f' := fun k' o' f' h => xst_ne (by omega)
  have g1 : gi (xnewD M k n) k (xc M k) f = gi (xnew M k n) k (xc M k) f := by unfold gi; rw [e k _ f (Or.inl (by omega))]
  have g2 : gl (xnewD M k n) k (xc M k) f = gl (xnew M k n) k (xc M k) f := by unfold gl; rw [e k _ f (Or.inl (by omega))]
  have g3 : gd (xnewD M k n) k (xc M k) f = gd (xnew M k n) k (xc M k) f := by unfold gd; rw [e k _ f (Or.inl (by omega))]
  have g4 : gn (xnewD M k n) (200 + k) (xc M k) f = gn (xnew M k n) (200 + k) (xc M k) f := by
    show (match xnewD M k n (200 + k) (xc M k) f with
      | .ref x => x
      | _ => 0) = _
    rw [e (200 + k) _ f (Or.inr (by omega))]
    rfl
  refine ⟨g1.trans h1, g2.trans h2, g3.trans h3, g4.trans h4, ?_⟩
  have e3 : xnewD M k n (110 + k) (xc M k) 0 = .ref n := xst_eq
  show (match xnewD M k n (110 + k) (xc M k) 0 with
    | .ref x => x
    | _ => 0) = n
  rw [e3]
/-- what was there is as it was -/
theorem xfv_mk {ad : xA} {M M' : xM} {k a : Nat} (hm : xmk M M' k) (hT : xWT M) {k' o' f : Nat} {d : Nat × Nat × Nat} (hk' : k' < 60) (ho' : o' < xc M k') (hd : (xfd k')[f]? = some d) : xfv (xup ad k (xc M k) a) M' k' o' f d = xfv ad M k' o' f d := by
  obtain ⟨q1, q2⟩ := hm.2.2.1 k' o' f hk' ho'
  rw [xfv_eq q1 q2]
  obtain ⟨t, tk, tw⟩ := d
  by_cases ht : 2 ≤ t
  · by_cases hf : xf M k' o' f
    · rw [xfv_ref ht hf, xfv_ref ht hf]
      have h1 := hT.1 k' o' f t tk tw hk' ho' hd ht hf
      rw [xup_ne]
      intro q
      rw [q.1] at h1
      omega
    · obtain ⟨t, rfl⟩ : ∃ z, t = z + 2 := ⟨t - 2, by omega⟩
      unfold xfv
      simp only
      rw [if_neg hf, if_neg hf]
  · have : t = 0 ∨ t = 1 := by omega
    rcases this with rfl | rfl <;> rfl
theorem xav_mk {ad : xA} {M M' : xM} {k a : Nat} (hm : xmk M M' k) (hT : xWT M) {k' o' j : Nat} (hk' : k' < 60) (ho' : o' < xc M k') (hj : xae k' ≠ none → j < xnth xlens k') : xav (xup ad k (xc M k) a) M' k' o' j = xav ad M k' o' j := by
  obtain ⟨q1, q2⟩ := hm.2.2.1 k' o' j hk' ho'
  rw [xav_eq q1 q2]
  unfold xav
  split
  · rfl
  · rfl
  · split
    · rename_i tk tw hae
      by_cases hf : gn M (200 + k') o' j = 1
      · rw [if_pos hf, if_pos hf]
        have h1 := hT.2 k' o' tk tw j hk' ho' hae (hj (by rw [hae]; exact fun h => nomatch h)) hf
        rw [xup_ne]
        intro q
        rw [q.1] at h1
        omega
      · rw [if_neg hf, if_neg hf]
    · rfl
  · rfl
theorem xdyn_ae : (List.range 60).all (fun k => !xdyn k || (xae k).isNone) = true := by decide +kernel
theorem xlen_ae {k o : Nat} {M : xM} (hk : k < 60) (h : xae k ≠ none) : xlen k o M = xnth xlens k := by
  have h1 := List.all_eq_true.mp xdyn_ae k (List.mem_range.mpr hk)
  unfold xlen
  split
  · rename_i hd
    rw [hd] at h1
    cases hz : xae k with
    | none => exact absurd hz h
    | some v => rw [hz] at h1; simp at h1
  · rfl
/-- the world with one thing more -/
theorem xWd_mk {s : State} {A : Nat → Prop} {ad : xA} {M M' : xM} {H H' : Heap} {k : Nat} (hW : xWd s A ad M H) (hT : xWT M) (hm : xmk M M' k) (e3 : ∀ q, q < H.size → H'[q]? = H[q]?)
    (hob : xfd k ≠ [] → xOb s A (xup ad k (xc M k) H.size) M' H' k (xc M k)) (har : ∀ ty, xat k = some ty → xAr s A (xup ad k (xc M k) H.size) M' H' k (xc M k) ty) : xWd s A (xup ad k (xc M k) H.size) M' H' := by
  intro k' o' hk' ho'
  by_cases hnew : k' = k ∧ o' = xc M k
  · obtain ⟨rfl, rfl⟩ := hnew
    exact ⟨hob, har⟩
  · have ho : o' < xc M k' := by
      by_cases e : k' = k
      · subst e
        rw [hm.1] at ho'
        have : o' ≠ xc M k' := fun q => hnew ⟨rfl, q⟩
        omega
      · rw [hm.2.1 k' e] at ho'; exact ho'
    refine ⟨fun hf => ((hW k' o' hk' ho).1 hf).same (xup_ne hnew) (e3 _ (hW.lt hk' ho (Or.inl hf))) (fun f d hd => xfv_mk hm hT hk' ho hd), fun ty hty => ((hW k' o' hk' ho).2 ty hty).same (xup_ne hnew) (e3 _ (hW.lt hk' ho (Or.inr (by rw [hty]; exact fun h => nomatch h)))) (xlen_eq (hm.2.2.2 k' o' hk' ho)) (fun j hj => xav_mk hm hT hk' ho (fun h => by rw [xlen_ae hk' h] at hj; exact hj))⟩
theorem xAp_mk {A : Nat → Prop} {ad : xA} {s : State} {M M' : xM} {H : Heap} {k : Nat} (hk : k < 60) (h42 : k ≠ 42) (hP : xAp A ad M) (hW : xWd s A ad M H) (hm : xmk M M' k) (hc : xcst k (xc M k) = false) (hA : A H.size) : xAp A (xup ad k (xc M k) H.size) M' := by
  have old : ∀ k' o', k' < 60 → o' < xc M' k' → ¬ (k' = k ∧ o' = xc M k) → o' < xc M k' := by
    intro k' o' hk' ho' hn
    by_cases e : k' = k
    · subst e
      rw [hm.1] at ho'
      have : o' ≠ xc M k' := fun q => hn ⟨rfl, q⟩
      omega
    · rw [hm.2.1 k' e] at ho'; exact ho'
  have notnew : ∀ k' o', k' < 60 → o' < xc M k' → xtrk k' → ad k' o' ≠ H.size := fun k' o' hk' ho' ht e => absurd (hW.lt hk' ho' ht) (by omega)
  refine ⟨fun k' o' hk' ho' => ?_, fun k1 o1 k2 o2 h1 h2 ho1 ho2 t1 t2 c1 c2 he => ?_, fun o1 o2 ho1 ho2 he => ?_⟩
  · by_cases hn : k' = k ∧ o' = xc M k
    · obtain ⟨rfl, rfl⟩ := hn
      rw [xup_eq]
      exact ⟨fun _ => hc, fun _ => hA⟩
    · rw [xup_ne hn]
      exact hP.1 k' o' hk' (old k' o' hk' ho' hn)
  · by_cases n1 : k1 = k ∧ o1 = xc M k
    · by_cases n2 : k2 = k ∧ o2 = xc M k
      · exact ⟨n1.1.trans n2.1.symm, n1.2.trans n2.2.symm⟩
      · rw [n1.1, n1.2, xup_eq, xup_ne n2] at he
        exact absurd he.symm (notnew k2 o2 h2 (old k2 o2 h2 ho2 n2) t2)
    · by_cases n2 : k2 = k ∧ o2 = xc M k
      · rw [n2.1, n2.2, xup_eq, xup_ne n1] at he
        exact absurd he (notnew k1 o1 h1 (old k1 o1 h1 ho1 n1) t1)
      · rw [xup_ne n1, xup_ne n2] at he
        exact hP.2.1 k1 o1 k2 o2 h1 h2 (old k1 o1 h1 ho1 n1) (old k2 o2 h2 ho2 n2) t1 t2 c1 c2 he
  · rw [xup_ne (fun q => h42 q.1.symm), xup_ne (fun q => h42 q.1.symm)] at he
    rw [hm.2.1 42 (fun e => h42 e.symm)] at ho1 ho2
    exact hP.2.2 o1 o2 ho1 ho2 he
theorem xmut_c {k c : Nat} {M : xM} (h : xmut k 13 = true) (hK : xK M) (hc : c = xc M k) : xmut k c = true := by
  subst hc
  by_cases h6 : k = 46
  · subst h6; exact Nat.ble_eq_true_of_le hK.2.2.2.2.1
  · by_cases h7 : k = 47
    · subst h7; exact Nat.ble_eq_true_of_le hK.2.2.2.2.2.1
    · unfold xmut at h ⊢
      split <;> simp_all
theorem xrest_mk {M M' : xM} {k : Nat} (hk : k < 60) (hm : xmk M M' k) (hT : xWT M) (hB : xBt M) (hK : xK M) (h0 : ∀ f, gi M' k (xc M k) f = 0 ∧ gn M' (200 + k) (xc M k) f = 0) (hlen : xdyn k = true → gn M' (110 + k) (xc M k) 0 ≤ 65536) : xWT M' ∧ xBt M' ∧ xK M' := by
  have mono : ∀ k', xc M k' ≤ xc M' k' := by
    intro k'
    by_cases e : k' = k
    · subst e; rw [hm.1]; omega
    · rw [hm.2.1 k' e]; exact Nat.le_refl _
  have old : ∀ k' o', o' < xc M' k' → ¬ (k' = k ∧ o' = xc M k) → o' < xc M k' := by
    intro k' o' ho' hn
    by_cases e : k' = k
    · subst e
      rw [hm.1] at ho'
      have : o' ≠ xc M k' := fun q => hn ⟨rfl, q⟩
      omega
    · rw [hm.2.1 k' e] at ho'; exact ho'
  refine ⟨⟨fun k' o' f' t tk tw hk' ho' hd' ht hf => ?_, fun k' o' tk tw j hk' ho' hae' hj hf => ?_⟩, ⟨fun k' o' j ht ho' => ?_, fun k' o' hy hk' ho' => ?_⟩, ?_⟩
  · by_cases e : k' = k ∧ o' = xc M k
    · obtain ⟨rfl, rfl⟩ := e
      have := (h0 f').2
      unfold xf at hf
      omega
    · have ho := old k' o' ho' e
      obtain ⟨q1, q2⟩ := hm.2.2.1 k' o' f' hk' ho
      have e3 : gn M' k' o' f' = gn M k' o' f' := by unfold gn; rw [q1]
      rw [e3]
      exact Nat.lt_of_lt_of_le (hT.1 k' o' f' t tk tw hk' ho hd' ht (by show gn M (200 + k') o' f' = 1; rw [← q2]; exact hf)) (mono tk)
  · by_cases e : k' = k ∧ o' = xc M k
    · obtain ⟨rfl, rfl⟩ := e
      have := (h0 j).2
      unfold xf at hf
      omega
    · have ho := old k' o' ho' e
      obtain ⟨-, q2⟩ := hm.2.2.1 k' o' j hk' ho
      exact Nat.lt_of_lt_of_le (hT.2 k' o' tk tw j hk' ho hae' hj (by show gn M (200 + k') o' j = 1; rw [← q2]; exact hf)) (mono tk)
  · by_cases e : k' = k ∧ o' = xc M k
    · obtain ⟨rfl, rfl⟩ := e
      rw [(h0 j).1]
      rfl
    · have ho := old k' o' ho' e
      obtain ⟨q1, -⟩ := hm.2.2.1 k' o' j (xtc_lt k' (by rw [ht]; decide)) ho
      have e3 : gi M' k' o' j = gi M k' o' j := by unfold gi; rw [q1]
      rw [e3]
      exact hB.1 k' o' j ht ho
  · by_cases e : k' = k ∧ o' = xc M k
    · obtain ⟨rfl, rfl⟩ := e
      exact hlen hy
    · have ho := old k' o' ho' e
      rw [hm.2.2.2 k' o' hk' ho]
      exact hB.2 k' o' hy hk' ho
  · obtain ⟨a, b, c, e1, e2, e3, e4, e5⟩ := hK
    exact ⟨Nat.le_trans a (mono _), Nat.le_trans b (mono _), Nat.le_trans c (mono _), Nat.le_trans e1 (mono _), Nat.le_trans e2 (mono _), Nat.le_trans e3 (mono _), Nat.le_trans e4 (mono _), Nat.le_trans e5 (mono _)⟩
theorem va_S_more {A : Nat → Prop} {H0 H H1 : Heap} {locs : List Loc} (h : va_S A H0 H locs) (z : H.size ≤ H1.size) (e : ∀ q, q < H.size → H1[q]? = H[q]?) : va_S A H0 H1 locs :=
  ⟨Nat.le_trans h.1 z, fun q h1 h2 => (e q (Nat.lt_of_lt_of_le h1 h.1)).trans (h.2.1 q h1 h2), h.2.2⟩
theorem xnewL_all : xnewL.all (fun q => Nat.blt q.2.1 60 && (!(xfd q.2.1).isEmpty && (!Nat.beq q.2.1 42 && !Nat.beq q.2.1 43))) = true := by decide +kernel
section XNEW
variable {p : Program} {l : Launch} {e : Env} {R : Room} {s : State} {m : MethodId} {args : Array Value} {below : List Frame} {meth : Method} {c : Code} {H : Heap} {locs : List Loc} {cells slots : Nat} {Q : State → Prop}
variable {cc : ByteArray} {pc : Nat} {ls : Array Slot} {rest : List Value} {A : Nat → Prop} {ad : xA} {M : xM}
theorem xw_new (hx : p.tables.exec = Jvm.exec) (hb : c.code = cc) (hts : ∀ w ∈ xwA, w.before args s = true) {oc ix k n : Nat} (hown : s.vm.findClass (xcn oc) = some m.cls) (hl : ((oc, ix), k, n) ∈ xnewL) (I : xInv s A ad M s.heap H locs) (hA : ∀ q, s.heap.size ≤ q → A q) (hmu : xmut k 13 = true) (hdg : decode cc pc = .ok (.new ix, 3)) (hcells : cells + 1 ≤ R.cells) (hslots : slots + n ≤ R.slots)
    (kk : ∀ H1 : Heap, xInv s A (xup ad k (xc M k) H.size) (xnew M k n) s.heap H1 locs → W p l e R s m args below meth c H1 locs (cells + 1) (slots + n) Q (F0 m (pc + 3) ls (.ref H.size :: rest))) : W p l e R s m args below meth c H locs cells slots Q (F0 m pc ls rest) := by
  obtain ⟨hW, hP, hT, hB, hK, hS⟩ := I
  have h1 := List.all_eq_true.mp xnewL_all _ hl
  simp only [Bool.and_eq_true] at h1
  have hk : k < 60 := Nat.le_of_ble_eq_true h1.1
  have hfd : xfd k ≠ [] := fun z => by have := h1.2.1; simp only [z] at this; cases this
  have h42 : k ≠ 42 := fun z => by have := h1.2.2.1; simp only [z] at this; cases this
  have h43 : k ≠ 43 := fun z => by have := h1.2.2.2; simp only [z] at this; cases this
  have hini : (Cond.initialized (xcl k)).before args s = true := by
    have h2 : (List.range 60).all (fun k => (xfd k).isEmpty || (xinik.contains k)) = true := by decide +kernel
    have h3 := List.all_eq_true.mp h2 k (List.mem_range.mpr hk)
    rcases (Bool.or_eq_true _ _).mp h3 with h | h
    · rw [List.isEmpty_iff] at h; exact absurd h hfd
    · exact hts _ (xinik_ok k (List.contains_iff_mem.mp h))
  have hm := xmk_new (M := M) (n := n) hk
  refine W.newc hx hb hown (hts _ (xnew1_ok _ hl)) (hts _ (xnew2_ok _ hl)) hini rfl hdg hcells hslots fun cC kC f1 f2 f3 f4 => ?_
  have e3 : ∀ q, q < H.size → (H.push { cls := cC, slots := kC.instanceTypes.map defaultValue, vm := .none })[q]? = H[q]? := fun q hq => by
    rw [Array.getElem?_push]
    split
    · omega
    · rfl
  have e1 : (H.push { cls := cC, slots := kC.instanceTypes.map defaultValue, vm := .none })[H.size]? = some ({ cls := cC, slots := kC.instanceTypes.map defaultValue, vm := .none } : Cell) := by simp
  have hcst : xcst k (xc M k) = false := by unfold xcst; rw [xmut_c hmu hK rfl]; rfl
  have hr3 := xrest_mk hk hm hT hB hK (fun f => ⟨(xnew_def (n := n) (f := f) hk).1, (xnew_def (n := n) (f := f) hk).2.2.2⟩) (fun hy => by
    have h2 : (List.range 60).all (fun k => (xfd k).isEmpty || !xdyn k) = true := by decide +kernel
    have h3 := List.all_eq_true.mp h2 k (List.mem_range.mpr hk)
    rcases (Bool.or_eq_true _ _).mp h3 with h | h
    · rw [List.isEmpty_iff] at h; exact absurd h hfd
    · rw [hy] at h; cases h)
  refine kk _ ⟨xWd_mk hW hT hm e3 (fun _ => ?_) (fun ty hty => ?_), xAp_mk hk h42 hP hW hm hcst (hA _ hS.1), hr3.1, hr3.2.1, hr3.2.2, va_S_more hS (by simp) e3⟩
  · refine ⟨_, by rw [xup_eq]; exact e1, rfl, (fun z => by cases z), fun _ => rfl, f1, fun f d hd => ?_⟩
    obtain ⟨ty, hty, t0, t1, t2⟩ := xtypes hk hd
    have hlay := (xlays hts hk h43 hd).elim (fun h => Or.inl h.2) (fun h => Or.inr h.2)
    obtain ⟨i, cf, kf, fi, fd, hi, -⟩ := u_found hlay
    obtain ⟨g1, -, g3⟩ := u_facts f1 f2 hlay hi
    rw [(State.fieldFound?_type hi hty).2] at g3
    refine ⟨cf, kf, fi, fd, hi, g1, ?_⟩
    show (kC.instanceTypes.map defaultValue)[fd.slot]? = _
    rw [Array.getElem?_map, g3]
    obtain ⟨d1, d2, -, d4⟩ := xnew_def (M := M) (n := n) (f := f) hk
    obtain ⟨t, tk, tw⟩ := d
    by_cases ht : 2 ≤ t
    · obtain ⟨t, rfl⟩ : ∃ z, t = z + 2 := ⟨t - 2, by omega⟩
      unfold xfv
      simp only
      rw [if_neg (by omega)]
      have h9 := t2 ht
      cases ty <;> first | rfl | cases h9
    · have : t = 0 ∨ t = 1 := by omega
      rcases this with rfl | rfl
      · show _ = some (Value.int (gi _ k (xc M k) f))
        rw [d1]
        rcases t0 rfl with rfl | rfl | rfl <;> rfl
      · show _ = some (Value.long (gl _ k (xc M k) f))
        rw [d2, t1 rfl]
        rfl
  · have h2 := (xins_of hk h43 (d := (xfd k)[0]'(by cases hz : xfd k with
      | nil => exact absurd hz hfd
      | cons a r => simp)) (f := 0) (by simp)).2
    rw [h2] at hty
    cases hty
end XNEW
end
section
/-! ARRAYS: made, copied, cloned. (wip/p65/gen14.py writes this) -/
set_option maxRecDepth 100000 in
theorem xac_int : Cond.arrayClass .int ∈ xwA := xwA_mem (i := 127) rfl rfl
set_option maxRecDepth 100000 in
theorem xac_long : Cond.arrayClass .long ∈ xwA := xwA_mem (i := 126) rfl rfl
set_option maxRecDepth 100000 in
theorem xac_byte : Cond.arrayClass .byte ∈ xwA := xwA_mem (i := 171) rfl rfl
set_option maxRecDepth 100000 in
theorem xac_boolean : Cond.arrayClass .boolean ∈ xwA := xwA_mem (i := 170) rfl rfl
def xnat : List (Nat × Nat) := [(0, 44), (8, 212), (17, 150)]
def xobj : List (Nat × Nat) := [(0, 3), (1, 3), (2, 3), (3, 3), (4, 1), (5, 3), (6, 3), (7, 3), (8, 1), (11, 1), (16, 3), (20, 1)]
set_option maxRecDepth 100000 in
theorem xnat_ok : ∀ q ∈ xnat, Cond.methodLink (xcn q.1) q.2 arraycopyName ∈ xwA := xwA_map [562, 1035, 982] _ (by decide +kernel) (fun _ => rfl)
set_option maxRecDepth 100000 in
theorem xobj_ok : ∀ q ∈ xobj, Cond.methodLink (xcn q.1) q.2 Lib.objectInit ∈ xwA := xwA_map [68, 133, 159, 153, 222, 215, 254, 248, 1107, 60, 926, 654] _ (by decide +kernel) (fun _ => rfl)
set_option maxRecDepth 100000 in
theorem xnat_s : Cond.static arraycopyName ∈ xwA := xwA_mem (i := 563) rfl rfl
set_option maxRecDepth 100000 in
theorem xnat_n : Cond.native arraycopyName ∈ xwA := xwA_mem (i := 564) rfl rfl
set_option maxRecDepth 100000 in
theorem xnat_i : Cond.initialized "java/lang/System" ∈ xwA := xwA_mem (i := 45) rfl rfl
set_option maxRecDepth 100000 in
theorem xobj_i : Cond.instanceMethod Lib.objectInit ∈ xwA := xwA_mem (i := 61) rfl rfl
set_option maxRecDepth 100000 in
theorem xobj_c : Cond.code Lib.objectInit ⟨#[0xb1]⟩ 1 none ∈ xwA := xwA_mem (i := 62) rfl rfl
set_option maxRecDepth 100000 in
theorem xcl_l : Cond.methodLink "java/util/Arrays" 310 ⟨"[B", "clone", "()Ljava/lang/Object;"⟩ ∈ xwA := xwA_mem (i := 974) rfl rfl
set_option maxRecDepth 100000 in
theorem xcl_s : Cond.sameMethod "[B" "java/lang/Object" "clone" "()Ljava/lang/Object;" ∈ xwA := xwA_mem (i := 975) rfl rfl
set_option maxRecDepth 100000 in
theorem xcl_n : Cond.native ⟨"java/lang/Object", "clone", "()Ljava/lang/Object;"⟩ ∈ xwA := xwA_mem (i := 976) rfl rfl
set_option maxRecDepth 100000 in
theorem xcl_i : Cond.instanceMethod ⟨"java/lang/Object", "clone", "()Ljava/lang/Object;"⟩ ∈ xwA := xwA_mem (i := 977) rfl rfl
set_option maxRecDepth 100000 in
theorem xcl_e : Cond.selects "[B" ⟨"[B", "clone", "()Ljava/lang/Object;"⟩ ⟨"java/lang/Object", "clone", "()Ljava/lang/Object;"⟩ ∈ xwA := xwA_mem (i := 978) rfl rfl
set_option maxRecDepth 100000 in
theorem xca_l : Cond.classLink "java/util/Arrays" 311 "[B" ∈ xwA := xwA_mem (i := 980) rfl rfl
theorem xac_ok {a : ArrayType} {k : Nat} (h : xat k = some (newarray.typeOf a)) (hk : k < 60) : Cond.arrayClass (newarray.typeOf a) ∈ xwA := by
  have h1 : (List.range 60).all (fun k => match xat k with
    | some .char => false
    | some .short => false
    | some .float => false
    | some .double => false
    | _ => true) = true := by decide +kernel
  have h2 := List.all_eq_true.mp h1 k (List.mem_range.mpr hk)
  rw [h] at h2
  cases a
  · exact xac_boolean
  · cases h2
  · cases h2
  · cases h2
  · exact xac_byte
  · cases h2
  · exact xac_int
  · exact xac_long
section XARR
variable {p : Program} {l : Launch} {e : Env} {R : Room} {s : State} {m : MethodId} {args : Array Value} {below : List Frame} {meth : Method} {c : Code} {H : Heap} {locs : List Loc} {cells slots : Nat} {Q : State → Prop}
variable {cc : ByteArray} {pc : Nat} {ls : Array Slot} {rest : List Value} {A : Nat → Prop} {ad : xA} {M : xM}
theorem xav_def {k o j : Nat} (hae : xae k = none ∨ gn M (200 + k) o j = 0) (h1 : gi M k o j = 0) (h2 : gl M k o j = 0) (h3 : gd M k o j = 0) {ty : FieldType} (hty : xat k = some ty) (hpr : (List.range 60).all (fun k => match xat k with
    | some .char => false
    | some .short => false
    | some .float => false
    | some .double => false
    | some (.array _) => false
    | _ => true) = true) (hk : k < 60) : xav ad M k o j = defaultValue ty := by
  have h9 := List.all_eq_true.mp hpr k (List.mem_range.mpr hk)
  rw [hty] at h9
  unfold xav
  rw [hty]
  cases ty <;> first
    | (simp at h9; done)
    | (simp only; rw [h1]; rfl)
    | (simp only; rw [h2]; rfl)
    | (simp only; rw [h3]; rfl)
    | (simp only
       split
       · rename_i hz
         rcases hae with h | h
         · rw [h] at hz; cases hz
         · rw [if_neg (by omega)]; rfl
       · rfl)
theorem xpr_all : (List.range 60).all (fun k => match xat k with
    | some .char => false
    | some .short => false
    | some .float => false
    | some .double => false
    | some (.array _) => false
    | _ => true) = true := by decide +kernel
theorem xat_fd {k : Nat} {ty : FieldType} (hk : k < 60) (hty : xat k = some ty) : xfd k = [] ∧ k ≠ 42 := by
  have h1 := List.all_eq_true.mp xtc_at k (List.mem_range.mpr hk)
  rw [hty] at h1
  rw [Bool.and_eq_true, List.isEmpty_iff] at h1
  exact ⟨h1.1, fun e => by rw [e] at hty; cases hty⟩
/-- an array made: its number n of components is its length in the new store -/
theorem xw_newarr (hx : p.tables.exec = Jvm.exec) (hb : c.code = cc) (hts : ∀ w ∈ xwA, w.before args s = true) {a : ArrayType} {k N : Nat} {n : Int32} {M' : xM} (hk : k < 60) (hat : xat k = some (newarray.typeOf a)) (I : xInv s A ad M s.heap H locs) (hA : ∀ q, s.heap.size ≤ q → A q) (hmu : xmut k 13 = true) (hn : ¬ n < 0) (hN : n.toNatClampNeg = N) (hsm : N ≤ 65536)
    (hm : xmk M M' k) (h0 : ∀ f, gi M' k (xc M k) f = 0 ∧ gl M' k (xc M k) f = 0 ∧ gd M' k (xc M k) f = 0 ∧ gn M' (200 + k) (xc M k) f = 0) (hlen : xlen k (xc M k) M' = N) (hdl : xdyn k = true → gn M' (110 + k) (xc M k) 0 ≤ 65536) (hdg : decode cc pc = .ok (.newarray a, 2)) (hcells : cells + 1 ≤ R.cells) (hslots : slots + N ≤ R.slots)
    (kk : ∀ H1 : Heap, xInv s A (xup ad k (xc M k) H.size) M' s.heap H1 locs → W p l e R s m args below meth c H1 locs (cells + 1) (slots + N) Q (F0 m (pc + 2) ls (.ref H.size :: rest))) : W p l e R s m args below meth c H locs cells slots Q (F0 m pc ls (.int n :: rest)) := by
  obtain ⟨hW, hP, hT, hB, hK, hS⟩ := I
  obtain ⟨hfd, h42⟩ := xat_fd hk hat
  have hcb : componentBytes (newarray.typeOf a) ≤ 8 := by cases a <;> decide
  refine va_newaK hx hb (hts _ (xac_ok hat hk)) rfl hdg rfl hn hN (Nat.le_trans (Nat.mul_le_mul hsm hcb) (by decide)) hcells hslots rfl fun H1 cA e1 e2 e3 g1 g2 => ?_
  have hcst : xcst k (xc M k) = false := by unfold xcst; rw [xmut_c hmu hK rfl]; rfl
  have hr3 := xrest_mk hk hm hT hB hK (fun f => ⟨(h0 f).1, (h0 f).2.2.2⟩) hdl
  refine kk H1 ⟨xWd_mk hW hT hm e3 (fun h => absurd hfd h) (fun ty hty => ?_), xAp_mk hk h42 hP hW hm hcst (hA _ hS.1), hr3.1, hr3.2.1, hr3.2.2, va_S_more hS (by omega) e3⟩
  obtain rfl : newarray.typeOf a = ty := Option.some.inj (hat.symm.trans hty)
  refine ⟨_, by rw [xup_eq]; exact e1, g1 _ _, (fun z => by cases z), fun _ => ⟨rfl, fun hb9 => ?_, fun C hC => ?_⟩, by rw [hlen, arrV_size], fun j hj => ?_⟩
  · rw [hb9] at g2
    exact g2
  · cases a <;> cases hC
  · rw [hlen] at hj
    rw [arrV_read _ _ hj, xav_def (Or.inr (h0 j).2.2.2) (h0 j).1 (h0 j).2.1 (h0 j).2.2.1 hat xpr_all hk]
theorem xarr_all : xarr.all (fun q => Nat.blt q.2 60 && (!xdyn q.2 && (match xae q.2, xat q.2 with
  | some (tk, _), some (.object C) => (xcl tk == C) && (C == "ProjectPlanner$Plan" || C == "ProjectPlanner$Command")
  | _, _ => false))) = true := by decide +kernel
theorem xw_anewarr (hx : p.tables.exec = Jvm.exec) (hb : c.code = cc) (hts : ∀ w ∈ xwA, w.before args s = true) {oc ix k : Nat} {n : Int32} (hown : s.vm.findClass (xcn oc) = some m.cls) (hl : ((oc, ix), k) ∈ xarr) (Z : xCs A ad s) (I : xInv s A ad M s.heap H locs) (hA : ∀ q, s.heap.size ≤ q → A q) (hmu : xmut k 13 = true) (hn : n = Int32.ofNat (xnth xlens k)) (hdg : decode cc pc = .ok (.anewarray ix, 3)) (hcells : cells + 1 ≤ R.cells) (hslots : slots + xnth xlens k ≤ R.slots)
    (kk : ∀ H1 : Heap, xInv s A (xup ad k (xc M k) H.size) (xnew M k (xnth xlens k)) s.heap H1 locs → W p l e R s m args below meth c H1 locs (cells + 1) (slots + xnth xlens k) Q (F0 m (pc + 3) ls (.ref H.size :: rest))) : W p l e R s m args below meth c H locs cells slots Q (F0 m pc ls (.int n :: rest)) := by
  obtain ⟨hW, hP, hT, hB, hK, hS⟩ := I
  have h1 := List.all_eq_true.mp xarr_all _ hl
  simp only [Bool.and_eq_true] at h1
  obtain ⟨hk1, hdy, h2⟩ := h1
  have hk : k < 60 := Nat.le_of_ble_eq_true hk1
  split at h2
  rotate_left
  · cases h2
  rename_i tk tw C hae hat
  rw [Bool.and_eq_true, beq_iff_eq] at h2
  obtain ⟨hC, hC2⟩ := h2
  have hover : va_AO C s := by
    rcases (Bool.or_eq_true _ _).mp hC2 with h | h
    · rw [beq_iff_eq.mp h]; exact Z.2.2.2.1
    · rw [beq_iff_eq.mp h]; exact Z.2.2.2.2.1
  have hlk := hts _ (xarr_ok _ hl)
  simp only [hae, hC] at hlk
  obtain ⟨hfd, h42⟩ := xat_fd hk hat
  have hbig : (List.range 60).all (fun k => Nat.blt (xnth xlens k) 100000) = true := by decide +kernel
  have hsm : xnth xlens k < 100000 := Nat.le_of_ble_eq_true (List.all_eq_true.mp hbig k (List.mem_range.mpr hk))
  have hN : n.toNatClampNeg = xnth xlens k := by rw [hn]; exact nI_clamp (by omega)
  have hm := xmk_new (M := M) (n := xnth xlens k) hk
  have hdy' : xdyn k = false := by simpa using hdy
  refine W.anew hx hb hown hlk (va_AO.use hover) rfl hdg rfl (by rw [hn]; exact nI_pos (by omega)) (by rw [hN]; omega) hcells (by rw [hN]; exact hslots) fun cA kA comp f1 f2 f3 f4 => ?_
  rw [hN]
  have e3 : ∀ q, q < H.size → (H.push ({ cls := cA, slots := Array.replicate (xnth xlens k) .null, vm := .none } : Cell))[q]? = H[q]? := fun q hq => by
    rw [Array.getElem?_push]
    split
    · omega
    · rfl
  have e1 : (H.push ({ cls := cA, slots := Array.replicate (xnth xlens k) .null, vm := .none } : Cell))[H.size]? = some ({ cls := cA, slots := Array.replicate (xnth xlens k) .null, vm := .none } : Cell) := by simp
  have hcst : xcst k (xc M k) = false := by unfold xcst; rw [xmut_c hmu hK rfl]; rfl
  have hr3 := xrest_mk hk hm hT hB hK (fun f => ⟨(xnew_def (n := xnth xlens k) (f := f) hk).1, (xnew_def (n := xnth xlens k) (f := f) hk).2.2.2⟩) (fun hy => by rw [hdy'] at hy; cases hy)
  have hlen : xlen k (xc M k) (xnew M k (xnth xlens k)) = xnth xlens k := by unfold xlen; rw [hdy']
  refine kk _ ⟨xWd_mk hW hT hm e3 (fun h => absurd hfd h) (fun ty hty => ?_), xAp_mk hk h42 hP hW hm hcst (hA _ hS.1), hr3.1, hr3.2.1, hr3.2.2, va_S_more hS (by simp) e3⟩
  obtain rfl : .object C = ty := Option.some.inj (hat.symm.trans hty)
  refine ⟨_, by rw [xup_eq]; exact e1, ⟨(fun z hz => by cases hz), kA, f2, comp, f3⟩, (fun z => by cases z), fun _ => ⟨rfl, (fun hb9 => by cases hb9), fun C' hC' => by cases hC'; exact ⟨kA, comp, f2, f3, f4⟩⟩, by rw [hlen]; simp, fun j hj => ?_⟩
  rw [hlen] at hj
  obtain ⟨d1, d2, d3, d4⟩ := xnew_def (M := M) (n := xnth xlens k) (f := j) hk
  rw [xav_def (Or.inr d4) d1 d2 d3 hat xpr_all hk]
  simp [hj]
  rfl
end XARR
end
section
/-! ARRAYS COPIED AND CLONED. -/
theorem xcpy_at {M : xM} {ks os kd od sp dp n k o j : Nat} : xcpy M ks os kd od sp dp n k o j = if k = kd ∧ o = od ∧ dp ≤ j ∧ j < dp + n then M ks os (sp + (j - dp)) else M k o j := rfl
theorem xcpy_in {M : xM} {ks os kd od sp dp n j : Nat} (h : dp ≤ j ∧ j < dp + n) : xcpy M ks os kd od sp dp n kd od j = M ks os (sp + (j - dp)) := if_pos ⟨rfl, rfl, h.1, h.2⟩
theorem xcpy_out {M : xM} {ks os kd od sp dp n k o j : Nat} (h : ¬ (k = kd ∧ o = od ∧ dp ≤ j ∧ j < dp + n)) : xcpy M ks os kd od sp dp n k o j = M k o j := if_neg h
/-- two stores that differ at one thing -/
def xcq (M M' : xM) (k o : Nat) : Prop := (∀ k', xc M' k' = xc M k') ∧ (∀ k' o' f', k' < 60 → ¬ (k' = k ∧ o' = o) → M' k' o' f' = M k' o' f') ∧ (∀ k' o' f', k' < 60 → gn M' (200 + k') o' f' = gn M (200 + k') o' f') ∧ ∀ k' o', k' < 60 → gn M' (110 + k') o' 0 = gn M (110 + k') o' 0
theorem xcq_cpy {M : xM} {ks os kd od sp dp n : Nat} (hk : kd < 60) : xcq M (xcpy M ks os kd od sp dp n) kd od :=
  ⟨fun k' => gn_xcpy_ne (by omega), fun k' o' f' _ h2 => xcpy_out (fun q => h2 ⟨q.1, q.2.1⟩), fun k' o' f' h => gn_xcpy_ne (by omega), fun k' o' h => gn_xcpy_ne (by omega)⟩
theorem xWd_cq {s : State} {A : Nat → Prop} {ad : xA} {M M' : xM} {H H' : Heap} {k o : Nat} {ty : FieldType} (hW : xWd s A ad M H) (hP : xAp A ad M) (hk : k < 60) (ho : o < xc M k) (hc : xcst k o = false) (hM : xcq M M' k o) (hat : xat k = some ty)
    (hnew : xAr s A ad M' H' k o ty) (e3 : ∀ q, q ≠ ad k o → H'[q]? = H[q]?) : xWd s A ad M' H' := by
  have htr : xtrk k := Or.inr (by rw [hat]; exact fun h => nomatch h)
  intro k' o' hk' ho'
  rw [hM.1] at ho'
  by_cases hsame : k' = k ∧ o' = o
  · obtain ⟨rfl, rfl⟩ := hsame
    exact ⟨fun hf => absurd (xat_fd hk hat).1 hf, fun ty' hty => by obtain rfl : ty = ty' := Option.some.inj (hat.symm.trans hty); exact hnew⟩
  · have hq : ∀ (hn : xfd k' ≠ [] ∨ xat k' ≠ none), H'[ad k' o']? = H[ad k' o']? := by
      intro hn
      refine e3 _ (fun e => ?_)
      by_cases hc' : xcst k' o' = false
      · exact hsame (hP.2.1 k' o' k o hk' hk ho' ho hn htr hc' hc e)
      · have h1 := (hP.1 k o hk ho).mpr hc
        rw [← e] at h1
        exact hc' ((hP.1 k' o' hk' ho').mp h1)
    exact ⟨fun hf => ((hW k' o' hk' ho').1 hf).same rfl (hq (Or.inl hf)) (fun g d' hg => xfv_eq (hM.2.1 k' o' g hk' hsame) (hM.2.2.1 k' o' g hk')), fun ty hty => ((hW k' o' hk' ho').2 ty hty).same rfl (hq (Or.inr (by rw [hty]; exact fun h => nomatch h))) (xlen_eq (hM.2.2.2 k' o' hk')) (fun j hj => xav_eq (hM.2.1 k' o' j hk' hsame) (hM.2.2.1 k' o' j hk'))⟩
theorem xrest_cq {M M' : xM} {k o : Nat} (hk : k < 60) (hfd : xfd k = []) (hM : xcq M M' k o) (hT : xWT M) (hB : xBt M) (hK : xK M) (hby : xtc k = 2 → ∀ j, fits .byte (.int (gi M' k o j)) = true) : xWT M' ∧ xBt M' ∧ xK M' := by
  refine ⟨⟨fun k' o' f' t tk tw hk' ho' hd' ht hf => ?_, fun k' o' tk tw j hk' ho' hae' hj hf => ?_⟩, ⟨fun k' o' j ht ho' => ?_, fun k' o' hy hk' ho' => ?_⟩, ?_⟩
  · rw [hM.1] at ho' ⊢
    have hne : k' ≠ k := fun e => by rw [e, hfd] at hd'; simp at hd'
    have e3 : gn M' k' o' f' = gn M k' o' f' := by unfold gn; rw [hM.2.1 k' o' f' hk' (fun q => hne q.1)]
    rw [e3]
    exact hT.1 k' o' f' t tk tw hk' ho' hd' ht (by show gn M (200 + k') o' f' = 1; rw [← hM.2.2.1 k' o' f' hk']; exact hf)
  · rw [hM.1] at ho' ⊢
    exact hT.2 k' o' tk tw j hk' ho' hae' hj (by show gn M (200 + k') o' j = 1; rw [← hM.2.2.1 k' o' j hk']; exact hf)
  · rw [hM.1] at ho'
    by_cases e : k' = k ∧ o' = o
    · obtain ⟨rfl, rfl⟩ := e
      exact hby ht j
    · have e3 : gi M' k' o' j = gi M k' o' j := by unfold gi; rw [hM.2.1 k' o' j (xtc_lt k' (by rw [ht]; decide)) e]
      rw [e3]
      exact hB.1 k' o' j ht ho'
  · rw [hM.1] at ho'
    rw [hM.2.2.2 k' o' hk']
    exact hB.2 k' o' hy hk' ho'
  · obtain ⟨a, b, c, e1, e2, e3, e4, e5⟩ := hK
    exact ⟨by rw [hM.1]; exact a, by rw [hM.1]; exact b, by rw [hM.1]; exact c, by rw [hM.1]; exact e1, by rw [hM.1]; exact e2, by rw [hM.1]; exact e3, by rw [hM.1]; exact e4, by rw [hM.1]; exact e5⟩
/-- the values of an array of numbers, by its type alone -/
theorem xav_cp {ad : xA} {M M' : xM} {k k' o o' j j' : Nat} {t : Nat} (h1 : xtc k = t) (h2 : xtc k' = t) (ht : t = 1 ∨ t = 2 ∨ t = 4) (h : M' k' o' j' = M k o j) : xav ad M' k' o' j' = xav ad M k o j := by
  have g1 : gi M' k' o' j' = gi M k o j := by unfold gi; rw [h]
  have g2 : gl M' k' o' j' = gl M k o j := by unfold gl; rw [h]
  have h0 : t ≠ 0 := by omega
  obtain ⟨-, -, ty1, e1, a1, a2, -, a4, -⟩ := xat_of h1 h0
  obtain ⟨-, -, ty2, e2, b1, b2, -, b4, -⟩ := xat_of h2 h0
  unfold xav
  rcases ht with ht | ht | ht
  · rw [e1, e2, a1 ht, b1 ht]; simp only; rw [g1]
  · rw [e1, e2, a2 ht, b2 ht]; simp only; rw [g1]
  · rw [e1, e2, a4 ht, b4 ht]; simp only; rw [g2]
theorem xav_fit {ad : xA} {M : xM} {k o j t : Nat} {ty : FieldType} (hB : xBt M) (ho : o < xc M k) (h1 : xtc k = t) (ht : t = 1 ∨ t = 2 ∨ t = 4) (hty : xat k = some ty) : fits ty (xav ad M k o j) = true ∧ ∀ (U : State) (x : ClassId), U.takes x (xav ad M k o j) := by
  have h0 : t ≠ 0 := by omega
  obtain ⟨-, -, ty1, e1, a1, a2, -, a4, -⟩ := xat_of h1 h0
  obtain rfl : ty1 = ty := Option.some.inj (e1.symm.trans hty)
  unfold xav
  rcases ht with ht | ht | ht
  · rw [e1, a1 ht]; exact ⟨rfl, fun _ _ => trivial⟩
  · rw [e1, a2 ht]; exact ⟨hB.1 k o j (by rw [h1, ht]) ho, fun _ _ => trivial⟩
  · rw [e1, a4 ht]; exact ⟨rfl, fun _ _ => trivial⟩
theorem xnn {z : Int32} (hz : ¬ z < 0) : z.toInt = (z.toNatClampNeg : Int) := by
  have hz0 : (0 : Int) ≤ z.toInt := by
    have := Int32.not_lt.mp hz
    simpa using Int32.le_iff_toInt_le.mp this
  show z.toInt = ((z.toInt.toNat : Nat) : Int)
  omega
section XCPY
variable {p : Program} {l : Launch} {e : Env} {R : Room} {s : State} {m : MethodId} {args : Array Value} {below : List Frame} {meth : Method} {c : Code} {H : Heap} {locs : List Loc} {cells slots : Nat} {Q : State → Prop}
variable {cc : ByteArray} {pc : Nat} {ls : Array Slot} {rest : List Value} {A : Nat → Prop} {ad : xA} {M : xM}
theorem xw_copy (hx : p.tables.exec = Jvm.exec) (hb : c.code = cc) (hml : ls.size = c.maxLocals) (hts : ∀ w ∈ xwA, w.before args s = true) {oc idx ks os kd od t : Nat} (hown : s.vm.findClass (xcn oc) = some m.cls) (hl : (oc, idx) ∈ xnat) (I : xInv s A ad M s.heap H locs) (hos : os < xc M ks) (hod : od < xc M kd) (h1 : xtc ks = t) (h2 : xtc kd = t) (ht : t = 1 ∨ t = 2 ∨ t = 4) (hmu : xcst kd od = false)
    {sp dp n : Int32} (g1 : ¬ sp < 0) (g2 : ¬ dp < 0) (g3 : ¬ n < 0) (g4 : ix sp + ix n ≤ xlen ks os M) (g5 : ix dp + ix n ≤ xlen kd od M) (hframes : 1 ≤ R.frames) (hlocals : (rest.map fun v => v.category).sum + (nativeFrameWords "java/lang/System" "arraycopy" 5 + 11) ≤ R.locals) (hdg : decode cc pc = .ok (.invokestatic idx, 3))
    (kk : ∀ (H1 : Heap) (locs1 : List Loc), xInv s A ad (xcpy M ks os kd od (ix sp) (ix dp) (ix n)) s.heap H1 locs1 → W p l e R s m args below meth c H1 locs1 cells slots Q (F0 m (pc + 3) ls rest)) : W p l e R s m args below meth c H locs cells slots Q (F0 m pc ls (.int n :: .int dp :: .ref (ad kd od) :: .int sp :: .ref (ad ks os) :: rest)) := by
  obtain ⟨hW, hP, hT, hB, hK, hS⟩ := I
  have h0 : t ≠ 0 := by omega
  obtain ⟨hks, -, ts, es, -⟩ := xat_of h1 h0
  obtain ⟨hkd, hfd, td, ed, -⟩ := xat_of h2 h0
  obtain ⟨cs, s1, s2, s3, -, s5, s6⟩ := (hW ks os hks hos).2 ts es
  obtain ⟨cd, d1, d2, d3, d4, d5, d6⟩ := (hW kd od hkd hod).2 td ed
  obtain ⟨sv, kS, hkS, cmS, hkkS⟩ := s2
  obtain ⟨dv, kD, hkD, cmD, hkkD⟩ := d2
  have hty : ts = td := by
    obtain ⟨-, -, ts', es', a1, a2, -, a4, -⟩ := xat_of h1 h0
    obtain ⟨-, -, td', ed', b1, b2, -, b4, -⟩ := xat_of h2 h0
    obtain rfl : ts' = ts := Option.some.inj (es'.symm.trans es)
    obtain rfl : td' = td := Option.some.inj (ed'.symm.trans ed)
    rcases ht with ht | ht | ht
    · rw [a1 ht, b1 ht]
    · rw [a2 ht, b2 ht]
    · rw [a4 ht, b4 ht]
  subst hty
  have hprim : refKind ts = false := by
    obtain ⟨-, -, ts', es', a1, a2, -, a4, -⟩ := xat_of h1 h0
    obtain rfl : ts' = ts := Option.some.inj (es'.symm.trans es)
    rcases ht with ht | ht | ht
    · rw [a1 ht]; rfl
    · rw [a2 ht]; rfl
    · rw [a4 ht]; rfl
  have hA : A (ad kd od) := (hP.1 kd od hkd hod).mpr hmu
  have hget : ∀ i, i < ix n → cs.slots.getD (ix sp + i) .null = xav ad M ks os (ix sp + i) := fun i hi => by
    rw [Array.getD_eq_getD_getElem?, s6 _ (by omega)]
    rfl
  intro T hTH X
  obtain ⟨vm', X', step⟩ := X.arraycopy hx hown (hts _ (xnat_ok _ hl)) (hts _ xnat_n) (hts _ xnat_s) (hts _ xnat_i) (src := ad ks os) (dst := ad kd od) (cs := cs) (cd := cd) (srcPos := sp) (destPos := dp) (n := n) (by rw [hTH]; exact s1) (by rw [hTH]; exact d1)
    sv dv s3 d3 hkS hkD hkkS hkkD (by simp [hprim]) g1 g2 g3
    (by rw [xnn g1, xnn g3, s5]; show ¬ _; have := g4; show ¬ ((ix sp : Int) + (ix n : Int) > _); omega)
    (by rw [xnn g2, xnn g3, d5]; show ¬ ((ix dp : Int) + (ix n : Int) > _); omega)
    (fun vm₁ _ i hi => by
      show fits ts (cs.slots.getD (ix sp + i) .null) = true ∧ (T.setVm vm₁).takes cmD (cs.slots.getD (ix sp + i) .null)
      rw [hget i hi]
      obtain ⟨f1, f2⟩ := xav_fit (ad := ad) (j := ix sp + i) hB hos h1 ht es
      exact ⟨f1, f2 _ _⟩)
    (g := F0 m pc ls (.int n :: .int dp :: .ref (ad kd od) :: .int sp :: .ref (ad ks os) :: rest)) rfl hml rfl (by rw [hb]; exact hdg) hframes (by show 2 * 0 + _ + _ ≤ _; omega)
  have hlt : ad kd od < (T.setVm vm').heap.size := by
    show ad kd od < T.heap.size
    rw [hTH]
    exact (Array.getElem?_eq_some_iff.mp d1).1
  have e1 := heapAt_setCell_self (s := T.setVm vm') (cd.storeRun (ix dp) (cs.stretch (ix sp) (ix n))) hlt
  have e2 : ((T.setVm vm').setCell (ad kd od) (cd.storeRun (ix dp) (cs.stretch (ix sp) (ix n)))).heap.size = H.size := by rw [size_setCell]; show T.heap.size = _; rw [hTH]
  have e3 : ∀ q, q ≠ ad kd od → ((T.setVm vm').setCell (ad kd od) (cd.storeRun (ix dp) (cs.stretch (ix sp) (ix n)))).heap[q]? = H[q]? := fun q hq => by rw [heapAt_setCell_ne _ (Ne.symm hq)]; show T.heap[q]? = _; rw [hTH]
  obtain ⟨r1, r2, r3, -, -⟩ := cd.storeRun_facts (ix dp) (cs.stretch (ix sp) (ix n))
  have hM := xcq_cpy (M := M) (ks := ks) (os := os) (od := od) (sp := ix sp) (dp := ix dp) (n := ix n) hkd
  have hlen : (cs.stretch (ix sp) (ix n)).length = ix n := by simp [Cell.stretch]
  have hr3 := xrest_cq hkd hfd hM hT hB hK (fun h9 j => by
    by_cases hj : ix dp ≤ j ∧ j < ix dp + ix n
    · have e9 : gi (xcpy M ks os kd od (ix sp) (ix dp) (ix n)) kd od j = gi M ks os (ix sp + (j - ix dp)) := by unfold gi; rw [xcpy_in hj]
      rw [e9]
      exact hB.1 ks os _ (h1.trans (h2.symm.trans h9)) hos
    · have e9 : gi (xcpy M ks os kd od (ix sp) (ix dp) (ix n)) kd od j = gi M kd od j := by unfold gi; rw [xcpy_out (fun q => hj q.2.2)]
      rw [e9]
      exact hB.1 kd od j h9 hod)
  have hfin : va_S A s.heap ((T.setVm vm').setCell (ad kd od) (cd.storeRun (ix dp) (cs.stretch (ix sp) (ix n)))).heap (locs ++ (cs.stretch (ix sp) (ix n)).zipIdx.map fun q => ⟨ad kd od, ix dp + q.2⟩) := by
    refine ⟨by rw [e2]; exact hS.1, fun q q1 q2 => ?_, fun q hq => ?_⟩
    · rw [e3 q (fun e => q2 (by rw [e]; exact hA))]
      exact hS.2.1 q q1 q2
    · rcases List.mem_append.mp hq with h | h
      · exact hS.2.2 q h
      · obtain ⟨z, -, rfl⟩ := List.mem_map.mp h
        exact hA
  obtain ⟨t9, a1, b1⟩ := kk _ _ ⟨xWd_cq hW hP hkd hod hmu hM ed ⟨_, e1, ⟨fun k hk9 => dv k (by rw [← r2]; exact hk9), kD, by rw [r1]; exact hkD, cmD, hkkD⟩, by rw [r2]; exact d3, fun hA9 => ⟨by rw [r2]; exact (d4 hA9).1, fun hb9 => by rw [r1]; exact (d4 hA9).2.1 hb9, fun C hC => by rw [r1]; exact (d4 hA9).2.2 C hC⟩, by rw [r3, d5]; exact (xlen_eq (hM.2.2.2 kd od hkd)).symm, fun j hj => by
      rw [xlen_eq (hM.2.2.2 kd od hkd)] at hj
      rw [Cell.storeRun_get _ _ _ _ (by rw [hlen, d5]; exact g5), hlen]
      by_cases hin : ix dp ≤ j ∧ j < ix dp + ix n
      · rw [if_pos hin]
        unfold Cell.stretch
        rw [List.getElem?_map, List.getElem?_range (by omega)]
        show some (cs.slots.getD (ix sp + (j - ix dp)) .null) = _
        rw [hget _ (by omega), xav_cp h1 h2 ht (xcpy_in hin)]
      · rw [if_neg hin, d6 j hj, xav_cp h2 h2 ht (xcpy_out (fun q => hin q.2.2))]⟩ e3, hP.ch hM.1, hr3.1, hr3.2.1, hr3.2.2, hfin⟩ _ rfl X'
  exact ⟨t9, step t9 a1, b1⟩
theorem xw_clone (hx : p.tables.exec = Jvm.exec) (hb : c.code = cc) (hml : ls.size = c.maxLocals) (hts : ∀ w ∈ xwA, w.before args s = true) (hown : s.vm.findClass (xcn 17) = some m.cls) (Z : xCs A ad s) (I : xInv s A ad M s.heap H locs) (hAA : ∀ q, s.heap.size ≤ q → A q) {ks os : Nat} (hos : os < xc M ks) (h1 : xtc ks = 2) (hmu : xcst ks os = false) (hdyn : xdyn ks = true)
    (hframes : 1 ≤ R.frames) (hlocals : (rest.map fun v => v.category).sum + 14 ≤ R.locals) (hcells : cells + 1 ≤ R.cells) (hslots : slots + xlen ks os M ≤ R.slots) (hdg : decode cc pc = .ok (.invokevirtual 310, 3))
    (kk : ∀ H1 : Heap, xInv s A (xup ad 47 (xc M 47) H.size) (xcpy (xnewD M 47 (xlen ks os M)) ks os 47 (xc M 47) 0 0 (xlen ks os M)) s.heap H1 locs → W p l e R s m args below meth c H1 locs (cells + 1) (slots + xlen ks os M) Q (F0 m (pc + 3) ls (.ref H.size :: rest))) : W p l e R s m args below meth c H locs cells slots Q (F0 m pc ls (.ref (ad ks os) :: rest)) := by
  obtain ⟨hW, hP, hT, hB, hK, hS⟩ := I
  obtain ⟨hks, -, ts, es, -, a2, -⟩ := xat_of h1 (by decide)
  obtain rfl := a2 rfl
  obtain ⟨cs, s1, s2, s3, s4, s5, s6⟩ := (hW ks os hks hos).2 _ es
  have hA : A (ad ks os) := (hP.1 ks os hks hos).mpr hmu
  obtain ⟨hvm, hbn, -⟩ := s4 hA
  have hnm := hbn rfl
  obtain ⟨c0, t0', f1, f2, f3⟩ := Cond.castable_spec (va_Nw.use (A := args) rfl Z.2.2.2.2.2.1)
  cases hnm.symm.trans f1
  obtain ⟨sv, kS, hkS, cmS, hkkS⟩ := s2
  have hlen0 : xlen ks os M ≤ 65536 := by
    unfold xlen
    rw [hdyn]
    exact hB.2 ks os hdyn hks hos
  intro T hTH X
  have hal : s.vm.Alike T.vm := X.warmed.alike
  obtain ⟨kA, hkA, heA⟩ := hal.2.2 _ _ hkS
  have hkindA : kA.kind = .array cmS .byte := by rw [heA]; exact hkkS
  have hsv : ∀ (i : Nat) (v : Value), cs.slots[i]? = some v → fits .byte v = true := by
    intro i v hv
    have hi : i < xlen ks os M := by rw [← s5]; exact (Array.getElem?_eq_some_iff.mp hv).1
    rw [s6 i hi] at hv
    cases hv
    exact (xav_fit hB hos h1 (Or.inr (Or.inl rfl)) es).1
  obtain ⟨vm', X', st⟩ := X.cloneArray hx hown (hts _ xcl_l) (hts _ xcl_s) (hts _ xcl_n) (hts _ xcl_i) (hts _ xcl_e) (a := ad ks os) (cell := cs) (by rw [hTH]; exact s1) sv s3 hnm f2 f3
    (fun i v hv => by simpa [State.fitsSlot, State.slotType?, hkA, hkindA] using hsv i v hv)
    (g := F0 m pc ls (.ref (ad ks os) :: rest)) rfl hml rfl (by rw [hb]; exact hdg) hframes (by show 2 * 0 + _ + 14 ≤ _; omega) hcells (by rw [s5]; exact hslots) (hloader := Vm.clonesLoader_of_array hkS hkkS)
  rw [s5] at X'
  generalize hH1 : H.push ({ cls := cs.cls, slots := cs.slots } : Cell) = H1
  have z1 : H1.size = H.size + 1 := by rw [← hH1, Array.size_push]
  have e1 : H1[H.size]? = some ({ cls := cs.cls, slots := cs.slots } : Cell) := by rw [← hH1, Array.getElem?_push_size]
  have e3 : ∀ q : Nat, q < H.size → H1[q]? = H[q]? := fun q hq => by rw [← hH1, Array.getElem?_push, if_neg (Nat.ne_of_lt hq)]
  have hmD := xmk_newD (M := M) (k := 47) (n := xlen ks os M) (by decide)
  have hne : ¬ (ks = 47 ∧ os = xc M 47) := fun q => by rw [q.1] at hos; rw [q.2] at hos; omega
  have hold : ∀ f, xnewD M 47 (xlen ks os M) ks os f = M ks os f := fun f => (hmD.2.2.1 ks os f hks hos).1
  have hm : xmk M (xcpy (xnewD M 47 (xlen ks os M)) ks os 47 (xc M 47) 0 0 (xlen ks os M)) 47 := by
    refine ⟨by rw [xc, gn_xcpy_ne (by decide)]; exact hmD.1, fun k' h => by rw [xc, gn_xcpy_ne (by decide)]; exact hmD.2.1 k' h, fun k' o' f' q1 q2 => ⟨?_, by rw [gn_xcpy_ne (by omega)]; exact (hmD.2.2.1 k' o' f' q1 q2).2⟩, fun k' o' q1 q2 => by rw [gn_xcpy_ne (by omega)]; exact hmD.2.2.2 k' o' q1 q2⟩
    rw [xcpy_out (fun q => by rw [q.1] at q2; rw [q.2.1] at q2; omega)]
    exact (hmD.2.2.1 k' o' f' q1 q2).1
  have hc47 : xcst 47 (xc M 47) = false := by
    show (!Nat.ble 13 (xc M 47)) = false
    rw [Nat.ble_eq_true_of_le hK.2.2.2.2.2.1]
    rfl
  have hcv : ∀ j, j < xlen ks os M → xcpy (xnewD M 47 (xlen ks os M)) ks os 47 (xc M 47) 0 0 (xlen ks os M) 47 (xc M 47) j = M ks os j := fun j hj => by
    rw [xcpy_in (by omega), show 0 + (j - 0) = j by omega]
    exact hold j
  have hl47 : xlen 47 (xc M 47) (xcpy (xnewD M 47 (xlen ks os M)) ks os 47 (xc M 47) 0 0 (xlen ks os M)) = xlen ks os M := by
    show gn _ 157 _ 0 = _
    rw [gn_xcpy_ne (by decide)]
    exact (xnewD_def (k := 47) (f := 0) (by decide)).2.2.2.2
  have hW1 : xWd s A (xup ad 47 (xc M 47) H.size) (xcpy (xnewD M 47 (xlen ks os M)) ks os 47 (xc M 47) 0 0 (xlen ks os M)) H1 := by
    refine xWd_mk hW hT hm e3 (fun h => absurd rfl h) (fun ty hty => ?_)
    obtain rfl : FieldType.byte = ty := by injection hty
    refine ⟨({ cls := cs.cls, slots := cs.slots } : Cell), by rw [xup_eq]; exact e1, ⟨(fun z hz => by cases hz), kS, hkS, cmS, hkkS⟩, (fun z => by cases z), fun _ => ⟨rfl, fun _ => hnm, fun C hC => by cases hC⟩, by rw [hl47]; exact s5, fun j hj => ?_⟩
    rw [hl47] at hj
    show cs.slots[j]? = _
    rw [s6 j hj, xav_cp (t := 2) h1 rfl (Or.inr (Or.inl rfl)) (hcv j hj)]
    have : ∀ j, xav (xup ad 47 (xc M 47) H.size) M ks os j = xav ad M ks os j := fun j => by unfold xav; rw [es]
    rw [← this j]
  have hr1 := xrest_mk (k := 47) (by decide) hmD hT hB hK (fun f => ⟨(xnewD_def (k := 47) (f := f) (by decide)).1, (xnewD_def (k := 47) (f := f) (by decide)).2.2.2.1⟩) (fun _ => by rw [(xnewD_def (k := 47) (f := 0) (by decide)).2.2.2.2]; exact hlen0)
  have hr3 := xrest_cq (k := 47) (o := xc M 47) (by decide) rfl (xcq_cpy (M := xnewD M 47 (xlen ks os M)) (ks := ks) (os := os) (sp := 0) (dp := 0) (n := xlen ks os M) (by decide)) hr1.1 hr1.2.1 hr1.2.2 (fun _ j => by
    by_cases hj : j < xlen ks os M
    · have e9 : gi (xcpy (xnewD M 47 (xlen ks os M)) ks os 47 (xc M 47) 0 0 (xlen ks os M)) 47 (xc M 47) j = gi M ks os j := by unfold gi; rw [hcv j hj]
      rw [e9]
      exact hB.1 ks os j h1 hos
    · have e9 : gi (xcpy (xnewD M 47 (xlen ks os M)) ks os 47 (xc M 47) 0 0 (xlen ks os M)) 47 (xc M 47) j = gi (xnewD M 47 (xlen ks os M)) 47 (xc M 47) j := by unfold gi; rw [xcpy_out (by omega)]
      rw [e9, (xnewD_def (k := 47) (f := j) (by decide)).1]
      rfl)
  obtain ⟨t9, b1, b2⟩ := kk H1 ⟨hW1, xAp_mk (by decide) (by decide) hP hW hm hc47 (hAA _ hS.1), hr3.1, hr3.2.1, hr3.2.2, va_S_more hS (by omega) e3⟩ _ (by rw [← hH1, ← hTH]; rfl) X'
  refine ⟨t9, st t9 ?_, b2⟩
  have hTs : T.heap.size = H.size := by rw [hTH]
  rw [← hTs] at b1
  exact b1
theorem xw_cast (hx : p.tables.exec = Jvm.exec) (hb : c.code = cc) (hts : ∀ w ∈ xwA, w.before args s = true) (hown : s.vm.findClass (xcn 17) = some m.cls) (I : xInv s A ad M s.heap H locs) {o : Nat} (ho : o < xc M 47) (hmu : xcst 47 o = false) (hdg : decode cc pc = .ok (.checkcast 311, 3))
    (kk : W p l e R s m args below meth c H locs cells slots Q (F0 m (pc + 3) ls (.ref (ad 47 o) :: rest))) : W p l e R s m args below meth c H locs cells slots Q (F0 m pc ls (.ref (ad 47 o) :: rest)) := by
  obtain ⟨hW, hP, -⟩ := I
  obtain ⟨cs, s1, s2, s3, s4, -⟩ := (hW 47 o (by decide) ho).2 .byte rfl
  obtain ⟨hvm, hbn, -⟩ := s4 ((hP.1 47 o (by decide) ho).mpr hmu)
  exact va_castE hx hb hown (hts _ xca_l) ⟨cs, s1, by rw [hvm]; rfl, hbn rfl⟩ hdg kk
end XCPY
end
section
/-! THE INSTRUCTIONS THAT JUMP, LOOK, STORE INTO ARRAYS, MAKE THINGS, over the world of a store. -/
theorem xok_dec2 {y pc nx n : Nat} {i : Instr} {e X : Bool} (h : (xdec y pc i n && ((e || Nat.beq nx (pc + n)) && X)) = true) : decode (xCode y) pc = .ok (i, n) ∧ X = true := by
  rw [Bool.and_eq_true, Bool.and_eq_true] at h
  exact ⟨of_decide_eq_true h.1, h.2.2⟩
/-- addresses of the same things -/
def xSm (ad ad' : xA) (M : xM) : Prop := (∀ k o, k < 60 → k ≠ 51 → o < xc M k → ad' k o = ad k o) ∧ ∀ o, ad' 60 o = ad 60 o
theorem xSm.refl (ad : xA) (M : xM) : xSm ad ad M := ⟨fun _ _ _ _ _ => rfl, fun _ => rfl⟩
theorem xSm.trans {ad ad1 ad2 : xA} {M M1 : xM} (h : xSm ad ad1 M) (hm : xmon M M1) (h1 : xSm ad1 ad2 M1) : xSm ad ad2 M := ⟨fun k o hk h5 ho => (h1.1 k o hk h5 (Nat.lt_of_lt_of_le ho (hm.1 k))).trans (h.1 k o hk h5 ho), fun o => (h1.2 o).trans (h.2 o)⟩
theorem xenc_sm {ad ad' : xA} {M : xM} {rg : Option (List (Nat × Nat))} {v : xV} (h : xSm ad ad' M) (hv : xvok rg M v) : xenc ad' v = xenc ad v := by
  obtain ⟨k, w⟩ := v
  cases w with
  | ref o =>
    by_cases h51 : k = 51
    · subst h51
      unfold xenc
      simp only
      rw [h.2 o]
    · rcases hv with q | ⟨q1, q2, -⟩
      · exact absurd q h51
      · rw [xenc_ref h51, xenc_ref h51, h.1 k o q1 h51 q2]
  | _ => rfl
theorem xmap_sm {ad ad' : xA} {M : xM} {rg : Option (List (Nat × Nat))} {st : List xV} (h : xSm ad ad' M) (hv : ∀ v ∈ st, xvok rg M v) : st.map (xenc ad') = st.map (xenc ad) := List.map_congr_left fun v hm => xenc_sm h (hv v hm)
theorem xSm_up {ad : xA} {M : xM} {k a : Nat} (hk : k < 60) : xSm ad (xup ad k (xc M k) a) M := by
  refine ⟨fun k' o' _ _ ho => xup_ne (fun q => ?_), fun o' => xup_ne (fun q => Nat.lt_irrefl 60 (by rw [← q.1] at hk; exact hk))⟩
  rw [q.1] at ho
  rw [q.2] at ho
  omega
/-- what a switch answers -/
theorem xsw_spec {f : Nat → xR} {x : Int32} {d : Nat} : ∀ (ts : List Nat) (k : Nat), k + ts.length < 1000 → (∃ (j : Nat) (t : Nat), ts[j]? = some t ∧ x.toInt = ((k + j : Nat) : Int) ∧ xsw f x d k ts = f t) ∨ ((x.toInt < (k : Int) ∨ ((k + ts.length : Nat) : Int) ≤ x.toInt) ∧ xsw f x d k ts = f d)
  | [], k, _ => Or.inr ⟨by simp only [List.length_nil, Nat.add_zero]; omega, rfl⟩
  | t :: r, k, hl => by
    have hk : (Int32.ofNat k).toInt = (k : Int) := nI_toInt (by simp at hl; omega)
    by_cases h : x = Int32.ofNat k
    · exact Or.inl ⟨0, t, rfl, by rw [h, hk]; rfl, if_pos h⟩
    · have e : xsw f x d k (t :: r) = xsw f x d (k + 1) r := if_neg h
      have hne : x.toInt ≠ (k : Int) := fun q => h (Int32.toInt_inj.mp (q.trans hk.symm))
      rcases xsw_spec (f := f) (x := x) (d := d) r (k + 1) (by simp at hl ⊢; omega) with ⟨j, t', h1, h2, h3⟩ | ⟨h1, h2⟩
      · exact Or.inl ⟨j + 1, t', by simpa using h1, by rw [h2]; omega, e.trans h3⟩
      · refine Or.inr ⟨?_, e.trans h2⟩
        simp only [List.length_cons]
        omega
/-- array stores -/
theorem xrest_ast {M M' : xM} {k o j t : Nat} (hk : k < 60) (ht : xtc k = t) (h0 : t ≠ 0) (hM : xch M M' k o j) (hT : xWT M) (hB : xBt M) (hK : xK M) (hae : ∀ tk tw, xae k = some (tk, tw) → xf M' k o j → j + tw < xc M tk) (hby : t = 2 → fits .byte (.int (gi M' k o j)) = true) : xWT M' ∧ xBt M' ∧ xK M' := by
  obtain ⟨-, hfd, -⟩ := xat_of ht h0
  refine ⟨⟨fun k' o' f' t tk tw hk' ho' hd' ht hf => ?_, fun k' o' tk tw j' hk' ho' hae' hj hf => ?_⟩, ⟨fun k' o' j' ht' ho' => ?_, fun k' o' hy hk' ho' => ?_⟩, ?_⟩
  · rw [hM.1] at ho' ⊢
    have hne : k' ≠ k := fun e => by rw [e, hfd] at hd'; simp at hd'
    obtain ⟨q1, q2⟩ := hM.2.1 k' o' f' hk' (fun q => hne q.1)
    have e3 : gn M' k' o' f' = gn M k' o' f' := by unfold gn; rw [q1]
    rw [e3]
    exact hT.1 k' o' f' t tk tw hk' ho' hd' ht (by show gn M (200 + k') o' f' = 1; rw [← q2]; exact hf)
  · rw [hM.1] at ho' ⊢
    by_cases e : k' = k ∧ o' = o ∧ j' = j
    · obtain ⟨rfl, rfl, rfl⟩ := e
      exact hae tk tw hae' hf
    · obtain ⟨-, q2⟩ := hM.2.1 k' o' j' hk' e
      exact hT.2 k' o' tk tw j' hk' ho' hae' hj (by show gn M (200 + k') o' j' = 1; rw [← q2]; exact hf)
  · rw [hM.1] at ho'
    by_cases e : k' = k ∧ o' = o ∧ j' = j
    · obtain ⟨rfl, rfl, rfl⟩ := e
      exact hby (ht.symm.trans ht')
    · obtain ⟨q1, -⟩ := hM.2.1 k' o' j' (xtc_lt k' (by rw [ht']; decide)) e
      have e3 : gi M' k' o' j' = gi M k' o' j' := by unfold gi; rw [q1]
      rw [e3]
      exact hB.1 k' o' j' ht' ho'
  · rw [hM.1] at ho'
    rw [hM.2.2 k' o' hk']
    exact hB.2 k' o' hy hk' ho'
  · obtain ⟨a, b, c, e1, e2, e3, e4, e5⟩ := hK
    exact ⟨by rw [hM.1]; exact a, by rw [hM.1]; exact b, by rw [hM.1]; exact c, by rw [hM.1]; exact e1, by rw [hM.1]; exact e2, by rw [hM.1]; exact e3, by rw [hM.1]; exact e4, by rw [hM.1]; exact e5⟩
theorem xnab_fit (x : Int32) : fits .byte (.int (xnab 2 x)) = true := by
  show fits .byte (.int x.toInt8.toInt32) = true
  exact pk_fb x
/-- arrays of references -/
theorem xae_all : (List.range 60).all (fun k => match xae k with
  | none => true
  | some (tk, _) => Nat.beq (xtc k) 6 && (!xdyn k && (Nat.blt tk 60 && (!Nat.beq tk 51 && (Nat.beq tk 43 || (!(xfd tk).isEmpty && xmut k 0 && !Nat.beq k 46 && !Nat.beq k 47)))))) = true := by decide +kernel
theorem xae_lt {k : Nat} {q : Nat × Nat} (h : xae k = some q) : k < 60 := by
  unfold xae at h
  split at h <;> first | omega | cases h
theorem xae_facts {k tk tw : Nat} (h : xae k = some (tk, tw)) : k < 60 ∧ xtc k = 6 ∧ (∀ {o : Nat} {M : xM}, xlen k o M = xnth xlens k) ∧ k ≠ 51 ∧ tk < 60 ∧ tk ≠ 51 := by
  have hk := xae_lt h
  have h1 := List.all_eq_true.mp xae_all k (List.mem_range.mpr hk)
  rw [h] at h1
  simp only [Bool.and_eq_true] at h1
  obtain ⟨q1, q2, q3, q4, -⟩ := h1
  refine ⟨hk, Nat.eq_of_beq_eq_true q1, fun {o M} => ?_, fun e => ?_, Nat.le_of_ble_eq_true q3, fun e => ?_⟩
  · unfold xlen
    have : xdyn k = false := by simpa using q2
    rw [this]
  · rw [e] at h; cases h
  · rw [e] at q4; cases q4
theorem xae_mut {k tk tw : Nat} (h : xae k = some (tk, tw)) (h43 : tk ≠ 43) : xfd tk ≠ [] ∧ ∀ o, xcst k o = false := by
  have hk := xae_lt h
  have h1 := List.all_eq_true.mp xae_all k (List.mem_range.mpr hk)
  rw [h] at h1
  simp only [Bool.and_eq_true] at h1
  obtain ⟨-, -, -, -, q5⟩ := h1
  rcases (Bool.or_eq_true _ _).mp q5 with z | z
  · exact absurd (Nat.eq_of_beq_eq_true z) h43
  · simp only [Bool.and_eq_true] at z
    obtain ⟨⟨⟨z1, z2⟩, z3⟩, z4⟩ := z
    refine ⟨fun e => (by rw [e] at z1; cases z1), fun o => ?_⟩
    have h46 : k ≠ 46 := fun e => by rw [e] at z3; cases z3
    have h47 : k ≠ 47 := fun e => by rw [e] at z4; cases z4
    unfold xcst
    unfold xmut at z2 ⊢
    split <;> simp_all
theorem xav_ref {ad : xA} {M : xM} {k o j tk tw : Nat} (hk : k < 60) (hae : xae k = some (tk, tw)) (hf : xf M k o j) : xav ad M k o j = .ref (ad tk (j + tw)) := by
  obtain ⟨-, ht, -⟩ := xae_facts hae
  obtain ⟨-, -, ty, e1, -, -, -, -, -, a6⟩ := xat_of ht (by decide)
  obtain ⟨tk', tw', e2, e3, -⟩ := a6 rfl
  cases hae.symm.trans e2
  unfold xav
  rw [e1, e3]
  simp only [hae]
  rw [if_pos hf]
theorem xnew_cells {M : xM} {k n : Nat} (hk : k < 60) : gn (xnew M k n) 100 0 0 = gn M 100 0 0 + 1 := by
  unfold xnew xbump
  rw [gn_xst, if_neg (by omega), gn_xst, if_pos ⟨rfl, rfl, rfl⟩]
  show gn _ 100 0 0 + 1 = _
  rw [gn_xst_ne (by omega), gn_xclr_ne (by omega) (by omega)]
theorem xnew_slots {M : xM} {k n : Nat} (hk : k < 60) : gn (xnew M k n) 100 0 1 = gn M 100 0 1 + n := by
  unfold xnew xbump
  rw [gn_xst, if_pos ⟨rfl, rfl, rfl⟩]
  show gn _ 100 0 1 + n = _
  rw [gn_xst_ne (by omega), gn_xclr_ne (by omega) (by omega)]
theorem xae_of_at {k : Nat} {ty : FieldType} (hk : k < 60) (hty : xat k = some ty) (hn : ∀ C, ty ≠ .object C) : xae k = none := by
  have h1 : (List.range 60).all (fun k => (xae k).isNone || (match xat k with
    | some (.object _) => true
    | _ => false)) = true := by decide +kernel
  have h2 := List.all_eq_true.mp h1 k (List.mem_range.mpr hk)
  rcases (Bool.or_eq_true _ _).mp h2 with h | h
  · simpa using h
  · rw [hty] at h
    cases ty <;> first | (cases h; done) | exact absurd rfl (hn _)
/-- calls, and what ends a frame, apart -/
def xapart_i (i : Instr) (aux : List Nat) : Bool := match i with
  | .invokevirtual _ => true
  | .invokestatic _ => true
  | .invokespecial _ => true
  | .ireturn => true
  | .lreturn => true
  | .freturn => true
  | .dreturn => true
  | .areturn => true
  | .return_ => true
  | .new _ => Nat.blt aux.length 3
  | _ => false
set_option maxHeartbeats 8000000 in
theorem xctl_W {p : Program} {l : Launch} {e : Env} {R : Room} {s : State} {m : MethodId} {args : Array Value} {below : List Frame} {meth : Method} {c : Code} {H : Heap} {locs : List Loc} {cells slots : Nat} {Q : State → Prop} {A : Nat → Prop} {ad : xA} {tab : Nat → List xE} {ml : Nat → Nat} {Ec En : xP}
    {y pc fc fs : Nat} {i : Instr} {aux : List Nat} {kc : Int32} {C cs : List xE} {ls st : List xV} {M : xM} {r : (Option xV ⊕ Nat) × xM} {la : Array Slot} {rg : Option (List (Nat × Nat))}
    (F : xFx y p l s m args meth c) (Z : xCs A ad s) (I : xInv s A ad M s.heap H locs) (hl : xlr ad (xml y) la ls) (vl : ∀ v ∈ ls, xvok rg M v) (vs : ∀ v ∈ st, xvok rg M v) (hr : xrok rg M) (hrg : xreg y = false → ∃ L, rg = some L) (hrg2 : xreg y = true → rg = none) (hAA : ∀ q, s.heap.size ≤ q → A q)
    (hok : xok y C (pc, i, aux, kc) (xpc cs) = true) (hcs : ∃ j, cs = C.drop j) (hap : xapart_i i aux = false) (h : xctl tab ml Ec En i aux kc C cs ls st M = some r)
    (hmn : ∀ cs' ls' st' M', En C cs' ls' st' M' = some r → xmon M' r.2) (hc : cells + gn r.2 100 0 0 ≤ fc + gn M 100 0 0) (hs : slots + gn r.2 100 0 1 ≤ fs + gn M 100 0 1) (hfc : fc ≤ R.cells) (hfs : fs ≤ R.slots)
    (kk : ∀ (cs' : List xE) (ls' st' : List xV) (M' : xM) (ad' : xA) (H1 : Heap) (locs1 : List Loc) (la1 : Array Slot) (cells1 slots1 : Nat), En C cs' ls' st' M' = some r → (∃ j, cs' = C.drop j) → xSm ad ad' M → xmon M M' → xInv s A ad' M' s.heap H1 locs1 → xlr ad' (xml y) la1 ls' → (∀ v ∈ ls', xvok rg M' v) → (∀ v ∈ st', xvok rg M' v) → cells1 + gn r.2 100 0 0 ≤ fc + gn M' 100 0 0 → slots1 + gn r.2 100 0 1 ≤ fs + gn M' 100 0 1 → W p l e R s m args below meth c H1 locs1 cells1 slots1 Q (F0 m (xpc cs') la1 (st'.map (xenc ad')))) :
    W p l e R s m args below meth c H locs cells slots Q (F0 m pc la (st.map (xenc ad))) := by
  obtain ⟨hx, hb, hml, hown, hts, hlk, hrt, hnm, htr⟩ := F
  have kp : ∀ (cs' : List xE) (st' : List xV), En C cs' ls st' M = some r → (∃ j, cs' = C.drop j) → (∀ v ∈ st', xvok rg M v) → W p l e R s m args below meth c H locs cells slots Q (F0 m (xpc cs') la (st'.map (xenc ad))) := fun cs' st' h1 h2 h3 => kk cs' ls st' M ad H locs la cells slots h1 h2 (xSm.refl ad M) (xmon_refl M) I hl vl h3 hc hs
  have hj : ∀ {off : Int}, xjmp C pc off aux = true → (pc : Int) + off = (xpc (C.drop (aux.headD 0)) : Int) := by
    intro off hX
    unfold xjmp at hX
    split at hX
    · exact of_decide_eq_true hX
    · cases hX
  cases i with
  | ifnonnull off =>
    simp only [xctl] at h
    split at h
    · rename_i k o st2
      obtain ⟨hg, h2⟩ := xgd_some h
      obtain ⟨hd, hX⟩ := xok_dec2 hok
      rw [List.map_cons, xenc_ref (fun e => by rw [e] at hg; cases hg)]
      exact lv_ifnonnull hx hb hd (hj hX) (kp _ _ h2 ⟨_, rfl⟩ (xpop vs))
    · cases h
  | goto off =>
    simp only [xctl] at h
    obtain ⟨hd, hX⟩ := xok_dec2 hok
    exact lv_goto hx hb hd (hj hX) (kp _ _ h ⟨_, rfl⟩ vs)
  | ifCond cc off =>
    simp only [xctl] at h
    split at h
    · obtain ⟨hd, hX⟩ := xok_dec2 hok
      obtain ⟨-, hnx, -⟩ := xok_dec (e := false) hok rfl
      have vs2 := xpop vs
      have fall : ∀ st', En C cs ls st' M = some r → (∀ v ∈ st', xvok rg M v) → W p l e R s m args below meth c H locs cells slots Q (F0 m (pc + 3) la (st'.map (xenc ad))) := fun st' h1 h2 => by
        have := kp cs st' h1 hcs h2
        rw [hnx] at this
        exact this
      cases cc with
      | eq => exact lv_if_eq hx hb hd (hj hX) (fun h1 => kp _ _ (by simpa only [if_pos h1] using h) ⟨_, rfl⟩ vs2) (fun h1 => fall _ (by simpa only [if_neg h1] using h) vs2)
      | ne => exact lv_if_ne hx hb hd (hj hX) (fun h1 => kp _ _ (by simpa only [if_neg h1] using h) ⟨_, rfl⟩ vs2) (fun h1 => fall _ (by simpa only [if_pos h1] using h) vs2)
      | lt => exact lv_if_lt hx hb hd (hj hX) (fun h1 => kp _ _ (by simpa only [if_pos h1] using h) ⟨_, rfl⟩ vs2) (fun h1 => fall _ (by simpa only [if_neg h1] using h) vs2)
      | ge => exact lv_if_ge hx hb hd (hj hX) (fun h1 => kp _ _ (by simpa only [if_neg (Int32.not_lt.mpr h1)] using h) ⟨_, rfl⟩ vs2) (fun h1 => fall _ (by simpa only [if_pos (Int32.not_le.mp h1)] using h) vs2)
      | gt => exact lv_if_gt hx hb hd (hj hX) (fun h1 => kp _ _ (by simpa only [if_pos h1] using h) ⟨_, rfl⟩ vs2) (fun h1 => fall _ (by simpa only [if_neg h1] using h) vs2)
      | le => exact lv_if_le hx hb hd (hj hX) (fun h1 => kp _ _ (by simpa only [if_neg (Int32.not_lt.mpr h1)] using h) ⟨_, rfl⟩ vs2) (fun h1 => fall _ (by simpa only [if_pos (Int32.not_le.mp h1)] using h) vs2)
    · cases h
  | if_icmp cc off =>
    simp only [xctl] at h
    split at h
    · obtain ⟨hd, hX⟩ := xok_dec2 hok
      obtain ⟨-, hnx, -⟩ := xok_dec (e := false) hok rfl
      have vs2 := xpop (xpop vs)
      have fall : ∀ st', En C cs ls st' M = some r → (∀ v ∈ st', xvok rg M v) → W p l e R s m args below meth c H locs cells slots Q (F0 m (pc + 3) la (st'.map (xenc ad))) := fun st' h1 h2 => by
        have := kp cs st' h1 hcs h2
        rw [hnx] at this
        exact this
      cases cc with
      | eq => exact lv_icmp_eq hx hb hd (hj hX) (fun h1 => kp _ _ (by simpa only [if_pos h1] using h) ⟨_, rfl⟩ vs2) (fun h1 => fall _ (by simpa only [if_neg h1] using h) vs2)
      | ne => exact lv_icmp_ne hx hb hd (hj hX) (fun h1 => kp _ _ (by simpa only [if_neg h1] using h) ⟨_, rfl⟩ vs2) (fun h1 => fall _ (by simpa only [if_pos h1] using h) vs2)
      | lt => exact lv_icmp_lt hx hb hd (hj hX) (fun h1 => kp _ _ (by simpa only [if_pos h1] using h) ⟨_, rfl⟩ vs2) (fun h1 => fall _ (by simpa only [if_neg h1] using h) vs2)
      | ge => exact lv_icmp_ge hx hb hd (hj hX) (fun h1 => kp _ _ (by simpa only [if_neg (Int32.not_lt.mpr h1)] using h) ⟨_, rfl⟩ vs2) (fun h1 => fall _ (by simpa only [if_pos (Int32.not_le.mp h1)] using h) vs2)
      | gt => exact lv_icmp_gt hx hb hd (hj hX) (fun h1 => kp _ _ (by simpa only [if_pos h1] using h) ⟨_, rfl⟩ vs2) (fun h1 => fall _ (by simpa only [if_neg h1] using h) vs2)
      | le => exact lv_icmp_le hx hb hd (hj hX) (fun h1 => kp _ _ (by simpa only [if_neg (Int32.not_lt.mpr h1)] using h) ⟨_, rfl⟩ vs2) (fun h1 => fall _ (by simpa only [if_pos (Int32.not_le.mp h1)] using h) vs2)
    · cases h
  | if_acmp cc off =>
    simp only [xctl] at h
    split at h
    · rename_i ky yy kx xx st2
      split at h
      · rename_i hkk
        obtain ⟨hd, hX⟩ := xok_dec2 hok
        obtain ⟨-, hnx, -⟩ := xok_dec (e := false) hok rfl
        have vs2 := xpop (xpop vs)
        have fall : ∀ st', En C cs ls st' M = some r → (∀ v ∈ st', xvok rg M v) → W p l e R s m args below meth c H locs cells slots Q (F0 m (pc + 3) la (st'.map (xenc ad))) := fun st' h1 h2 => by
          have := kp cs st' h1 hcs h2
          rw [hnx] at this
          exact this
        have h42 : Nat.beq kx 42 = true := by
          cases hz : Nat.beq kx 42 with
          | true => rfl
          | false => rw [hz] at h; cases cc <;> cases h
        have e42 := Nat.eq_of_beq_eq_true h42
        subst e42
        subst hkk
        have hy : yy < xc M 42 := by
          rcases vs _ List.mem_cons_self with q | q
          · cases q
          · exact q.2.1
        have hxx : xx < xc M 42 := by
          rcases vs _ (List.mem_cons_of_mem _ List.mem_cons_self) with q | q
          · cases q
          · exact q.2.1
        have inj : some (ad 42 xx) = some (ad 42 yy) ↔ xx = yy := ⟨fun q => I.2.1.2.2 _ _ hxx hy (Option.some.inj q), fun q => by rw [q]⟩
        rw [List.map_cons, List.map_cons, xenc_ref (by decide), xenc_ref (by decide)]
        cases cc with
        | eq => exact lv_acmp_eq (rx := some (ad 42 xx)) (ry := some (ad 42 yy)) hx hb hd (hj hX) (fun h1 => kp _ _ (by simpa only [h42, if_pos (inj.mp h1)] using h) ⟨_, rfl⟩ vs2) (fun h1 => fall _ (by simpa only [h42, if_neg (fun q => h1 (inj.mpr q))] using h) vs2)
        | ne => exact lv_acmp_ne (rx := some (ad 42 xx)) (ry := some (ad 42 yy)) hx hb hd (hj hX) (fun h1 => kp _ _ (by simpa only [h42, if_neg (fun q => h1 (inj.mpr q))] using h) ⟨_, rfl⟩ vs2) (fun h1 => fall _ (by simpa only [h42, if_pos (inj.mp h1)] using h) vs2)
      · cases h
    · cases h
  | tableswitch dflt lo hi offs =>
    simp only [xctl] at h
    split at h
    · rename_i k x st2 d l ts
      have hok2 : ((match decode (xCode y) pc with
        | .ok (i', _) => decide (i' = Instr.tableswitch dflt lo hi offs)
        | _ => false) && (decide (lo = (l : Int)) && (decide (hi = (l : Int) + ts.length - 1) && (Nat.beq offs.size ts.length && (Nat.blt (l + ts.length) 1000 && (decide ((pc : Int) + dflt = (xpc (C.drop d) : Int)) && (List.range ts.length).all (fun j => match offs[j]?, ts[j]? with
          | some off, some t => decide ((pc : Int) + off = (xpc (C.drop t) : Int))
          | _, _ => false))))))) = true := hok
      simp only [Bool.and_eq_true] at hok2
      obtain ⟨q1, q2, q3, q4, q5, q6, q7⟩ := hok2
      have e2 := of_decide_eq_true q2
      have e3 := of_decide_eq_true q3
      have e5 := Nat.le_of_ble_eq_true q5
      have hd : ∃ n, decode (xCode y) pc = .ok (.tableswitch dflt lo hi offs, n) := by
        split at q1
        · rename_i i' n hdd
          have e9 := of_decide_eq_true q1
          subst e9
          exact ⟨n, hdd⟩
        · cases q1
      obtain ⟨n, hd⟩ := hd
      rcases xsw_spec (f := fun t => En C (C.drop t) ls st2 M) (x := x) (d := d) ts l (by omega) with ⟨j, t, g1, g2, g3⟩ | ⟨g1, g2⟩
      · rw [g3] at h
        have hjl : j < ts.length := (List.getElem?_eq_some_iff.mp g1).1
        have h7 := List.all_eq_true.mp q7 j (List.mem_range.mpr hjl)
        rw [g1] at h7
        cases ho : offs[j]? with
        | none => rw [ho] at h7; cases h7
        | some off =>
          rw [ho] at h7
          refine lv_tableIn hx hb hd (by omega) (by omega) (off := off) ?_ (of_decide_eq_true h7) (kp _ _ h ⟨_, rfl⟩ (xpop vs))
          rw [show (x.toInt - lo).toNat = j by omega]
          exact ho
      · rw [g2] at h
        exact lv_tableOut hx hb hd (by omega) (of_decide_eq_true q6) (kp _ _ h ⟨_, rfl⟩ (xpop vs))
    · cases h
  | idiv =>
    simp only [xctl] at h
    split at h
    · split at h
      · cases h
      · rename_i h0
        obtain ⟨hd, hnx, hX⟩ := xok_dec (e := false) hok rfl
        refine lv_idiv hx hb hd h0 ?_
        have := kp _ _ h hcs (xpush trivial (xpop (xpop vs)))
        rw [hnx] at this
        exact this
    · cases h
  | irem =>
    simp only [xctl] at h
    split at h
    · split at h
      · cases h
      · rename_i h0
        obtain ⟨hd, hnx, hX⟩ := xok_dec (e := false) hok rfl
        refine lv_irem hx hb hd h0 ?_
        have := kp _ _ h hcs (xpush trivial (xpop (xpop vs)))
        rw [hnx] at this
        exact this
    · cases h
  | f2d =>
    simp only [xctl] at h
    split at h
    · split at h
      · rename_i h0
        obtain ⟨hd, hnx, hX⟩ := xok_dec (e := false) hok rfl
        refine lv_f2d hx hb hd h0 ?_
        have := kp _ _ h hcs (xpush trivial (xpop vs))
        rw [hnx] at this
        exact this
      · cases h
    · cases h
  | fdiv =>
    simp only [xctl] at h
    split at h
    · split at h
      · rename_i h0
        obtain ⟨hd, hnx, hX⟩ := xok_dec (e := false) hok rfl
        refine lv_fdiv hx hb hd h0 ?_
        have := kp _ _ h hcs (xpush trivial (xpop (xpop vs)))
        rw [hnx] at this
        exact this
      · cases h
    · cases h
  | ddiv =>
    simp only [xctl] at h
    split at h
    · split at h
      · rename_i h0
        obtain ⟨hd, hnx, hX⟩ := xok_dec (e := false) hok rfl
        refine lv_ddiv hx hb hd h0 ?_
        have := kp _ _ h hcs (xpush trivial (xpop (xpop vs)))
        rw [hnx] at this
        exact this
      · cases h
    · cases h
  | laload =>
    simp only [xctl] at h
    split at h
    · rename_i ki i k o st2
      obtain ⟨hg, h⟩ := xgd_some h
      obtain ⟨hin, h⟩ := xck_some h
      obtain ⟨hd, hnx, hX⟩ := xok_dec (e := false) hok rfl
      have ht : xtc k = 4 := Nat.eq_of_beq_eq_true hg
      have h51 : k ≠ 51 := fun e9 => by rw [e9] at ht; simp [xtc] at ht
      have ho : o < xc M k := by
        rcases vs _ (List.mem_cons_of_mem _ List.mem_cons_self) with q | q
        · exact absurd q h51
        · exact q.2.1
      rw [List.map_cons, List.map_cons, xenc_ref h51]
      have this := kp _ _ h hcs (xpush trivial (xpop (xpop vs)))
      rw [hnx] at this
      have ev : xav ad M k o (ix i) = .long (gl M k o (ix i)) := by
        obtain ⟨-, -, ty, e1, a1, a2, a3, a4, a5, -⟩ := xat_of ht (by decide)
        unfold xav
        rw [e1, a4 rfl]
      exact xw_ald hx hb I.1 ho ht hin (Or.inr (Or.inr (Or.inl ⟨rfl, rfl⟩))) hd (by rw [ev]; exact this)
    · cases h
  | daload =>
    simp only [xctl] at h
    split at h
    · rename_i ki i k o st2
      obtain ⟨hg, h⟩ := xgd_some h
      obtain ⟨hin, h⟩ := xck_some h
      obtain ⟨hd, hnx, hX⟩ := xok_dec (e := false) hok rfl
      have ht : xtc k = 5 := Nat.eq_of_beq_eq_true hg
      have h51 : k ≠ 51 := fun e9 => by rw [e9] at ht; simp [xtc] at ht
      have ho : o < xc M k := by
        rcases vs _ (List.mem_cons_of_mem _ List.mem_cons_self) with q | q
        · exact absurd q h51
        · exact q.2.1
      rw [List.map_cons, List.map_cons, xenc_ref h51]
      have this := kp _ _ h hcs (xpush trivial (xpop (xpop vs)))
      rw [hnx] at this
      have ev : xav ad M k o (ix i) = .double (gd M k o (ix i)) := by
        obtain ⟨-, -, ty, e1, a1, a2, a3, a4, a5, -⟩ := xat_of ht (by decide)
        unfold xav
        rw [e1, a5 rfl]
      exact xw_ald hx hb I.1 ho ht hin (Or.inr (Or.inr (Or.inr (Or.inl ⟨rfl, rfl⟩)))) hd (by rw [ev]; exact this)
    · cases h
  | iaload =>
    simp only [xctl] at h
    split at h
    · rename_i ki i k o st2
      obtain ⟨hg, h⟩ := xgd_some h
      obtain ⟨hin, h⟩ := xck_some h
      obtain ⟨hd, hnx, hX⟩ := xok_dec (e := false) hok rfl
      have ht : xtc k = 1 := by
        cases aux with
        | nil => exact Nat.eq_of_beq_eq_true hg
        | cons a b => exact nomatch (show false = true from hX)
      have h51 : k ≠ 51 := fun e9 => by rw [e9] at ht; simp [xtc] at ht
      have ho : o < xc M k := by
        rcases vs _ (List.mem_cons_of_mem _ List.mem_cons_self) with q | q
        · exact absurd q h51
        · exact q.2.1
      rw [List.map_cons, List.map_cons, xenc_ref h51]
      have this := kp _ _ h hcs (xpush trivial (xpop (xpop vs)))
      rw [hnx] at this
      have ev : xav ad M k o (ix i) = .int (gi M k o (ix i)) := by
        obtain ⟨-, -, ty, e1, a1, a2, a3, a4, a5, -⟩ := xat_of ht (by decide)
        unfold xav
        rw [e1, a1 rfl]
      exact xw_ald hx hb I.1 ho ht hin (Or.inl ⟨rfl, rfl⟩) hd (by rw [ev]; exact this)
    · cases h
  | baload =>
    simp only [xctl] at h
    split at h
    · rename_i ki i k o st2
      obtain ⟨hg, h⟩ := xgd_some h
      obtain ⟨hin, h⟩ := xck_some h
      obtain ⟨hd, hnx, hX⟩ := xok_dec (e := false) hok rfl
      have ht : xtc k = 2 ∨ xtc k = 3 := by
        cases aux with
        | nil => exact nomatch (show false = true from hX)
        | cons a b =>
          rcases (Bool.or_eq_true _ _).mp hg with z | z
          · exact Or.inl (Nat.eq_of_beq_eq_true z)
          · exact Or.inr (Nat.eq_of_beq_eq_true z)
      have h51 : k ≠ 51 := fun e9 => by rw [e9] at ht; simp [xtc] at ht
      have ho : o < xc M k := by
        rcases vs _ (List.mem_cons_of_mem _ List.mem_cons_self) with q | q
        · exact absurd q h51
        · exact q.2.1
      rw [List.map_cons, List.map_cons, xenc_ref h51]
      have this := kp _ _ h hcs (xpush trivial (xpop (xpop vs)))
      rw [hnx] at this
      have ev : xav ad M k o (ix i) = .int (gi M k o (ix i)) := by
        unfold xav
        rcases ht with ht | ht
        · obtain ⟨-, -, ty, e1, a1, a2, a3, a4, a5, -⟩ := xat_of ht (by decide)
          rw [e1, a2 rfl]
        · obtain ⟨-, -, ty, e1, a1, a2, a3, a4, a5, -⟩ := xat_of ht (by decide)
          rw [e1, a3 rfl]
      exact xw_ald hx hb I.1 ho rfl hin (Or.inr (Or.inl ⟨rfl, ht⟩)) hd (by rw [ev]; exact this)
    · cases h
  | iastore =>
    simp only [xctl] at h
    split at h
    · rename_i kx x ki i k o st2
      split at h
      · rename_i hg
        obtain ⟨hin, h⟩ := xck_some h
        obtain ⟨hd, hnx, hX⟩ := xok_dec (e := false) hok rfl
        have hk60 : Nat.blt k 60 = true := and_l hg
        have hk := Nat.le_of_ble_eq_true hk60
        have ht : xtc k = 1 := Nat.eq_of_beq_eq_true (and_l (and_r hg))
        have hmu : xcst k o = false := by unfold xcst; rw [and_r (and_r hg)]; rfl
        have h51 : k ≠ 51 := fun e9 => by rw [e9] at ht; simp [xtc] at ht
        have ho : o < xc M k := by
          rcases vs _ (List.mem_cons_of_mem _ (List.mem_cons_of_mem _ List.mem_cons_self)) with q | q
          · exact absurd q h51
          · exact q.2.1
        rw [List.map_cons, List.map_cons, List.map_cons, xenc_ref h51]
        have hM : xch M (xst M k o (ix i) (.int x)) k o (ix i) := xch_st hk
        have hmo : xmon M (xst M k o (ix i) (.int x)) := xmon_st hk60
        have ev : xav ad (xst M k o (ix i) (.int x)) k o (ix i) = .int x := by
          obtain ⟨-, -, ty, e1, a1, a2, a3, a4, a5, -⟩ := xat_of ht (by decide)
          unfold xav
          rw [e1, a1 rfl]
          simp only
          unfold gi
          rw [xst_eq]
        have hae : xae k = none := by
          obtain ⟨-, -, ty, e1, a1, a2, a3, a4, a5, -⟩ := xat_of ht (by decide)
          exact xae_of_at hk e1 (by rw [a1 rfl]; exact fun C h => nomatch h)
        refine xw_ast hx hb I.1 I.2.1 I.2.2.2.2.2 ho ht hmu hin hM ev (Or.inl ⟨rfl, rfl, x, rfl, rfl⟩) hd (fun H1 locs1 w1 w2 w3 => ?_)
        have hr3 := xrest_ast hk ht (by decide) hM I.2.2.1 I.2.2.2.1 I.2.2.2.2.1 (fun tk tw h9 => by rw [hae] at h9; cases h9) (fun h9 => absurd h9 (by decide))
        have this := kk _ _ _ _ ad H1 locs1 la cells slots h hcs (xSm.refl ad M) hmo ⟨w1, w2, hr3.1, hr3.2.1, hr3.2.2, w3⟩ hl (fun v hv => (vl v hv).mon hmo) (fun v hv => (xpop (xpop (xpop vs)) v hv).mon hmo) (by rw [gn_xst_ne (by omega)]; exact hc) (by rw [gn_xst_ne (by omega)]; exact hs)
        rw [hnx] at this
        exact this
      · cases h
    · cases h
  | lastore =>
    simp only [xctl] at h
    split at h
    · rename_i kx x ki i k o st2
      split at h
      · rename_i hg
        obtain ⟨hin, h⟩ := xck_some h
        obtain ⟨hd, hnx, hX⟩ := xok_dec (e := false) hok rfl
        have hk60 : Nat.blt k 60 = true := and_l hg
        have hk := Nat.le_of_ble_eq_true hk60
        have ht : xtc k = 4 := Nat.eq_of_beq_eq_true (and_l (and_r hg))
        have hmu : xcst k o = false := by unfold xcst; rw [and_r (and_r hg)]; rfl
        have h51 : k ≠ 51 := fun e9 => by rw [e9] at ht; simp [xtc] at ht
        have ho : o < xc M k := by
          rcases vs _ (List.mem_cons_of_mem _ (List.mem_cons_of_mem _ List.mem_cons_self)) with q | q
          · exact absurd q h51
          · exact q.2.1
        rw [List.map_cons, List.map_cons, List.map_cons, xenc_ref h51]
        have hM : xch M (xst M k o (ix i) (.long x)) k o (ix i) := xch_st hk
        have hmo : xmon M (xst M k o (ix i) (.long x)) := xmon_st hk60
        have ev : xav ad (xst M k o (ix i) (.long x)) k o (ix i) = .long x := by
          obtain ⟨-, -, ty, e1, a1, a2, a3, a4, a5, -⟩ := xat_of ht (by decide)
          unfold xav
          rw [e1, a4 rfl]
          simp only
          unfold gl
          rw [xst_eq]
        have hae : xae k = none := by
          obtain ⟨-, -, ty, e1, a1, a2, a3, a4, a5, -⟩ := xat_of ht (by decide)
          exact xae_of_at hk e1 (by rw [a4 rfl]; exact fun C h => nomatch h)
        refine xw_ast hx hb I.1 I.2.1 I.2.2.2.2.2 ho ht hmu hin hM ev (Or.inr (Or.inr (Or.inl ⟨rfl, rfl, x, rfl, rfl⟩))) hd (fun H1 locs1 w1 w2 w3 => ?_)
        have hr3 := xrest_ast hk ht (by decide) hM I.2.2.1 I.2.2.2.1 I.2.2.2.2.1 (fun tk tw h9 => by rw [hae] at h9; cases h9) (fun h9 => absurd h9 (by decide))
        have this := kk _ _ _ _ ad H1 locs1 la cells slots h hcs (xSm.refl ad M) hmo ⟨w1, w2, hr3.1, hr3.2.1, hr3.2.2, w3⟩ hl (fun v hv => (vl v hv).mon hmo) (fun v hv => (xpop (xpop (xpop vs)) v hv).mon hmo) (by rw [gn_xst_ne (by omega)]; exact hc) (by rw [gn_xst_ne (by omega)]; exact hs)
        rw [hnx] at this
        exact this
      · cases h
    · cases h
  | dastore =>
    simp only [xctl] at h
    split at h
    · rename_i kx x ki i k o st2
      split at h
      · rename_i hg
        obtain ⟨hin, h⟩ := xck_some h
        obtain ⟨hd, hnx, hX⟩ := xok_dec (e := false) hok rfl
        have hk60 : Nat.blt k 60 = true := and_l hg
        have hk := Nat.le_of_ble_eq_true hk60
        have ht : xtc k = 5 := Nat.eq_of_beq_eq_true (and_l (and_r hg))
        have hmu : xcst k o = false := by unfold xcst; rw [and_r (and_r hg)]; rfl
        have h51 : k ≠ 51 := fun e9 => by rw [e9] at ht; simp [xtc] at ht
        have ho : o < xc M k := by
          rcases vs _ (List.mem_cons_of_mem _ (List.mem_cons_of_mem _ List.mem_cons_self)) with q | q
          · exact absurd q h51
          · exact q.2.1
        rw [List.map_cons, List.map_cons, List.map_cons, xenc_ref h51]
        have hM : xch M (xst M k o (ix i) (.double x)) k o (ix i) := xch_st hk
        have hmo : xmon M (xst M k o (ix i) (.double x)) := xmon_st hk60
        have ev : xav ad (xst M k o (ix i) (.double x)) k o (ix i) = .double x := by
          obtain ⟨-, -, ty, e1, a1, a2, a3, a4, a5, -⟩ := xat_of ht (by decide)
          unfold xav
          rw [e1, a5 rfl]
          simp only
          unfold gd
          rw [xst_eq]
        have hae : xae k = none := by
          obtain ⟨-, -, ty, e1, a1, a2, a3, a4, a5, -⟩ := xat_of ht (by decide)
          exact xae_of_at hk e1 (by rw [a5 rfl]; exact fun C h => nomatch h)
        refine xw_ast hx hb I.1 I.2.1 I.2.2.2.2.2 ho ht hmu hin hM ev (Or.inr (Or.inr (Or.inr ⟨rfl, rfl, x, rfl, rfl⟩))) hd (fun H1 locs1 w1 w2 w3 => ?_)
        have hr3 := xrest_ast hk ht (by decide) hM I.2.2.1 I.2.2.2.1 I.2.2.2.2.1 (fun tk tw h9 => by rw [hae] at h9; cases h9) (fun h9 => absurd h9 (by decide))
        have this := kk _ _ _ _ ad H1 locs1 la cells slots h hcs (xSm.refl ad M) hmo ⟨w1, w2, hr3.1, hr3.2.1, hr3.2.2, w3⟩ hl (fun v hv => (vl v hv).mon hmo) (fun v hv => (xpop (xpop (xpop vs)) v hv).mon hmo) (by rw [gn_xst_ne (by omega)]; exact hc) (by rw [gn_xst_ne (by omega)]; exact hs)
        rw [hnx] at this
        exact this
      · cases h
    · cases h
  | bastore =>
    simp only [xctl] at h
    split at h
    · rename_i kx x ki i k o st2
      split at h
      · rename_i hg
        obtain ⟨hin, h⟩ := xck_some h
        obtain ⟨hd, hnx, hX⟩ := xok_dec (e := false) hok rfl
        have hk60 : Nat.blt k 60 = true := and_l hg
        have hk := Nat.le_of_ble_eq_true hk60
        have ht : xtc k = 2 ∨ xtc k = 3 := by
          rcases (Bool.or_eq_true _ _).mp (and_l (and_r hg)) with z | z
          · exact Or.inl (Nat.eq_of_beq_eq_true z)
          · exact Or.inr (Nat.eq_of_beq_eq_true z)
        have hmu : xcst k o = false := by unfold xcst; rw [and_r (and_r hg)]; rfl
        have h51 : k ≠ 51 := fun e9 => by rw [e9] at ht; simp [xtc] at ht
        have ho : o < xc M k := by
          rcases vs _ (List.mem_cons_of_mem _ (List.mem_cons_of_mem _ List.mem_cons_self)) with q | q
          · exact absurd q h51
          · exact q.2.1
        rw [List.map_cons, List.map_cons, List.map_cons, xenc_ref h51]
        have hM : xch M (xst M k o (ix i) (.int (xnab (xtc k) x))) k o (ix i) := xch_st hk
        have hmo : xmon M (xst M k o (ix i) (.int (xnab (xtc k) x))) := xmon_st hk60
        have eg : gi (xst M k o (ix i) (.int (xnab (xtc k) x))) k o (ix i) = xnab (xtc k) x := by unfold gi; rw [xst_eq]
        have hty : ∃ ty, xat k = some ty ∧ (ty = .byte ∨ ty = .boolean) := by
          rcases ht with ht | ht
          · obtain ⟨-, -, ty, e1, a1, a2, a3, a4, a5, -⟩ := xat_of ht (by decide)
            exact ⟨ty, e1, Or.inl (a2 rfl)⟩
          · obtain ⟨-, -, ty, e1, a1, a2, a3, a4, a5, -⟩ := xat_of ht (by decide)
            exact ⟨ty, e1, Or.inr (a3 rfl)⟩
        obtain ⟨ty, e1, e2⟩ := hty
        have ev : xav ad (xst M k o (ix i) (.int (xnab (xtc k) x))) k o (ix i) = .int (xnab (xtc k) x) := by
          unfold xav
          rw [e1]
          rcases e2 with rfl | rfl
          · simp only; rw [eg]
          · simp only; rw [eg]
        have hae : xae k = none := xae_of_at hk e1 (by rcases e2 with rfl | rfl <;> exact fun C h => nomatch h)
        refine xw_ast hx hb I.1 I.2.1 I.2.2.2.2.2 ho rfl hmu hin hM ev (Or.inr (Or.inl ⟨rfl, ht, x, rfl, rfl⟩)) hd (fun H1 locs1 w1 w2 w3 => ?_)
        have hr3 := xrest_ast hk rfl (by omega) hM I.2.2.1 I.2.2.2.1 I.2.2.2.2.1 (fun tk tw h9 => by rw [hae] at h9; cases h9) (fun h9 => by rw [eg, h9]; exact xnab_fit x)
        have this := kk _ _ _ _ ad H1 locs1 la cells slots h hcs (xSm.refl ad M) hmo ⟨w1, w2, hr3.1, hr3.2.1, hr3.2.2, w3⟩ hl (fun v hv => (vl v hv).mon hmo) (fun v hv => (xpop (xpop (xpop vs)) v hv).mon hmo) (by rw [gn_xst_ne (by omega)]; exact hc) (by rw [gn_xst_ne (by omega)]; exact hs)
        rw [hnx] at this
        exact this
      · cases h
    · cases h
  | aaload =>
    simp only [xctl] at h
    split at h
    · rename_i ki i k o st2 kx tk tw z
      split at h
      · rename_i hkk
        subst hkk
        obtain ⟨hin, h⟩ := xck_some h
        split at h
        · rename_i hfl
          obtain ⟨hd, hnx, hX⟩ := xok_dec (e := false) hok rfl
          replace hX : (decide (xae k = some (tk, tw)) && !xstrk tk) = true := hX
          have hae := of_decide_eq_true (and_l hX)
          obtain ⟨hk, ht, hlen, h51, htk⟩ := xae_facts hae
          have ho : o < xc M k := by
            rcases vs _ (List.mem_cons_of_mem _ List.mem_cons_self) with q | q
            · exact absurd q h51
            · exact q.2.1
          have hji : ix i < xnth xlens k := Nat.not_le.mp fun q => hin (Or.inr q)
          have hlive := I.2.2.1.2 k o tk tw (ix i) hk ho hae hji hfl
          have this := kp _ _ h hcs (xpush (Or.inr ⟨htk.1, hlive, fun L hL hs9 => by have := and_r hX; rw [hs9] at this; cases this⟩) (xpop (xpop vs)))
          rw [hnx] at this
          rw [List.map_cons, List.map_cons, xenc_ref h51]
          refine xw_ald hx hb I.1 ho ht (by rw [hlen]; exact hin) (Or.inr (Or.inr (Or.inr (Or.inr ⟨rfl, rfl⟩)))) hd ?_
          rw [xav_ref hk hae hfl]
          rw [List.map_cons, xenc_ref htk.2] at this
          exact this
        · cases h
      · cases h
    · rename_i ki i k o st2 kx tk tw
      split at h
      · rename_i hkk
        subst hkk
        obtain ⟨hin, h⟩ := xck_some h
        obtain ⟨hd, hnx, hX⟩ := xok_dec (e := false) hok rfl
        replace hX : (decide (xae k = some (tk, tw)) && (!xreg y && xstrk k)) = true := hX
        have hae := of_decide_eq_true (and_l hX)
        obtain ⟨hk, ht, hlen, h51, htk⟩ := xae_facts hae
        obtain ⟨L, rfl⟩ := hrg (by have := and_l (and_r hX); simpa using this)
        have hmem : (k, o) ∈ L ∧ o < xc M k := by
          rcases vs _ (List.mem_cons_of_mem _ List.mem_cons_self) with q | q
          · exact absurd q h51
          · exact ⟨q.2.2 L rfl (and_r (and_r hX)), q.2.1⟩
        obtain ⟨hg, hcl⟩ := hr L rfl
        have hra : xra k = true := by
          have h1 := List.all_eq_true.mp xra_ae k (List.mem_range.mpr hk)
          rw [hae] at h1
          simpa using h1
        have hji : ix i < xnth xlens k := Nat.not_le.mp fun q => hin (Or.inr q)
        have hfl := (xgood_spec hg hmem.1).2.2 hra (ix i) hji
        have hlive := I.2.2.1.2 k o tk tw (ix i) hk hmem.2 hae hji hfl
        have this := kp _ _ h hcs (xpush (Or.inr ⟨htk.1, hlive, fun L' hL hs9 => by
          cases hL
          have h2 := List.all_eq_true.mp hcl (k, o) hmem.1
          simp only [hae, hs9] at h2
          have h3 := List.all_eq_true.mp (by simpa using h2 : (List.range (xnth xlens k)).all (fun i => L.contains (tk, i + tw)) = true) (ix i) (List.mem_range.mpr hji)
          exact List.contains_iff_mem.mp h3⟩) (xpop (xpop vs)))
        rw [hnx] at this
        rw [List.map_cons, List.map_cons, xenc_ref h51]
        refine xw_ald hx hb I.1 hmem.2 ht (by rw [hlen]; exact hin) (Or.inr (Or.inr (Or.inr (Or.inr ⟨rfl, rfl⟩)))) hd ?_
        rw [xav_ref hk hae hfl]
        rw [List.map_cons, xenc_ref htk.2] at this
        exact this
      · cases h
    · cases h
  | aastore =>
    simp only [xctl] at h
    split at h
    · rename_i k2 q ki i k o st2 kx tk tw
      split at h
      · rename_i hkk
        subst hkk
        split at h
        · rename_i hk2
          subst hk2
          split at h
          · rename_i hg
            obtain ⟨hin, h⟩ := xck_some h
            split at h
            · rename_i hq
              obtain ⟨hd, hnx, hX⟩ := xok_dec (e := false) hok rfl
              replace hX : (decide (xae k = some (k2, tw)) && !Nat.beq k2 43) = true := hX
              have hae := of_decide_eq_true (and_l hX)
              obtain ⟨hk, ht, hlen, h51, htk⟩ := xae_facts hae
              have ho : o < xc M k := by
                rcases vs _ (List.mem_cons_of_mem _ (List.mem_cons_of_mem _ List.mem_cons_self)) with z | z
                · exact absurd z h51
                · exact z.2.1
              have hql : q < xc M k2 := by
                rcases vs _ List.mem_cons_self with z | z
                · exact absurd z htk.2
                · exact z.2.1
              have h43 : k2 ≠ 43 := fun e9 => by have := and_r hX; rw [e9] at this; cases this
              have hmu : xcst k o = false := by
                obtain ⟨-, h9⟩ := xae_mut hae h43
                exact h9 o
              have hfq := (xae_mut hae h43).1
              have hM : xch M (xst M (200 + k) o (ix i) (.ref 1)) k o (ix i) := xch_fl hk
              have hmo : xmon M (xst M (200 + k) o (ix i) (.ref 1)) := xmon_fl hg
              have hfl : xf (xst M (200 + k) o (ix i) (.ref 1)) k o (ix i) := by
                show gn _ _ _ _ = 1
                rw [gn_xst, if_pos ⟨rfl, rfl, rfl⟩]
              rw [List.map_cons, List.map_cons, List.map_cons, xenc_ref h51, xenc_ref htk.2]
              refine xw_aast hx hb hts I.1 I.2.1 I.2.2.2.2.2 ho hae hmu hql hfq h43 (by rw [hlen]; exact hin) hM (by rw [xav_ref hk hae hfl, hq]) ht hd (fun H1 locs1 w1 w2 w3 => ?_)
              have hr3 := xrest_ast hk ht (by decide) hM I.2.2.1 I.2.2.2.1 I.2.2.2.2.1 (fun tk' tw' h9 _ => by cases hae.symm.trans h9; rw [← hq]; exact hql) (fun h9 => absurd h9 (by decide))
              have this := kk _ _ _ _ ad H1 locs1 la cells slots h hcs (xSm.refl ad M) hmo ⟨w1, w2, hr3.1, hr3.2.1, hr3.2.2, w3⟩ hl (fun v hv => (vl v hv).mon hmo) (fun v hv => (xpop (xpop (xpop vs)) v hv).mon hmo) (by rw [gn_xst_ne (by omega)]; exact hc) (by rw [gn_xst_ne (by omega)]; exact hs)
              rw [hnx] at this
              exact this
            · cases h
          · cases h
        · cases h
      · cases h
    · cases h
  | getfield ix =>
    simp only [xctl] at h
    split at h
    · rename_i k o st2 kx f tag tk tw
      split at h
      · rename_i hkk
        subst hkk
        obtain ⟨hd, hnx, hX⟩ := xok_dec (e := false) hok rfl
        simp only [xokX, Bool.and_eq_true] at hX
        obtain ⟨hX1, hX2, hX3, hX4⟩ := hX
        have hk := Nat.le_of_ble_eq_true hX2
        have hfd := of_decide_eq_true hX3
        have h51 : k ≠ 51 := fun e => by rw [e] at hfd; cases hfd
        have ho : o < xc M k := by
          rcases vs _ List.mem_cons_self with q | q
          · exact absurd q h51
          · exact q.2.1
        have main : ∀ t, 2 ≤ t → t < 6 → tag = t + 10 → (!xstrk tk || xreg y) = true → xf M k o f → En C cs ls ((tk, .ref (xtg t tw o (gn M k o f))) :: st2) M = some r → W p l e R s m args below meth c H locs cells slots Q (F0 m pc la (((k, Value.ref o) :: st2).map (xenc ad))) := by
          intro t h2 h6 e hst hfl h
          have e10 : tag % 10 = t := by omega
          rw [e10] at hfd
          obtain ⟨-, htk, htk51⟩ := xtk_lt hk hfd
          have hlive := I.2.2.1.1 k o f t tk tw hk ho hfd h2 hfl
          have this := kp _ _ h hcs (xpush (Or.inr ⟨htk, hlive, fun L hL hs9 => by
            rcases (Bool.or_eq_true _ _).mp hst with z | z
            · rw [hs9] at z; cases z
            · rw [hrg2 z] at hL; cases hL⟩) (xpop vs))
          rw [hnx] at this
          rw [List.map_cons, xenc_ref h51]
          refine xw_get hx hb hts hown (List.contains_iff_mem.mp hX1) I.1 hk ho hfd hd ?_
          rw [xfv_ref h2 hfl]
          rw [List.map_cons, xenc_ref htk51] at this
          exact this
        split at h
        · split at h
          · rename_i hfl
            exact main 2 (by decide) (by decide) rfl hX4 hfl h
          · cases h
        · split at h
          · rename_i hfl
            exact main 3 (by decide) (by decide) rfl hX4 hfl h
          · cases h
        · split at h
          · rename_i hfl
            exact main 4 (by decide) (by decide) rfl hX4 hfl h
          · cases h
        · split at h
          · rename_i hfl
            exact main 5 (by decide) (by decide) rfl hX4 hfl h
          · cases h
        · cases h
      · cases h
    · cases h
  | putfield ix =>
    simp only [xctl] at h
    split at h
    · rename_i k2 q k o st2 kx f tag tk tw
      split at h
      · rename_i hkk
        subst hkk
        split at h
        · rename_i hk2
          subst hk2
          split at h
          · rename_i hg
            obtain ⟨hmu', h⟩ := xgd_some h
            have hc9 : xcst k o = false := by unfold xcst; rw [hmu']; rfl
            obtain ⟨hd, hnx, hX⟩ := xok_dec (e := false) hok rfl
            simp only [xokX, Bool.and_eq_true] at hX
            obtain ⟨hX1, hX2, hX3, hX4, hX5, hX6⟩ := hX
            have hk := Nat.le_of_ble_eq_true hX2
            have hfd := of_decide_eq_true hX3
            have h51 : k ≠ 51 := fun e => by rw [e] at hfd; cases hfd
            have h43 : k ≠ 43 := fun e => by rw [e] at hX4; cases hX4
            have ho : o < xc M k := by
              rcases vs _ (List.mem_cons_of_mem _ List.mem_cons_self) with q | q
              · exact absurd q h51
              · exact q.2.1
            have hfin : (xTf k f).2.2.2 = false ∨ ((xTf k f).1 = xcn (xoc y) ∧ meth.name = "<init>") := by
              rcases (Bool.or_eq_true _ _).mp hX5 with h9 | h9
              · exact Or.inl (by simpa using h9)
              · rw [Bool.and_eq_true, beq_iff_eq, beq_iff_eq] at h9
                exact Or.inr ⟨h9.1, hnm h9.2⟩
            have hq51 : ∀ t, 2 ≤ t → tag % 10 = t → k2 < 60 ∧ k2 ≠ 51 := fun t _ e9 => by rw [e9] at hfd; exact (xtk_lt hk hfd).2
            have main : ∀ (t : Nat) (M' : xM), 2 ≤ t → tag % 10 = t → xch M M' k o f → xmon M M' → xf M' k o f → xtg t tw o (gn M' k o f) = q → gn M' 100 0 0 = gn M 100 0 0 → gn M' 100 0 1 = gn M 100 0 1 → En C cs ls st2 M' = some r → W p l e R s m args below meth c H locs cells slots Q (F0 m pc la (((k2, Value.ref q) :: (k, Value.ref o) :: st2).map (xenc ad))) := by
              intro t M' h2 e9 hM hmo hfl htg n1 n2 h
              obtain ⟨hk260, hk251⟩ := hq51 t h2 e9
              have hql : q < xc M k2 := by
                rcases vs _ List.mem_cons_self with z | z
                · exact absurd z hk251
                · exact z.2.1
              rw [e9] at hfd
              rw [List.map_cons, List.map_cons, xenc_ref h51, xenc_ref hk251]
              refine xw_put hx hb hts hown (List.contains_iff_mem.mp hX1) I.1 I.2.1 I.2.2.2.2.2 hk h43 ho hc9 hfd hfin hM (v := .ref (ad k2 q)) (by rw [xfv_ref h2 hfl, htg]) (fun ty hty => ?_) hd (fun H1 locs1 w1 w2 w3 => ?_)
              · obtain ⟨ty', hty', -, -, h9⟩ := xtypes hk hfd
                obtain rfl : ty' = ty := Option.some.inj (hty'.symm.trans hty)
                exact xnarrow_ref (h9 h2)
              · have hr3 := xrest_fld hk hfd hM I.2.2.1 I.2.2.2.1 I.2.2.2.2.1 (fun _ _ => by show xtg t tw o (gn M' k o f) < xc M k2; rw [htg]; exact hql)
                have this := kk _ _ _ _ ad H1 locs1 la cells slots h hcs (xSm.refl ad M) hmo ⟨w1, w2, hr3.1, hr3.2.1, hr3.2.2, w3⟩ hl (fun v hv => (vl v hv).mon hmo) (fun v hv => (xpop (xpop vs) v hv).mon hmo) (by rw [n1]; exact hc) (by rw [n2]; exact hs)
                rw [hnx] at this
                exact this
            have hfl1 : ∀ M1 : xM, xf (xst M1 (200 + k) o f (.ref 1)) k o f := fun M1 => by
              show gn _ _ _ _ = 1
              rw [gn_xst, if_pos ⟨rfl, rfl, rfl⟩]
            split at h
            · split at h
              · rename_i hqo
                exact main 2 _ (by decide) rfl (xch_fl hk) (xmon_fl hg) (hfl1 M) hqo.symm (gn_xst_ne (by omega)) (gn_xst_ne (by omega)) h
              · cases h
            · split at h
              · rename_i hqo
                exact main 3 _ (by decide) rfl (xch_fl hk) (xmon_fl hg) (hfl1 M) hqo.symm (gn_xst_ne (by omega)) (gn_xst_ne (by omega)) h
              · cases h
            · exact main 4 _ (by decide) rfl (xch_sf hk) (xmon_trans (xmon_st hg) (xmon_fl hg)) (hfl1 _) (by show gn _ k o f = q; rw [gn_xst_ne (by omega), gn_xst, if_pos ⟨rfl, rfl, rfl⟩]) (by rw [gn_xst_ne (by omega), gn_xst_ne (by omega)]) (by rw [gn_xst_ne (by omega), gn_xst_ne (by omega)]) h
            · cases h
          · cases h
        · cases h
      · cases h
    · rename_i kx0 x k o st2 kx f z1 z2
      split at h
      · rename_i hkk
        subst hkk
        split at h
        · rename_i hg
          replace h := xgd_some h
          have hmu' := h.1
          replace h := h.2
          have hc9 : xcst k o = false := by unfold xcst; rw [hmu']; rfl
          split at h
          · rename_i hx0
            subst hx0
            obtain ⟨hd, hnx, hX⟩ := xok_dec (e := false) hok rfl
            simp only [xokX, Bool.and_eq_true] at hX
            obtain ⟨hX1, hX2, hX3, hX4, hX5, hX6⟩ := hX
            have hk := Nat.le_of_ble_eq_true hX2
            have hfd := of_decide_eq_true hX3
            have h51 : k ≠ 51 := fun e => by rw [e] at hfd; cases hfd
            have h43 : k ≠ 43 := fun e => by rw [e] at hX4; cases hX4
            have ho : o < xc M k := by
              rcases vs _ (List.mem_cons_of_mem _ List.mem_cons_self) with q | q
              · exact absurd q h51
              · exact q.2.1
            have hfin : (xTf k f).2.2.2 = false ∨ ((xTf k f).1 = xcn (xoc y) ∧ meth.name = "<init>") := by
              rcases (Bool.or_eq_true _ _).mp hX5 with h9 | h9
              · exact Or.inl (by simpa using h9)
              · rw [Bool.and_eq_true, beq_iff_eq, beq_iff_eq] at h9
                exact Or.inr ⟨h9.1, hnm h9.2⟩
            have hM : xch M (xst M k o f (.int 0)) k o f := xch_st hk
            have hmo : xmon M (xst M k o f (.int 0)) := xmon_st hg
            rw [List.map_cons, List.map_cons, xenc_ref h51]
            refine xw_put hx hb hts hown (List.contains_iff_mem.mp hX1) I.1 I.2.1 I.2.2.2.2.2 hk h43 ho hc9 hfd hfin hM (v := .int 0) (by show Value.int (gi _ k o f) = _; unfold gi; rw [xst_eq]) (fun ty hty => by rw [beq_iff_eq.mp hX6] at hty; cases hty; exact ⟨rfl, rfl⟩) hd (fun H1 locs1 w1 w2 w3 => ?_)
            have hr3 := xrest_fld hk hfd hM I.2.2.1 I.2.2.2.1 I.2.2.2.2.1 (fun h9 => absurd (show 2 ≤ 0 from h9) (by decide))
            have this := kk _ _ _ _ ad H1 locs1 la cells slots h hcs (xSm.refl ad M) hmo ⟨w1, w2, hr3.1, hr3.2.1, hr3.2.2, w3⟩ hl (fun v hv => (vl v hv).mon hmo) (fun v hv => (xpop (xpop vs) v hv).mon hmo) (by rw [gn_xst_ne (by omega)]; exact hc) (by rw [gn_xst_ne (by omega)]; exact hs)
            rw [hnx] at this
            exact this
          · cases h
        · cases h
      · cases h
    · cases h
  | checkcast ix =>
    simp only [xctl] at h
    split at h
    · rename_i k o st2
      obtain ⟨hg, h⟩ := xgd_some h
      obtain ⟨hd, hnx, hX⟩ := xok_dec (e := false) hok rfl
      have hk := Nat.eq_of_beq_eq_true (and_l hg)
      subst hk
      replace hX : (Nat.beq (xoc y) 17 && Nat.beq ix 311) = true := hX
      have e1 := Nat.eq_of_beq_eq_true (and_l hX)
      have e2 := Nat.eq_of_beq_eq_true (and_r hX)
      subst e2
      rw [e1] at hown
      have ho : o < xc M 47 := by
        rcases vs _ List.mem_cons_self with z | z
        · cases z
        · exact z.2.1
      have this := kp _ _ h hcs vs
      rw [hnx, List.map_cons, xenc_ref (by decide)] at this
      rw [List.map_cons, xenc_ref (by decide)]
      exact xw_cast hx hb hts hown I ho (by unfold xcst; rw [and_r hg]; rfl) hd this
    · cases h
  | new ix =>
    simp only [xctl] at h
    split at h
    · cases hap
    · rename_i k n z
      split at h
      · rename_i hg
        obtain ⟨hd, hnx, hX⟩ := xok_dec (e := false) hok rfl
        replace hX : (xnewL.contains ((xoc y, ix), k, n) && (xmut k 13 && ((!xstrk k || xreg y) && Nat.beq z 0))) = true := hX
        have hmem := List.contains_iff_mem.mp (and_l hX)
        have hk := Nat.le_of_ble_eq_true hg
        have h51 : k ≠ 51 := fun e9 => by
          have h1 := List.all_eq_true.mp xnewL_all _ hmem
          rw [e9] at h1
          simp [xfd] at h1
        have hmo : xmon M (xnew M k n) := xmon_new hg
        have hrr := hmn _ _ _ _ h
        have n1 : gn (xnew M k n) 100 0 0 = gn M 100 0 0 + 1 := xnew_cells hk
        have n2 : gn (xnew M k n) 100 0 1 = gn M 100 0 1 + n := xnew_slots hk
        have z1 := hrr.2.2.2.1
        have z2 := hrr.2.2.2.2
        have hsm := xSm_up (ad := ad) (M := M) (a := H.size) hk
        refine xw_new hx hb hts hown hmem I hAA (and_l (and_r hX)) hd (by omega) (by omega) (fun H1 I1 => ?_)
        have this := kk _ _ _ _ _ H1 locs la (cells + 1) (slots + n) h hcs hsm hmo I1 (hl.ad (fun v hv => xenc_sm hsm (vl v hv))) (fun v hv => (vl v hv).mon hmo) (xpush (Or.inr ⟨hk, by rw [(xmk_new (M := M) (n := n) hk).1]; exact Nat.lt_succ_self _, fun L hL hs9 => by
          rcases (Bool.or_eq_true _ _).mp (and_l (and_r (and_r hX))) with q | q
          · rw [hs9] at q; cases q
          · rw [hrg2 q] at hL; cases hL⟩) (fun v hv => (vs v hv).mon hmo)) (by omega) (by omega)
        rw [hnx, List.map_cons, xmap_sm hsm vs, xenc_ref h51, xup_eq] at this
        exact this
      · cases h
    · cases h
  | newarray a =>
    simp only [xctl] at h
    split at h
    · rename_i kx x st2 k
      obtain ⟨hd, hnx, hX⟩ := xok_dec (e := false) hok rfl
      replace hX : (decide (xat k = some (newarray.typeOf a)) && (xmut k 13 && (!xstrk k || xreg y))) = true := hX
      have hat := of_decide_eq_true (and_l hX)
      have h51 : k ≠ 51 := fun e9 => by rw [e9] at hat; cases hat
      have vs2 := xpop vs
      have fin : ∀ (M' : xM) (N : Nat), k < 60 → ¬ x < 0 → x.toNatClampNeg = N → N ≤ 65536 → xmk M M' k → xmon M M' → (∀ f, gi M' k (xc M k) f = 0 ∧ gl M' k (xc M k) f = 0 ∧ gd M' k (xc M k) f = 0 ∧ gn M' (200 + k) (xc M k) f = 0) → xlen k (xc M k) M' = N → (xdyn k = true → gn M' (110 + k) (xc M k) 0 ≤ 65536) → gn M' 100 0 0 = gn M 100 0 0 + 1 → gn M' 100 0 1 = gn M 100 0 1 + N → En C cs ls ((k, .ref (gn M 101 k 0)) :: st2) M' = some r → W p l e R s m args below meth c H locs cells slots Q (F0 m pc la (((kx, Value.int x) :: st2).map (xenc ad))) := by
        intro M' N hk g1 g2 g3 hm hmo h0 hlen hdl n1 n2 h
        have hrr := hmn _ _ _ _ h
        have z1 := hrr.2.2.2.1
        have z2 := hrr.2.2.2.2
        have hsm := xSm_up (ad := ad) (M := M) (a := H.size) hk
        refine xw_newarr hx hb hts hk hat I hAA (and_l (and_r hX)) g1 g2 g3 hm h0 hlen hdl hd (by omega) (by omega) (fun H1 I1 => ?_)
        have this := kk _ _ _ _ _ H1 locs la (cells + 1) (slots + N) h hcs hsm hmo I1 (hl.ad (fun v hv => xenc_sm hsm (vl v hv))) (fun v hv => (vl v hv).mon hmo) (xpush (Or.inr ⟨hk, by rw [hm.1]; exact Nat.lt_succ_self _, fun L hL hs9 => by
          rcases (Bool.or_eq_true _ _).mp (and_r (and_r hX)) with q | q
          · rw [hs9] at q; cases q
          · rw [hrg2 q] at hL; cases hL⟩) (fun v hv => (vs2 v hv).mon hmo)) (by omega) (by omega)
        rw [hnx, List.map_cons, xmap_sm hsm vs2, xenc_ref h51, xup_eq] at this
        exact this
      split at h
      · rename_i hg hdy
        split at h
        · cases h
        · rename_i hn
          have hk := Nat.le_of_ble_eq_true hg
          have q := fun f => xnewD_def (M := M) (k := k) (n := ix x) (f := f) hk
          have n3 : gn (xnewD M k (ix x)) 100 0 0 = gn (xnew M k (ix x)) 100 0 0 := gn_xst_ne (by omega)
          have n4 : gn (xnewD M k (ix x)) 100 0 1 = gn (xnew M k (ix x)) 100 0 1 := gn_xst_ne (by omega)
          exact fin _ (ix x) hk (fun z => hn (Or.inl z)) rfl (Nat.not_lt.mp fun z => hn (Or.inr z)) (xmk_newD hk) (xmon_newD hg) (fun f => ⟨(q f).1, (q f).2.1, (q f).2.2.1, (q f).2.2.2.1⟩) (by unfold xlen; rw [hdy]; exact (q 0).2.2.2.2) (fun _ => by rw [(q 0).2.2.2.2]; exact Nat.not_lt.mp fun z => hn (Or.inr z)) (n3.trans (xnew_cells hk)) (n4.trans (xnew_slots hk)) h
      · rename_i hg hdy
        split at h
        · rename_i hn
          have hk := Nat.le_of_ble_eq_true hg
          have hbig : (List.range 60).all (fun k => Nat.blt (xnth xlens k) 60000) = true := by decide +kernel
          have hsm9 : xnth xlens k < 60000 := Nat.le_of_ble_eq_true (List.all_eq_true.mp hbig k (List.mem_range.mpr hk))
          exact fin _ (xnth xlens k) hk (by rw [hn]; exact nI_pos (by omega)) (by rw [hn]; exact nI_clamp (by omega)) (by omega) (xmk_new hk) (xmon_new hg) (fun f => xnew_def hk) (by unfold xlen; rw [hdy]) (fun z => by rw [hdy] at z; cases z) (xnew_cells hk) (xnew_slots hk) h
        · cases h
      · cases h
    · cases h
  | anewarray ix =>
    simp only [xctl] at h
    split at h
    · rename_i kx x st2 k
      obtain ⟨hd, hnx, hX⟩ := xok_dec (e := false) hok rfl
      replace hX : (xarr.contains ((xoc y, ix), k) && (xmut k 13 && xreg y)) = true := hX
      have hmem := List.contains_iff_mem.mp (and_l hX)
      have hfa := List.all_eq_true.mp xarr_all _ hmem
      simp only [Bool.and_eq_true] at hfa
      have hdy' : xdyn k = false := by simpa using hfa.2.1
      have h51 : k ≠ 51 := fun e9 => by
        have h1 := hfa.2.2
        rw [e9] at h1
        simp [xae] at h1
      have vs2 := xpop vs
      split at h
      · rename_i hg hdy
        rw [hdy'] at hdy
        cases hdy
      · rename_i hg hdy
        split at h
        · rename_i hn
          have hk := Nat.le_of_ble_eq_true hg
          have hmo : xmon M (xnew M k (xnth xlens k)) := xmon_new hg
          have hrr := hmn _ _ _ _ h
          have n1 : gn (xnew M k (xnth xlens k)) 100 0 0 = gn M 100 0 0 + 1 := xnew_cells hk
          have n2 : gn (xnew M k (xnth xlens k)) 100 0 1 = gn M 100 0 1 + xnth xlens k := xnew_slots hk
          have z1 := hrr.2.2.2.1
          have z2 := hrr.2.2.2.2
          have hsm := xSm_up (ad := ad) (M := M) (a := H.size) hk
          refine xw_anewarr hx hb hts hown hmem Z I hAA (and_l (and_r hX)) hn hd (by omega) (by omega) (fun H1 I1 => ?_)
          have this := kk _ _ _ _ _ H1 locs la (cells + 1) (slots + xnth xlens k) h hcs hsm hmo I1 (hl.ad (fun v hv => xenc_sm hsm (vl v hv))) (fun v hv => (vl v hv).mon hmo) (xpush (Or.inr ⟨hk, by rw [(xmk_new (M := M) (n := xnth xlens k) hk).1]; exact Nat.lt_succ_self _, fun L hL hs9 => by rw [hrg2 (and_r (and_r hX))] at hL; cases hL⟩) (fun v hv => (vs2 v hv).mon hmo)) (by omega) (by omega)
          rw [hnx, List.map_cons, xmap_sm hsm vs2, xenc_ref h51, xup_eq] at this
          exact this
        · cases h
      · cases h
    · cases h
  | invokevirtual n =>
    cases hap
  | invokestatic n =>
    cases hap
  | invokespecial n =>
    cases hap
  | ireturn =>
    cases hap
  | lreturn =>
    cases hap
  | freturn =>
    cases hap
  | dreturn =>
    cases hap
  | areturn =>
    cases hap
  | return_ =>
    cases hap
  | _ => simp [xctl] at h
end
section
/-! THE END OF A FRAME: returns and throws; what a method owes. -/
/-- the exceptions -/
def xEn (E : Nat) : String := match E with
  | 0 => "java/lang/IllegalStateException"
  | 1 => "java/lang/IllegalArgumentException"
  | _ => "java/lang/IndexOutOfBoundsException"
/-- what a frame leaves -/
def xPo (A : Nat → Prop) (ad0 : xA) (M0 : xM) (ad : xA) (M : xM) (st t : State) : Prop :=
  (∀ k o, k < 60 → k ≠ 51 → o < xc M0 k → ad k o = ad0 k o) ∧ xWd t A ad M t.heap ∧ xAp A ad M ∧ xWT M ∧ xBt M ∧ va_F A st t
def xQc (A : Nat → Prop) (ad0 : xA) (M0 : xM) (rg : Option (List (Nat × Nat))) (r : (Option xV ⊕ Nat) × xM) : Array Value → State → Outcome → State → Prop := fun _ st o t =>
  ∃ (v : Option xV) (ad : xA), r.1 = .inl v ∧ o = .returned (v.map (xenc ad)) ∧ (∀ x, v = some x → xvok rg r.2 x) ∧ xPo A ad0 M0 ad r.2 st t
def xXC (A : Nat → Prop) (ad0 : xA) (M0 : xM) (r : (Option xV ⊕ Nat) × xM) : String → State → State → Prop := fun E st t =>
  ∃ (k : Nat) (ad : xA), r.1 = .inr k ∧ E = xEn k ∧ k < 4 ∧ xPo A ad0 M0 ad r.2 st t
theorem xPo_of {s t : State} {A : Nat → Prop} {ad0 ad : xA} {M0 M : xM} {H : Heap} {locs : List Loc} (hb : ∀ k o, k < 60 → k ≠ 51 → o < xc M0 k → ad k o = ad0 k o) (I : xInv s A ad M s.heap H locs) (ht : t.heap = H) (hv : s.vm.Alike t.vm) : xPo A ad0 M0 ad M s t :=
  ⟨hb, by rw [ht]; exact I.1.moved hv, I.2.1, I.2.2.1, I.2.2.2.1, by rw [ht]; exact I.2.2.2.2.2.1, fun q h1 h2 => by rw [ht]; exact I.2.2.2.2.2.2.1 q h1 h2⟩
section NR
variable {p : Program} {l : Launch} {e : Env} {R : Room} {s : State} {m : MethodId} {args : Array Value} {below : List Frame} {meth : Method} {c : Code} {H : Heap} {locs : List Loc} {cells slots : Nat}
theorem xw_nret {cc : ByteArray} {Qc : Array Value → State → Outcome → State → Prop} {free : Addr → Prop} {v w : Int32} {ty : FieldType} (hexec : p.tables.exec = Jvm.exec) (hb : c.code = cc) (hr : meth.sig.returnType = some ty) (hn : narrow ty (.int v) = .int w)
    (hq : ∀ t : State, t.heap = H → s.WarmedH t.vm → Qc args s (.returned (some (.int w))) t) (hf : ∀ q ∈ locs, free q.base)
    {pc : Nat} {ls : Array Slot} (hdg : decode cc pc = .ok (.ireturn, 1)) (hlocks : meth.locks = false) : W p l e R s m args below meth c H locs cells slots (MQ below Qc args s cells slots free) (F0 m pc ls [.int v]) := by
  intro T hT X
  have hlocks : meth.locks = false := hlocks
  obtain ⟨fs, hret, hrun, hended, hW, hframe⟩ := X.leave (v := some (.int w)) (fun h => by rw [hr] at h; cases h)
  have hmeth' : T.vm.method? m = some meth := X.method'
  refine ⟨T.setFrames fs, ?_, .returned (some (.int w)), hrun, hended, hq _ hT hW, locs, ⟨⟨_, rfl⟩, hW, hframe⟩, hf⟩
  jvm_step X.here [X.here.top, hexec, hb, hdg, hmeth', hr, hn]
  (try refine ⟨rfl, ?_⟩); (try refine ⟨rfl, ?_⟩)
  first | (intro acts; rw [hret _ acts rfl rfl rfl]) | rw [hret _ _ rfl rfl rfl]
  exact Steps.refl _
end NR
theorem xnar_char (x : Int32) : narrow .char (.int x) = .int (xnar 2 x) := by
  show Value.int _ = Value.int _
  refine congrArg Value.int ?_
  show x.toUInt32.toUInt16.toUInt32.toInt32 = (x.toUInt32 % 65536).toInt32
  refine congrArg UInt32.toInt32 ?_
  exact UInt32.toNat_inj.mp (by simp)
theorem xrt_obj {t : FieldType} (h : t.isReference = true) : (∃ n, t = .object n) ∨ ∃ u, t = .array u := by
  cases t <;> first | (cases h; done) | exact Or.inl ⟨_, rfl⟩ | exact Or.inr ⟨_, rfl⟩
def xrets (i : Instr) : Bool := match i with
  | .ireturn => true
  | .lreturn => true
  | .freturn => true
  | .dreturn => true
  | .areturn => true
  | .return_ => true
  | _ => false
set_option maxHeartbeats 4000000 in
/-- returns -/
theorem xret_W {p : Program} {l : Launch} {e : Env} {R : Room} {s : State} {m : MethodId} {args : Array Value} {below : List Frame} {meth : Method} {c : Code} {H : Heap} {locs : List Loc} {cells slots : Nat} {A : Nat → Prop} {ad ad0 : xA} {tab : Nat → List xE} {ml : Nat → Nat} {Ec En : xP}
    {y pc nx fc fs : Nat} {i : Instr} {aux : List Nat} {kc : Int32} {C cs : List xE} {ls st : List xV} {M M0 : xM} {r : (Option xV ⊕ Nat) × xM} {la : Array Slot} {rg : Option (List (Nat × Nat))}
    (F : xFx y p l s m args meth c) (I : xInv s A ad M s.heap H locs) (vs : ∀ v ∈ st, xvok rg M v) (hb : ∀ k o, k < 60 → k ≠ 51 → o < xc M0 k → ad k o = ad0 k o)
    (hok : xok y C (pc, i, aux, kc) nx = true) (hi : xrets i = true) (h : xctl tab ml Ec En i aux kc C cs ls st M = some r) (hc : cells + gn r.2 100 0 0 ≤ fc + gn M 100 0 0) (hs : slots + gn r.2 100 0 1 ≤ fs + gn M 100 0 1) :
    W p l e R s m args below meth c H locs cells slots (vx_MQ below (xQc A ad0 M0 rg r) (xXC A ad0 M0 r) args s fc fs A) (F0 m pc la (st.map (xenc ad))) := by
  obtain ⟨hx, hbc, hml, hown, hts, hlk, hrt, hnm, htr⟩ := F
  have hfr : ∀ q ∈ locs, A q.base := I.2.2.2.2.2.2.2
  cases i with
  | ireturn =>
    simp only [xctl] at h
    split at h
    · cases h
      obtain ⟨hd, hX⟩ := xok_dec2 hok
      refine W.widen (k := fc) (n := fs) (by simp only at hc; omega) (by simp only at hs; omega) (vx_ret (W.iret hx hbc (hrt.trans (of_decide_eq_true hX)) (fun t ht hv => ⟨_, ad, rfl, rfl, fun x hx => (by cases hx; trivial), xPo_of hb I ht hv.alike⟩) hfr hd hlk))
    · rename_i t
      cases h
      obtain ⟨hd, hX⟩ := xok_dec2 hok
      refine W.widen (k := fc) (n := fs) (by simp only at hc; omega) (by simp only at hs; omega) (vx_ret ?_)
      simp only [xokX] at hX
      split at hX
      · rename_i e; cases e
      · rename_i e; cases e
        exact xw_nret hx hbc (hrt.trans (of_decide_eq_true hX)) rfl (fun t' ht hv => ⟨_, ad, rfl, rfl, fun x hx => (by cases hx; trivial), xPo_of hb I ht hv.alike⟩) hfr hd hlk
      · rename_i e; cases e
        exact xw_nret hx hbc (hrt.trans (of_decide_eq_true hX)) (xnar_char _) (fun t' ht hv => ⟨_, ad, rfl, rfl, fun x hx => (by cases hx; trivial), xPo_of hb I ht hv.alike⟩) hfr hd hlk
      · rename_i e; cases e
        exact xw_nret hx hbc (hrt.trans (of_decide_eq_true hX)) rfl (fun t' ht hv => ⟨_, ad, rfl, rfl, fun x hx => (by cases hx; trivial), xPo_of hb I ht hv.alike⟩) hfr hd hlk
      · cases hX
    · cases h
  | lreturn =>
    simp only [xctl] at h
    split at h
    · cases h
      obtain ⟨hd, hX⟩ := xok_dec2 hok
      refine W.widen (k := fc) (n := fs) (by simp only at hc; omega) (by simp only at hs; omega) (vx_ret (W.lret hx hbc (hrt.trans (of_decide_eq_true hX)) (fun t ht hv => ⟨_, ad, rfl, rfl, fun x hx => (by cases hx; trivial), xPo_of hb I ht hv.alike⟩) hfr hd hlk))
    · cases h
  | freturn =>
    simp only [xctl] at h
    split at h
    · cases h
      obtain ⟨hd, hX⟩ := xok_dec2 hok
      refine W.widen (k := fc) (n := fs) (by simp only at hc; omega) (by simp only at hs; omega) (vx_ret (W.fret hx hbc (hrt.trans (of_decide_eq_true hX)) (fun t ht hv => ⟨_, ad, rfl, rfl, fun x hx => (by cases hx; trivial), xPo_of hb I ht hv.alike⟩) hfr hd hlk))
    · cases h
  | dreturn =>
    simp only [xctl] at h
    split at h
    · cases h
      obtain ⟨hd, hX⟩ := xok_dec2 hok
      refine W.widen (k := fc) (n := fs) (by simp only at hc; omega) (by simp only at hs; omega) (vx_ret (W.dret hx hbc (hrt.trans (of_decide_eq_true hX)) (fun t ht hv => ⟨_, ad, rfl, rfl, fun x hx => (by cases hx; trivial), xPo_of hb I ht hv.alike⟩) hfr hd hlk))
    · cases h
  | areturn =>
    simp only [xctl] at h
    split at h
    · cases h
      obtain ⟨hd, hX⟩ := xok_dec2 hok
      simp only [xokX] at hX
      split at hX
      · rename_i rt hrt2
        refine W.widen (k := fc) (n := fs) (by simp only at hc; omega) (by simp only at hs; omega) (vx_ret (W.aret hx hbc (hrt.trans hrt2) (xrt_obj hX) (xenc_rn ad _ _) (fun t ht hv => ⟨_, ad, rfl, rfl, fun x hx => (by cases hx; exact vs _ List.mem_cons_self), xPo_of hb I ht hv.alike⟩) hfr hd hlk))
      · cases hX
    · cases h
  | return_ =>
    simp only [xctl] at h
    split at h
    · cases h
      obtain ⟨hd, hX⟩ := xok_dec2 hok
      refine W.widen (k := fc) (n := fs) (by simp only at hc; omega) (by simp only at hs; omega) (vx_ret (W.vret hx hbc (hrt.trans (of_decide_eq_true hX)) (fun t ht hv => ⟨_, ad, rfl, rfl, fun x hx => (by cases hx), xPo_of hb I ht hv.alike⟩) hfr hd hlk))
    · cases h
  | _ => exact absurd hi (by simp [xrets])
end
section
/-! The rows xs_chain, xs_ctor, xs_throwS, xs_throwSW follow proofs of the library (BundleChainS, BundleOwnThrow) and of the kit's EXCEPTIONS rows, for a constructor whose call of its super lies at any index. -/
def xs_ch (X : String) (ix : Nat) (rx : ByteArray) : List String → List Cond
  | [] => Bundle.passSAtoms X Bundle.tN ix rx
  | Y :: r => Bundle.passSAtoms X Y ix rx ++ Bundle.chainSAtoms Y r
theorem xs_chain {args : Array Value} {s : State} {pl : Platform} (hpl : pl.magicAccessors = ({} : Platform).magicAccessors) {top : MethodId} (htop : s.methodNamed? (Bundle.initS Bundle.tN) = some top)
    {ix : Nat} {rx : ByteArray} (x0 : decode rx 0 = .ok (.aload_n 0, 1)) (x1 : decode rx 1 = .ok (.aload_n 1, 1)) (x2 : decode rx 2 = .ok (.invokespecial ix, 3)) (x5 : decode rx 5 = .ok (.return_, 1))
    (names : List String) (X : String) (hX : Bundle.fit X = true) (hn : ∀ n ∈ names, Bundle.fit n = true) (h : ∀ c ∈ xs_ch X ix rx names, c.before args s = true) :
    ∃ (P1 : PassC) (Ps : List PassC), Ps.length = names.length ∧ P1.LinksS pl s ∧ (∀ P, P ∈ Ps → P.LinksS pl s) ∧ s.methodNamed? (Bundle.initS X) = some P1.m ∧
        P1.sup = firstOf top (Ps.map (·.toPassT)) ∧ PassesOn top (Ps.map (·.toPassT)) := by
  cases names with
  | nil =>
    obtain ⟨P, L, hm, hs⟩ := PassC.ofS_atoms (args := args) (s := s) hpl (X := X) (Y := Bundle.tN) (Bundle.fit_spec hX).1 (by decide) x0 x1 x2 x5 h
    exact ⟨P, [], rfl, L, (fun _ hP => by cases hP), hm, Option.some.inj (hs.symm.trans htop), trivial⟩
  | cons Y r =>
    obtain ⟨P, L, hm, hs⟩ := PassC.ofS_atoms (args := args) (s := s) hpl (X := X) (Y := Y) (Bundle.fit_spec hX).1 (Bundle.fit_spec (hn Y List.mem_cons_self)).2 x0 x1 x2 x5
      (fun c hc => h c (by simp only [xs_ch, List.mem_append]; exact Or.inl hc))
    obtain ⟨P', Ps, hlen, L', hL, hm', hsup, hpass⟩ := Bundle.chainS (args := args) hpl htop r Y (hn Y List.mem_cons_self) (fun n hn' => hn n (List.mem_cons_of_mem _ hn')) (fun c hc => h c (by simp only [xs_ch, List.mem_append]; exact Or.inr hc))
    refine ⟨P, P' :: Ps, by simp [hlen], L, (fun Q hQ => ?_), hm, Option.some.inj (hs.symm.trans hm'), hsup, hpass⟩
    rcases List.mem_cons.mp hQ with rfl | hQ
    · exact L'
    · exact hL Q hQ
/-- the words of a throw -/
def xoA (own : String) (ic : Nat) (X : String) (ix : Nat) (rx : ByteArray) (names : List String) : List Cond :=
  Bundle.throwableAtoms ++ Bundle.throwableSAtoms ++ xs_ch X ix rx names ++
  [.methodLink own ic (Bundle.initS X), .instantiable X 6, .selects X Bundle.tFill0 Bundle.tFill0, .selects X Bundle.tFill Bundle.tFill,
   .lays X Bundle.tN "cause" "Ljava/lang/Throwable;", .lays X Bundle.tN "stackTrace" Bundle.steD, .lays X Bundle.tN "suppressedExceptions" Bundle.listD, .lays X Bundle.tN "detailMessage" "Ljava/lang/String;",
   .isRef (.static Bundle.tN "UNASSIGNED_STACK" Bundle.steD), .isRef (.static Bundle.tN "SUPPRESSED_SENTINEL" Bundle.listD),
   .fieldLink Bundle.tN 198 Bundle.tN "backtrace" "Ljava/lang/Object;", .lays Bundle.tN Bundle.tN "backtrace" "Ljava/lang/Object;", .lays X Bundle.tN "backtrace" "Ljava/lang/Object;"]
def xoAt (own : String) (ic : Nat) (X : String) (ix : Nat) (rx : ByteArray) (names : List String) : List Cond := (xoA own ic X ix rx names).filter vx_no
section XSC
variable {p : Program} {l : Launch} {e : Env} {R : Room} {s : State} {m₀ : MethodId} {args : Array Value} {below : List Frame} {meth : Method} {c : Code} {W : State} {locs : List Loc} {cells slots : Nat}
set_option maxHeartbeats 1000000 in
theorem xs_ctor (X : Stand p l e R s m₀ args below meth c W locs cells slots) (hexec : p.tables.exec = Jvm.exec) (htr : e.platform.stackTraces = false) {own cls : String} {names : List String} {ic ix : Nat} {rx : ByteArray} (x0 : decode rx 0 = .ok (.aload_n 0, 1)) (x1 : decode rx 1 = .ok (.aload_n 1, 1)) (x2 : decode rx 2 = .ok (.invokespecial ix, 3)) (x5 : decode rx 5 = .ok (.return_, 1))
    (hown : s.vm.findClass own = some m₀.cls) (hcls : Bundle.fit cls = true) (hnames : ∀ n ∈ names, Bundle.fit n = true)
    (h : ∀ a ∈ xoA own ic cls ix rx names, a.before args s = true)
    (hlocs : ∀ x ∈ locs, ∀ cell, s.heap[x.base]? = some cell → cell.vm.isStatics = false)
    {a : Addr} {cX : ClassId} {kX : Class} (hfoundX : s.vm.findClass cls = some cX) (hkX : s.vm.classes[cX]? = some kX) (hcell : W.heap[a]? = some (freshCell cX kX)) (hnew : s.heap.size ≤ a)
    {msg : Value} (hmsg : msg.isRef = true)
    {g : JFrame} (hg : g.method = m₀) (hsize : g.locals.size = c.maxLocals) (hlocked : g.locked = none) (hentered : g.entered = []) {rest : List Value} (hstack : g.stack = msg :: .ref a :: .ref a :: rest)
    (hd6 : decode c.code g.pc = .ok (.invokespecial ic, 3)) (hd9 : decode c.code (g.pc + 3) = .ok (.athrow, 1)) (hout : ∀ x ∈ c.exceptionTable.toList, covers x (g.pc + 3) = false)
    (hRframes : names.length + 3 < R.frames) (hRlocals : 2 * g.monitorRoom + ((Value.ref a :: rest).map fun v => v.category).sum + (13 * (names.length + 1) + 42) ≤ R.locals) (hlocks : meth.locks = false) :
    ∃ U : State, Steps p.tables e below (W.setTop g) U ∧ U.status = .running ∧ Ended U below (.threw a) ∧ s.WarmedH U.vm ∧ s.sameButNew ({ U with vm := s.vm } : State) locs cells slots ∧
      ∃ ce, U.heap[a]? = some ce ∧ s.vm.findClass cls = some ce.cls ∧ ce.vm = .none := by
  have howns : e.platform.frameOwnsMonitors = true := by rw [X.admits.platform]
  have hfin : e.platform.finalization = false := by rw [X.admits.platform]
  have hpl : e.platform.magicAccessors = ({} : Platform).magicAccessors := by rw [X.admits.platform]
  have a' : ∀ x, x ∈ xoA own ic cls ix rx names → x.holds args s none s [] = true := fun x hx => h x hx
  obtain ⟨T, Z0, L, -, Y⟩ := ThrowableC.of_atoms (args := args) howns hfin hpl (fun x hx => h x (by simp [xoA, hx]))
  obtain ⟨Z, M, LZ, LM, hnZ⟩ := Init0T.ofS_atoms (args := args) hpl L Y (fun x hx => h x (by simp [xoA, hx]))
  obtain ⟨P1, Ps, hlen, L1, hL, hP1m, hlink1, hlink⟩ := xs_chain (args := args) hpl hnZ x0 x1 x2 x5 names cls hcls hnames (fun x hx => h x (by simp [xoA, hx]))
  have hfound : s.vm.findClass cls = some P1.m.cls := findClass_of_methodNamed hP1m
  cases Option.some.inj (hfoundX.symm.trans hfound)
  obtain ⟨c1, kX', hc1, hk, hord, -, -, hn6⟩ := Cond.instantiable_spec (a' (.instantiable cls 6) (by simp [xoA]))
  cases Option.some.inj (hc1.symm.trans hfound)
  cases Option.some.inj (hkX.symm.trans hk)
  have hsel0 : selectMethod e.platform s.vm P1.m.cls T.fill0 = .method T.fill0 := by
    obtain ⟨c2, r2, m2, q1, q2, q3, q4, -⟩ := Cond.selects_spec (a' (.selects cls Bundle.tFill0 Bundle.tFill0) (by simp [xoA]))
    cases Option.some.inj (q1.symm.trans hfound)
    cases Option.some.inj (q2.symm.trans (State.methodFound?_of_named Y.fill0 (by decide)))
    cases Option.some.inj (q3.symm.trans Y.fill0)
    rw [Launch.admits_selectMethod X.admits]; exact q4
  have hselF : selectMethod e.platform s.vm P1.m.cls T.fill = .method T.fill := by
    obtain ⟨c2, r2, m2, q1, q2, q3, q4, -⟩ := Cond.selects_spec (a' (.selects cls Bundle.tFill Bundle.tFill) (by simp [xoA]))
    cases Option.some.inj (q1.symm.trans hfound)
    cases Option.some.inj (q2.symm.trans (State.methodFound?_of_named Y.fill (by decide)))
    cases Option.some.inj (q3.symm.trans Y.fill)
    rw [Launch.admits_selectMethod X.admits]; exact q4
  obtain ⟨cellS0, hcS0, hiss⟩ := Y.statics
  obtain ⟨u0, hu0⟩ := Cond.staticRefV Y.unassigned L.unassignedStatic L.statics hcS0 hiss (a' (.isRef (.static Bundle.tN "UNASSIGNED_STACK" Bundle.steD)) (by simp [xoA]))
  obtain ⟨sen, hsen⟩ := Cond.staticRefV Y.sentinel L.sentinelStatic L.statics hcS0 hiss (a' (.isRef (.static Bundle.tN "SUPPRESSED_SENTINEL" Bundle.listD)) (by simp [xoA]))
  obtain ⟨ci198, i198, fB, hk198, hg198, ha198, hsB, -, hnB, htB, hffB⟩ := Cond.ownField (t := .object "java/lang/Object") Y.found L.cls (by decide +kernel) (a' (.fieldLink Bundle.tN 198 Bundle.tN "backtrace" "Ljava/lang/Object;") (by simp [xoA])) (a' (.lays Bundle.tN Bundle.tN "backtrace" "Ljava/lang/Object;") (by simp [xoA])) e.platform hpl
  obtain ⟨cellS, hcS', heS, -, hkeep⟩ := X.same.2.2.2.2.2 T.aS cellS0 hcS0
  have hcellS : W.heap[T.aS]? = some cellS := hcS'
  have hout' : ∀ i, (⟨T.aS, i⟩ : Loc) ∉ locs := fun i hmem => by
    have := hlocs _ hmem cellS0 hcS0
    rw [hiss] at this; cases this
  have hknownS : cellS.vm ≠ .unknown := by
    rw [heS]; intro hu
    rw [show cellS0.vm = .unknown from hu] at hiss
    cases hiss
  have hneS : T.aS ≠ a := Nat.ne_of_lt (Nat.lt_of_lt_of_le (Array.getElem?_eq_some_iff.mp hcS0).1 hnew)
  obtain ⟨iM, hffM⟩ := Y.msg
  obtain ⟨tyC, dC, hdC, hdnC⟩ := Cond.laysAt hfound hk Y.cause (a' (.lays cls Bundle.tN "cause" "Ljava/lang/Throwable;") (by simp [xoA]))
  obtain ⟨tyS, dS, hdS, hdnS⟩ := Cond.laysAt hfound hk Y.stack (a' (.lays cls Bundle.tN "stackTrace" Bundle.steD) (by simp [xoA]))
  obtain ⟨tyP, dP, hdP, hdnP⟩ := Cond.laysAt hfound hk Y.supp (a' (.lays cls Bundle.tN "suppressedExceptions" Bundle.listD) (by simp [xoA]))
  obtain ⟨tyM, dM, hdM, hdnM⟩ := Cond.laysAt hfound hk hffM (a' (.lays cls Bundle.tN "detailMessage" "Ljava/lang/String;") (by simp [xoA]))
  obtain ⟨tyB, dB, hdB, hdnB⟩ := Cond.laysAt hfound hk hffB (a' (.lays cls Bundle.tN "backtrace" "Ljava/lang/Object;") (by simp [xoA]))
  have bC := Cond.laysApart hdB hdC hdnB hdnC (by rw [hnB, Y.causeName]; decide)
  have bS := Cond.laysApart hdB hdS hdnB hdnS (by rw [hnB, Y.stackName]; decide)
  have bP := Cond.laysApart hdB hdP hdnB hdnP (by rw [hnB, Y.suppName]; decide)
  have hskip : SkipFacts T e.platform s (fun u => u) u0 ((preparedCellV T.toThrowableT (freshCell P1.m.cls kX) a u0 sen).withEntry W.cur) :=
    ⟨{ ci198 := ci198, i198 := i198, fBack := fB }, ⟨hk198, hg198, ha198, hsB⟩, by
      have := fresh_default (c := P1.m.cls) tyB
      rw [htB] at this
      simpa [preparedCellV, Cell.setSlot, Cell.withEntry, Array.getElem?_setIfInBounds, bC, bS, bP, bC.symm, bS.symm, bP.symm, defaultValue] using this, fun _ _ => rfl⟩
  obtain ⟨tm, methC, cdC, kC, vm₁, hnC, -, -, -, -, -, -, -, hW₁, st1⟩ := Steps.initColdS (tb := p.tables) (e := e) (below := below) (s := s) (U := W) X.here hexec X.warmed hpl hown (t := Bundle.initS cls) rfl rfl (Bundle.fit_spec hcls).2
    (a' (.methodLink own ic (Bundle.initS cls)) (by simp [xoA])) (h (.instanceMethod (Bundle.initS cls)) (by cases names <;> simp [xoA, xs_ch, Bundle.passSAtoms])) (bytes := rx) (maxL := 2) (h (.code (Bundle.initS cls) rx 2 none) (by cases names <;> simp [xoA, xs_ch, Bundle.passSAtoms]))
    (f := g) hg (a := a) (msg := msg) (rest := .ref a :: rest) hstack hd6
  cases Option.some.inj (hnC.symm.trans hP1m)
  have X₁ := X.noted hW₁
  obtain ⟨vm₂, X₂, st2⟩ := X₁.ctorMessageOffV hexec (g := { g with stack := .ref a :: rest }) hg hsize T L Z LZ M LM (P1 :: Ps)
    (fun P hP => by rcases List.mem_cons.mp hP with rfl | hP; exact L1; exact hL P hP) ⟨hlink1, hlink⟩ (u0 := u0) (sen := sen) (self := a) hmsg (cell := freshCell P1.m.cls kX) (cellS := cellS)
    hcell (fun _ => by simp) (by simp) rfl rfl hsel0 hselF hcellS hneS hknownS (by rw [hkeep _ (hout' _)]; exact hu0) (by rw [hkeep _ (hout' _)]; exact hsen)
    (Takes.of_laid hk hord tyC (by rw [Y.causeType]; rfl)) (Takes.of_laid hk hord tyS (by rw [Y.stackType]; exact fits_refV_array _ u0)) (Takes.of_laid hk hord tyP (by rw [Y.suppType]; exact fits_refV_object _ sen))
    (Takes.of_laid hk hord tyM (by rw [Y.msgType]; exact fits_refV_object _ ⟨msg, hmsg⟩)) Y.objLocals hskip htr [] hd6
    (by simp only [List.length_cons, hlen]; omega) (by simp only [List.length_cons, hlen]; exact hRlocals)
  obtain ⟨hwalk, hrun, hended, hWU, hsame⟩ := X₂.athrowLeaves hexec (g := { g with stack := .ref a :: rest, pc := g.pc + 3 }) hg hlocked hentered hout (a := a) (rest := rest) rfl hd9
  have hlt : a < ((W.setVm vm₁).setVm vm₂).heap.size := (Array.getElem?_eq_some_iff.mp hcell).1
  have hU := heapAt_setCell_self (s := (W.setVm vm₁).setVm vm₂) (plainBareV T.toThrowableT (freshCell P1.m.cls kX) a u0 sen msg) hlt
  refine ⟨_, st1 _ (fun acts => ?_), hrun, hended, hWU, hsame.weaken (fun y hy hlt' => ?_) (Nat.le_refl _) (Nat.le_refl _), _, hU, ?_⟩
  · rw [doInvoke_state]
    exact st2 _ hwalk
  · rcases List.mem_append.mp hy with h1 | h1
    · exact h1
    · exfalso
      have hb : y.base = a := by
        simp only [List.mem_cons, List.not_mem_nil, or_false] at h1
        rcases h1 with rfl | rfl | rfl | rfl | rfl <;> rfl
      rw [hb] at hlt'
      exact Nat.not_lt.mpr hnew hlt'
  · exact ⟨hfound, rfl⟩
end XSC
section XSE
variable {p : Program} {l : Launch} {e : Env} {R : Room} {s : State} {m : MethodId} {args : Array Value} {below : List Frame} {meth : Method} {c : Code} {H : Heap} {locs : List Loc} {cells slots : Nat}
variable {free : Addr → Prop} {ls : Array Slot} {rest : List Value} {Qc : Array Value → State → Outcome → State → Prop} {XC : String → State → State → Prop}
/-- 'throw new E("text")': new; dup; ldc; invokespecial; athrow -/
theorem xs_throwS {cc : ByteArray} {pc : Nat} (hexec : p.tables.exec = Jvm.exec) (hb : c.code = cc) (hl : l.stackTraces = false) {own cls text : String} {names : List String} {ik is ic mc ms sa ix : Nat} {rx : ByteArray} {A : Nat → Prop} (x0 : decode rx 0 = .ok (.aload_n 0, 1)) (x1 : decode rx 1 = .ok (.aload_n 1, 1)) (x2 : decode rx 2 = .ok (.invokespecial ix, 3)) (x5 : decode rx 5 = .ok (.return_, 1))
    (hown : s.vm.findClass own = some m.cls) (hcls : Bundle.fit cls = true) (hnames : ∀ n ∈ names, Bundle.fit n = true)
    (hk : (Cond.classLink own ik cls).before args s = true) (hini : (Cond.initialized cls).before args s = true) (hstr : vk_R own is text sa s) (hat : ∀ w ∈ xoAt own ic cls ix rx names, w.before args s = true)
    (hgood : ∀ w ∈ Cond.classLink own ik cls :: Cond.initialized cls :: xoAt own ic cls ix rx names, vx_ot w = true)
    (hU : vx_Zq Bundle.tN "UNASSIGNED_STACK" Bundle.steD A s s.heap) (hN : vx_Zq Bundle.tN "SUPPRESSED_SENTINEL" Bundle.listD A s s.heap) (hS : va_S A s.heap H locs) (hsize : ls.size = c.maxLocals)
    (d0 : decode cc pc = .ok (.new ik, 3)) (d3 : decode cc (pc + 3) = .ok (.dup, 1)) (d4 : decode cc (pc + 4) = .ok (.ldc is, 2)) (d6 : decode cc (pc + 6) = .ok (.invokespecial ic, 3)) (d9 : decode cc (pc + 9) = .ok (.athrow, 1))
    (hout : ∀ x ∈ c.exceptionTable.toList, covers x (pc + 9) = false)
    (hRframes : names.length + 3 < R.frames) (hRlocals : (rest.map fun v => v.category).sum + (13 * (names.length + 1) + 43) ≤ R.locals) (hRcells : cells + 1 ≤ R.cells) (hRslots : slots + 6 ≤ R.slots) (hlocks : meth.locks = false)
    (hx : ∀ t : State, s.vm.Alike t.vm → H.size ≤ t.heap.size → (∀ q : Nat, q < H.size → t.heap[q]? = H[q]?) → XC cls s t)
    (hf : ∀ z ∈ locs, free z.base) (hc : cells + 1 ≤ mc) (hs : slots + 6 ≤ ms) :
    W p l e R s m args below meth c H locs cells slots (vx_MQ below Qc XC args s mc ms free) (F0 m pc ls rest) := by
  intro T hT X
  have htr : e.platform.stackTraces = false := (show e.platform.stackTraces = l.stackTraces by rw [X.admits.platform]).trans hl
  have Y := vx_rebase X (R' := { frames := R.frames, locals := R.locals, cells := 1, slots := 6 }) (Nat.le_refl _) (Nat.le_refl _) hRcells hRslots
  obtain ⟨s', hA⟩ : ∃ z, z = (T.setVm s.vm).setFrames (.invoking m args :: below) := ⟨_, rfl⟩
  rw [← hA] at Y
  have hvm : s'.vm = s.vm := by rw [hA]; rfl
  have hhp : s'.heap = H := by rw [hA]; exact hT
  have hW0 : s.WarmedH s'.vm := by rw [hvm]; exact State.WarmedH.refl s
  have hat' : ∀ w ∈ xoAt own ic cls ix rx names, w.before args s' = true := fun w hw => vx_ot_at hW0 hvm.symm (hgood w (List.mem_cons_of_mem _ (List.mem_cons_of_mem _ hw))) (hat w hw)
  have hk' : (Cond.classLink own ik cls).before args s' = true := vx_ot_at hW0 hvm.symm (hgood _ List.mem_cons_self) hk
  have hini' : (Cond.initialized cls).before args s' = true := vx_ot_at hW0 hvm.symm (hgood _ (List.mem_cons_of_mem _ List.mem_cons_self)) hini
  have hU' : vx_Zq Bundle.tN "UNASSIGNED_STACK" Bundle.steD A s' s'.heap := by rw [hhp]; exact vx_Zq.moved hW0.alike (hU.kept hS.2.1)
  have hN' : vx_Zq Bundle.tN "SUPPRESSED_SENTINEL" Bundle.listD A s' s'.heap := by rw [hhp]; exact vx_Zq.moved hW0.alike (hN.kept hS.2.1)
  have h : ∀ w ∈ xoA own ic cls ix rx names, w.before args s' = true := vx_own hat' (vx_isRefq hU'.1) (vx_isRefq hN'.1) hU'.2.word hN'.2.word
  have hown' : s'.vm.findClass own = some m.cls := by rw [hvm]; exact hown
  have hins : (Cond.instantiable cls 6).before args s' = true := h _ (by simp [xoA])
  obtain ⟨vm₁, cX, kX, hfX, hkX, -, -, X₁, st1⟩ := Y.newCold hexec (own := own) (C := cls) (index := ik) (n := 6) hown' hk' hins hini'
    (g := F0 m pc ls rest) rfl (by rw [hb]; exact d0) (Nat.le_refl _) (Nat.le_refl _)
  generalize hT1 : (T.setVm vm₁).pushCell { cls := cX, slots := kX.instanceTypes.map defaultValue, vm := .none } = T1 at X₁ st1
  have hcat : (Value.ref T.heap.size).category = 1 := rfl
  have hcellA : T1.heap[T.heap.size]? = some (freshCell cX kX) := by rw [← hT1]; exact State.heap_pushCell_size _ _
  have d3' : decode c.code (pc + 3) = .ok (.dup, 1) := by rw [hb]; exact d3
  have d4' : decode c.code (pc + 4) = .ok (.ldc is, 2) := by rw [hb]; exact d4
  have hstr' : vk_R own is text sa s' := vk_R.warm hW0 hstr
  obtain ⟨U, hsteps, hrun, hend, hW, hsame, ce, hce, hO⟩ := xs_ctor X₁ hexec htr x0 x1 x2 x5 (own := own) (cls := cls) (names := names) (ic := ic) hown' hcls hnames h (fun x hx => nomatch hx) hfX hkX hcellA (by rw [hhp, hT]; exact Nat.le_refl _) (msg := .ref sa) rfl
    (g := { method := m, pc := pc + 6, locals := ls, stack := .ref sa :: .ref T.heap.size :: .ref T.heap.size :: rest, locked := none }) rfl hsize rfl rfl (rest := rest) rfl
    (by rw [hb]; exact d6) (by rw [hb]; exact d9) hout hRframes (by simp only [List.map_cons, List.sum_cons, hcat]; omega) hlocks
  obtain ⟨f1, f2⟩ := vx_frame hsame
  rw [hhp] at f1 f2
  have hWs : s.WarmedH U.vm := State.WarmedH.trans hW0 hW
  have hcl : s.vm.findClass cls = some ce.cls := by
    have h9 := hO.1
    rw [hvm] at h9
    exact h9
  have hall : s.sameButNew ({ U with vm := s.vm } : State) locs mc ms := by
    subst hA
    obtain ⟨e1, e2⟩ := hsame
    rw [State.setFrames_setFrames] at e1
    have h2 : (T.setVm s.vm).sameButNew ({ U with vm := s.vm } : State) [] (0 + 1) (0 + 6) := ⟨e1, e2⟩
    have h3 := X.same.trans h2
    rw [List.append_nil] at h3
    exact h3.mono hc hs
  refine ⟨U, ?_, .threw T.heap.size, hrun, hend, Or.inr ⟨T.heap.size, rfl, cls, ce, locs, hx U hWs.alike f1 (fun q hq => f2 q hq (fun z hz => nomatch hz)), hce, hO.2, hcl, hWs, hall, hf⟩⟩
  refine st1 _ ?_
  show Steps p.tables e below (T1.setTop { method := m, pc := pc + 3, locals := ls, stack := .ref T.heap.size :: rest, locked := none }) _
  jvm_step X₁.here [X₁.here.top, hexec, d3', Value.category]
  exact X₁.ldcString hexec (own := own) (text := text) (index := is) (a := sa) hown' hstr'.1 hstr'.2
    (g := { method := m, pc := pc + 4, locals := ls, stack := .ref T.heap.size :: .ref T.heap.size :: rest, locked := none }) rfl d4' _ hsteps
/-- 'throw new E("text")', the text by a wide index -/
theorem xs_throwSW {cc : ByteArray} {pc : Nat} (hexec : p.tables.exec = Jvm.exec) (hb : c.code = cc) (hl : l.stackTraces = false) {own cls text : String} {names : List String} {ik is ic mc ms sa ix : Nat} {rx : ByteArray} {A : Nat → Prop} (x0 : decode rx 0 = .ok (.aload_n 0, 1)) (x1 : decode rx 1 = .ok (.aload_n 1, 1)) (x2 : decode rx 2 = .ok (.invokespecial ix, 3)) (x5 : decode rx 5 = .ok (.return_, 1))
    (hown : s.vm.findClass own = some m.cls) (hcls : Bundle.fit cls = true) (hnames : ∀ n ∈ names, Bundle.fit n = true)
    (hk : (Cond.classLink own ik cls).before args s = true) (hini : (Cond.initialized cls).before args s = true) (hstr : vk_R own is text sa s) (hat : ∀ w ∈ xoAt own ic cls ix rx names, w.before args s = true)
    (hgood : ∀ w ∈ Cond.classLink own ik cls :: Cond.initialized cls :: xoAt own ic cls ix rx names, vx_ot w = true)
    (hU : vx_Zq Bundle.tN "UNASSIGNED_STACK" Bundle.steD A s s.heap) (hN : vx_Zq Bundle.tN "SUPPRESSED_SENTINEL" Bundle.listD A s s.heap) (hS : va_S A s.heap H locs) (hsize : ls.size = c.maxLocals)
    (d0 : decode cc pc = .ok (.new ik, 3)) (d3 : decode cc (pc + 3) = .ok (.dup, 1)) (d4 : decode cc (pc + 4) = .ok (.ldc_w is, 3)) (d7 : decode cc (pc + 7) = .ok (.invokespecial ic, 3)) (d10 : decode cc (pc + 10) = .ok (.athrow, 1))
    (hout : ∀ x ∈ c.exceptionTable.toList, covers x (pc + 10) = false)
    (hRframes : names.length + 3 < R.frames) (hRlocals : (rest.map fun v => v.category).sum + (13 * (names.length + 1) + 43) ≤ R.locals) (hRcells : cells + 1 ≤ R.cells) (hRslots : slots + 6 ≤ R.slots) (hlocks : meth.locks = false)
    (hx : ∀ t : State, s.vm.Alike t.vm → H.size ≤ t.heap.size → (∀ q : Nat, q < H.size → t.heap[q]? = H[q]?) → XC cls s t)
    (hf : ∀ z ∈ locs, free z.base) (hc : cells + 1 ≤ mc) (hs : slots + 6 ≤ ms) :
    W p l e R s m args below meth c H locs cells slots (vx_MQ below Qc XC args s mc ms free) (F0 m pc ls rest) := by
  intro T hT X
  have htr : e.platform.stackTraces = false := (show e.platform.stackTraces = l.stackTraces by rw [X.admits.platform]).trans hl
  have Y := vx_rebase X (R' := { frames := R.frames, locals := R.locals, cells := 1, slots := 6 }) (Nat.le_refl _) (Nat.le_refl _) hRcells hRslots
  obtain ⟨s', hA⟩ : ∃ z, z = (T.setVm s.vm).setFrames (.invoking m args :: below) := ⟨_, rfl⟩
  rw [← hA] at Y
  have hvm : s'.vm = s.vm := by rw [hA]; rfl
  have hhp : s'.heap = H := by rw [hA]; exact hT
  have hW0 : s.WarmedH s'.vm := by rw [hvm]; exact State.WarmedH.refl s
  have hat' : ∀ w ∈ xoAt own ic cls ix rx names, w.before args s' = true := fun w hw => vx_ot_at hW0 hvm.symm (hgood w (List.mem_cons_of_mem _ (List.mem_cons_of_mem _ hw))) (hat w hw)
  have hk' : (Cond.classLink own ik cls).before args s' = true := vx_ot_at hW0 hvm.symm (hgood _ List.mem_cons_self) hk
  have hini' : (Cond.initialized cls).before args s' = true := vx_ot_at hW0 hvm.symm (hgood _ (List.mem_cons_of_mem _ List.mem_cons_self)) hini
  have hU' : vx_Zq Bundle.tN "UNASSIGNED_STACK" Bundle.steD A s' s'.heap := by rw [hhp]; exact vx_Zq.moved hW0.alike (hU.kept hS.2.1)
  have hN' : vx_Zq Bundle.tN "SUPPRESSED_SENTINEL" Bundle.listD A s' s'.heap := by rw [hhp]; exact vx_Zq.moved hW0.alike (hN.kept hS.2.1)
  have h : ∀ w ∈ xoA own ic cls ix rx names, w.before args s' = true := vx_own hat' (vx_isRefq hU'.1) (vx_isRefq hN'.1) hU'.2.word hN'.2.word
  have hown' : s'.vm.findClass own = some m.cls := by rw [hvm]; exact hown
  have hins : (Cond.instantiable cls 6).before args s' = true := h _ (by simp [xoA])
  obtain ⟨vm₁, cX, kX, hfX, hkX, -, -, X₁, st1⟩ := Y.newCold hexec (own := own) (C := cls) (index := ik) (n := 6) hown' hk' hins hini'
    (g := F0 m pc ls rest) rfl (by rw [hb]; exact d0) (Nat.le_refl _) (Nat.le_refl _)
  generalize hT1 : (T.setVm vm₁).pushCell { cls := cX, slots := kX.instanceTypes.map defaultValue, vm := .none } = T1 at X₁ st1
  have hcat : (Value.ref T.heap.size).category = 1 := rfl
  have hcellA : T1.heap[T.heap.size]? = some (freshCell cX kX) := by rw [← hT1]; exact State.heap_pushCell_size _ _
  have d3' : decode c.code (pc + 3) = .ok (.dup, 1) := by rw [hb]; exact d3
  have d4' : decode c.code (pc + 4) = .ok (.ldc_w is, 3) := by rw [hb]; exact d4
  have hstr' : vk_R own is text sa s' := vk_R.warm hW0 hstr
  obtain ⟨U, hsteps, hrun, hend, hW, hsame, ce, hce, hO⟩ := xs_ctor X₁ hexec htr x0 x1 x2 x5 (own := own) (cls := cls) (names := names) (ic := ic) hown' hcls hnames h (fun x hx => nomatch hx) hfX hkX hcellA (by rw [hhp, hT]; exact Nat.le_refl _) (msg := .ref sa) rfl
    (g := { method := m, pc := pc + 7, locals := ls, stack := .ref sa :: .ref T.heap.size :: .ref T.heap.size :: rest, locked := none }) rfl hsize rfl rfl (rest := rest) rfl
    (by rw [hb]; exact d7) (by rw [hb]; exact d10) hout hRframes (by simp only [List.map_cons, List.sum_cons, hcat]; omega) hlocks
  obtain ⟨f1, f2⟩ := vx_frame hsame
  rw [hhp] at f1 f2
  have hWs : s.WarmedH U.vm := State.WarmedH.trans hW0 hW
  have hcl : s.vm.findClass cls = some ce.cls := by
    have h9 := hO.1
    rw [hvm] at h9
    exact h9
  have hall : s.sameButNew ({ U with vm := s.vm } : State) locs mc ms := by
    subst hA
    obtain ⟨e1, e2⟩ := hsame
    rw [State.setFrames_setFrames] at e1
    have h2 : (T.setVm s.vm).sameButNew ({ U with vm := s.vm } : State) [] (0 + 1) (0 + 6) := ⟨e1, e2⟩
    have h3 := X.same.trans h2
    rw [List.append_nil] at h3
    exact h3.mono hc hs
  refine ⟨U, ?_, .threw T.heap.size, hrun, hend, Or.inr ⟨T.heap.size, rfl, cls, ce, locs, hx U hWs.alike f1 (fun q hq => f2 q hq (fun z hz => nomatch hz)), hce, hO.2, hcl, hWs, hall, hf⟩⟩
  refine st1 _ ?_
  show Steps p.tables e below (T1.setTop { method := m, pc := pc + 3, locals := ls, stack := .ref T.heap.size :: rest, locked := none }) _
  jvm_step X₁.here [X₁.here.top, hexec, d3', Value.category]
  exact X₁.ldcStringW hexec (own := own) (text := text) (index := is) (a := sa) hown' hstr'.1 hstr'.2
    (g := { method := m, pc := pc + 4, locals := ls, stack := .ref T.heap.size :: .ref T.heap.size :: rest, locked := none }) rfl d4' _ hsteps
end XSE

/-! THROWS: 'throw new E("text")' of the class's own methods (wip/p65/gen18.py writes this). -/
def xnm : List String := ["java/lang/RuntimeException", "java/lang/Exception"]
/-- by the exception's number: the index of its class, of its constructor -/
def xthk (E : Nat) : Nat := match E with
  | 0 => 87
  | 1 => 97
  | 2 => 137
  | _ => 137
def xthc (E : Nat) : Nat := match E with
  | 0 => 91
  | 1 => 101
  | 2 => 141
  | _ => 141
/-- the sites: method, pc, exception, the text's index, wide -/
def xthL : List (Nat × Nat × Nat × Nat × Bool) := [(76, 18, 1, 99, false), (79, 23, 0, 89, false), (82, 27, 1, 102, false), (85, 11, 2, 372, true), (120, 11, 2, 377, true), (160, 11, 1, 381, true), (165, 9, 1, 385, true), (168, 11, 1, 383, true), (173, 27, 1, 297, true), (175, 15, 1, 302, true), (183, 22, 0, 310, true), (185, 22, 0, 315, true), (188, 16, 1, 320, true), (188, 39, 0, 325, true), (192, 16, 0, 334, true)]
/-- the texts -/
def xths : List (Nat × String) := [(89, "the input buffer holds at most 600 bytes"), (99, "the input buffer can only become shorter"), (102, "the setup text has an error"), (297, "a demand is 0 to the capacity of the resource"), (302, "a release day is 0 to 99"), (310, "there is this link, or it would close a cycle"), (315, "there is no such link"), (320, "a capacity is 1 to 9"), (325, "a task has a greater demand for the resource"), (334, "the only task cannot be dropped"), (372, "the task does not exist"), (377, "the resource does not exist"), (381, "a day is 0 to 999"), (383, "a duration is 1 to 30 days"), (385, "a rule is 0 to 3")]
set_option maxRecDepth 100000 in
theorem xthk_ok : ∀ q ∈ [0, 1, 2, 3], Cond.classLink "ProjectPlanner" (xthk q) (xEn q) ∈ xwA := xwA_map [894, 491, 675, 675] _ (by decide +kernel) (fun _ => rfl)
set_option maxRecDepth 100000 in
theorem xthi_ok : ∀ q ∈ [0, 1, 2, 3], Cond.initialized (xEn q) ∈ xwA := xwA_map [52, 51, 54, 54] _ (by decide +kernel) (fun _ => rfl)
def xdc (w : Cond) : Bool := match w with
  | .declares _ => true
  | .castable _ _ => true
  | _ => false
/-- by the exception's number: its constructor's call of its super, its constructor's code -/
def xthx (E : Nat) : Nat := match E with
  | 0 => 7
  | 1 => 7
  | 2 => 7
  | _ => 7
noncomputable def xthb (E : Nat) : ByteArray := match E with
  | 0 => prog_22_method_2_code
  | 1 => prog_21_method_2_code
  | 2 => prog_23_method_2_code
  | _ => prog_23_method_2_code
noncomputable def xthw (E : Nat) : List Cond := xoAt "ProjectPlanner" (xthc E) (xEn E) (xthx E) (xthb E) xnm
/-- their places -/
def xthp (E : Nat) : List Nat := xget0 [] [[48, 513, 522, 526, 529, 531, 514, 515, 61, 62, 516, 521, 527, 547, 503, 548, 505, 549, 507, 517, 519, 509, 543, 544, 546, 509, 905, 906, 907, 537, 537, 538, 539, 540, 540, 541, 542, 543, 904, 895, 897, 524, 898, 899, 900, 901, 512, 511, 902], [48, 513, 522, 526, 529, 531, 514, 515, 61, 62, 516, 521, 527, 547, 503, 548, 505, 549, 507, 517, 519, 509, 543, 544, 546, 509, 534, 535, 536, 537, 537, 538, 539, 540, 540, 541, 542, 543, 533, 492, 500, 501, 502, 504, 506, 508, 512, 511, 510], [48, 513, 522, 526, 529, 531, 514, 515, 61, 62, 516, 521, 527, 547, 503, 548, 505, 549, 507, 517, 519, 509, 543, 544, 546, 509, 686, 687, 688, 537, 537, 538, 539, 540, 540, 541, 542, 543, 685, 676, 678, 525, 679, 680, 681, 682, 512, 511, 683], [48, 513, 522, 526, 529, 531, 514, 515, 61, 62, 516, 521, 527, 547, 503, 548, 505, 549, 507, 517, 519, 509, 543, 544, 546, 509, 686, 687, 688, 537, 537, 538, 539, 540, 540, 541, 542, 543, 685, 676, 678, 525, 679, 680, 681, 682, 512, 511, 683]] E
theorem xthp_all : ([0, 1, 2, 3] : List Nat).all (fun q => decide ((xthw q).filter (fun w => !xdc w) = (xthp q).filterMap (fun i => xTb[i]?)) && (xthw q).all (fun w => xdc w || goodWord w)) = true := by decide +kernel
theorem xthv_all : ([0, 1, 2, 3] : List Nat).all (fun q => (xthw q).all (fun w => vx_ot w)) = true := by decide +kernel
theorem xthb_all : ([0, 1, 2, 3] : List Nat).all (fun q => (decide (decode (xthb q) 0 = .ok (.aload_n 0, 1)) && decide (decode (xthb q) 1 = .ok (.aload_n 1, 1))) && (decide (decode (xthb q) 2 = .ok (.invokespecial (xthx q), 3)) && decide (decode (xthb q) 5 = .ok (.return_, 1)))) = true := by decide +kernel
theorem xths_all : xthL.all (fun q => Nat.beq (xoc q.1) 11 && (Nat.blt q.2.2.1 4 && ((xhh q.1).isEmpty && (xths.map (·.1)).contains q.2.2.2.1))) = true := by decide +kernel
theorem xthd_all : xthL.all (fun q => match q with
  | (y, pc, E, is, w) => (xdec y pc (.new (xthk E)) 3 && xdec y (pc + 3) .dup 1) && (match w with
    | true => (xdec y (pc + 4) (.ldc_w is) 3 && xdec y (pc + 7) (.invokespecial (xthc E)) 3) && xdec y (pc + 10) .athrow 1
    | false => (xdec y (pc + 4) (.ldc is) 2 && xdec y (pc + 6) (.invokespecial (xthc E)) 3) && xdec y (pc + 9) .athrow 1)) = true := by decide +kernel
/-- what a start gives of the exceptions -/
def xCt (A : Nat → Prop) (s : State) : Prop :=
  (∀ q ∈ xths, ∃ sa, vk_R "ProjectPlanner" q.1 q.2 sa s) ∧ vx_Zq Bundle.tN "UNASSIGNED_STACK" Bundle.steD A s s.heap ∧ vx_Zq Bundle.tN "SUPPRESSED_SENTINEL" Bundle.listD A s s.heap ∧
  (∀ E E', E < 0 → E' < 4 → E ≠ E' → va_Nc (xEn E) (xEn E') s) ∧ ∀ E ∈ ([0, 1, 2, 3] : List Nat), ∀ w ∈ xthw E, xdc w = true → va_Nw w s
theorem xbump_at {M : xM} {c n k o f : Nat} (h : k ≠ 100) : xbump M c n k o f = M k o f := by
  unfold xbump
  rw [xst_ne (by omega), xst_ne (by omega)]
theorem gn_xbump {M : xM} {c n k o f : Nat} (h : k ≠ 100) : gn (xbump M c n) k o f = gn M k o f := by
  unfold gn
  rw [xbump_at h]
theorem xbump_0 {M : xM} {c n : Nat} : gn (xbump M c n) 100 0 0 = gn M 100 0 0 + c := by
  unfold xbump
  rw [gn_xst, if_neg (by omega), gn_xst, if_pos ⟨rfl, rfl, rfl⟩]
theorem xbump_1 {M : xM} {c n : Nat} : gn (xbump M c n) 100 0 1 = gn M 100 0 1 + n := by
  unfold xbump
  rw [gn_xst, if_pos ⟨rfl, rfl, rfl⟩]
/-- the same things in another store, in a larger heap -/
theorem xWd_ext {s : State} {A : Nat → Prop} {ad : xA} {M M' : xM} {H H' : Heap} (hW : xWd s A ad M H) (hc : ∀ k, xc M' k = xc M k) (hv : ∀ k o f, k < 60 → M' k o f = M k o f ∧ gn M' (200 + k) o f = gn M (200 + k) o f) (hl : ∀ k o, k < 60 → gn M' (110 + k) o 0 = gn M (110 + k) o 0) (hH : ∀ q, q < H.size → H'[q]? = H[q]?) : xWd s A ad M' H' := fun k o hk ho => by
  rw [hc] at ho
  exact ⟨fun hf => ((hW k o hk ho).1 hf).same rfl (hH _ (hW.lt hk ho (Or.inl hf))) (fun f d hd => xfv_eq (hv k o f hk).1 (hv k o f hk).2), fun ty ht => ((hW k o hk ho).2 ty ht).same rfl (hH _ (hW.lt hk ho (Or.inr (by rw [ht]; exact fun h => nomatch h)))) (xlen_eq (hl k o hk)) (fun j hj => xav_eq (hv k o j hk).1 (hv k o j hk).2)⟩
theorem xrest_ext {M M' : xM} (hc : ∀ k, xc M' k = xc M k) (hv : ∀ k o f, k < 60 → M' k o f = M k o f ∧ gn M' (200 + k) o f = gn M (200 + k) o f) (hl : ∀ k o, k < 60 → gn M' (110 + k) o 0 = gn M (110 + k) o 0) (hT : xWT M) (hB : xBt M) (hK : xK M) : xWT M' ∧ xBt M' ∧ xK M' := by
  refine ⟨⟨fun k o f t tk tw hk ho hd ht hf => ?_, fun k o tk tw j hk ho hae hj hf => ?_⟩, ⟨fun k o j ht ho => ?_, fun k o hy hk ho => ?_⟩, ?_⟩
  · rw [hc] at ho ⊢
    have e3 : gn M' k o f = gn M k o f := by unfold gn; rw [(hv k o f hk).1]
    rw [e3]
    exact hT.1 k o f t tk tw hk ho hd ht (by show gn M (200 + k) o f = 1; rw [← (hv k o f hk).2]; exact hf)
  · rw [hc] at ho ⊢
    exact hT.2 k o tk tw j hk ho hae hj (by show gn M (200 + k) o j = 1; rw [← (hv k o j hk).2]; exact hf)
  · rw [hc] at ho
    have e3 : gi M' k o j = gi M k o j := by unfold gi; rw [(hv k o j (xtc_lt k (by rw [ht]; decide))).1]
    rw [e3]
    exact hB.1 k o j ht ho
  · rw [hc] at ho
    rw [hl k o hk]
    exact hB.2 k o hy hk ho
  · obtain ⟨a, b, c, e1, e2, e3, e4, e5⟩ := hK
    exact ⟨by rw [hc]; exact a, by rw [hc]; exact b, by rw [hc]; exact c, by rw [hc]; exact e1, by rw [hc]; exact e2, by rw [hc]; exact e3, by rw [hc]; exact e4, by rw [hc]; exact e5⟩
theorem xEn_fit : ([0, 1, 2, 3] : List Nat).all (fun q => Bundle.fit (xEn q)) = true := by decide +kernel
theorem xnm_fit : ∀ n ∈ xnm, Bundle.fit n = true := List.all_eq_true.mp (by decide +kernel : xnm.all Bundle.fit = true)
set_option maxHeartbeats 4000000 in
theorem xthr_W {p : Program} {l : Launch} {e : Env} {R : Room} {s : State} {m : MethodId} {args : Array Value} {below : List Frame} {meth : Method} {c : Code} {H : Heap} {locs : List Loc} {cells slots : Nat} {A : Nat → Prop} {ad ad0 : xA}
    {y pc fc fs E is : Nat} {w : Bool} {M M0 : xM} {la : Array Slot} {rg : Option (List (Nat × Nat))}
    (F : xFx y p l s m args meth c) (Zt : xCt A s) (I : xInv s A ad M s.heap H locs) (hb : ∀ k o, k < 60 → k ≠ 51 → o < xc M0 k → ad k o = ad0 k o)
    (hET : c.exceptionTable.toList = tableOf (xhh y)) (hz : (y, pc, E, is, w) ∈ xthL) (hla : la.size = xml y) (hRf : 8 ≤ R.frames) (hRl : 200 ≤ R.locals)
    (hc : cells + gn (xbump M 1 6) 100 0 0 ≤ fc + gn M 100 0 0) (hs : slots + gn (xbump M 1 6) 100 0 1 ≤ fs + gn M 100 0 1) (hfc : fc ≤ R.cells) (hfs : fs ≤ R.slots) :
    W p l e R s m args below meth c H locs cells slots (vx_MQ below (xQc A ad0 M0 rg (.inr E, xbump M 1 6)) (xXC A ad0 M0 (.inr E, xbump M 1 6)) args s fc fs A) (F0 m pc la []) := by
  obtain ⟨hx, hbc, hml, hown, hts, hlk, hrt, hnm, htr⟩ := F
  obtain ⟨hW, hP, hT, hB, hK, hS⟩ := I
  obtain ⟨z1, z2, z3, -, z4⟩ := Zt
  have h1 := List.all_eq_true.mp xths_all _ hz
  simp only at h1
  have hoc := Nat.eq_of_beq_eq_true (and_l h1)
  have hE : E < 4 := Nat.le_of_ble_eq_true (and_l (and_r h1))
  have hhh : xhh y = [] := List.isEmpty_iff.mp (and_l (and_r (and_r h1)))
  have hE4 : E ∈ ([0, 1, 2, 3] : List Nat) := by
    have : E = 0 ∨ E = 1 ∨ E = 2 ∨ E = 3 := by omega
    rcases this with rfl | rfl | rfl | rfl <;> simp
  obtain ⟨q, hq, hq2⟩ := List.mem_map.mp (List.contains_iff_mem.mp (and_r (and_r (and_r h1))))
  obtain ⟨sa, hsa⟩ := z1 q hq
  rw [hq2] at hsa
  have hd := List.all_eq_true.mp xthd_all _ hz
  simp only at hd
  rw [hoc] at hown
  rw [hhh] at hET
  have hout : ∀ (z : Nat), ∀ x ∈ c.exceptionTable.toList, covers x z = false := fun z x hx => by rw [hET] at hx; cases hx
  have ha := List.all_eq_true.mp xthp_all E hE4
  have hv := List.all_eq_true.mp xthv_all E hE4
  have hB4 := List.all_eq_true.mp xthb_all E hE4
  have hat : ∀ w ∈ xoAt "ProjectPlanner" (xthc E) (xEn E) (xthx E) (xthb E) xnm, w.before args s = true := fun w hw => by
    cases hz : xdc w with
    | true => exact va_Nw.use (by unfold xdc at hz; split at hz <;> first | rfl | cases hz) (z4 E hE4 w hw hz)
    | false =>
      have hg : goodWord w = true := ((Bool.or_eq_true _ _).mp (List.all_eq_true.mp (and_r ha) w hw)).resolve_left (by rw [hz]; exact fun h => nomatch h)
      have hx : w ∈ (xthw E).filter (fun w => !xdc w) := List.mem_filter.mpr ⟨hw, by rw [hz]; rfl⟩
      rw [of_decide_eq_true (and_l ha), List.mem_filterMap] at hx
      obtain ⟨i, -, hi⟩ := hx
      exact hts w (xwA_mem hi hg)
  have hgood : ∀ w ∈ Cond.classLink "ProjectPlanner" (xthk E) (xEn E) :: Cond.initialized (xEn E) :: xoAt "ProjectPlanner" (xthc E) (xEn E) (xthx E) (xthb E) xnm, vx_ot w = true := fun w hw => by
    rcases List.mem_cons.mp hw with h | h
    · rw [h]; unfold vx_ot; rw [xwA_good (xthk_ok E hE4), Bool.or_true]
    · rcases List.mem_cons.mp h with h | h
      · rw [h]; unfold vx_ot; rw [xwA_good (xthi_ok E hE4), Bool.or_true]
      · exact List.all_eq_true.mp hv w h
  have hxx : ∀ t : State, s.vm.Alike t.vm → H.size ≤ t.heap.size → (∀ q : Nat, q < H.size → t.heap[q]? = H[q]?) → xXC A ad0 M0 (.inr E, xbump M 1 6) (xEn E) s t := fun t hv hz hq => by
    have hc9 : ∀ k, xc (xbump M 1 6) k = xc M k := fun k => gn_xbump (by omega)
    have hv9 : ∀ k o f, k < 60 → xbump M 1 6 k o f = M k o f ∧ gn (xbump M 1 6) (200 + k) o f = gn M (200 + k) o f := fun k o f hk => ⟨xbump_at (by omega), gn_xbump (by omega)⟩
    have hl9 : ∀ k o, k < 60 → gn (xbump M 1 6) (110 + k) o 0 = gn M (110 + k) o 0 := fun k o hk => gn_xbump (by omega)
    have r3 := xrest_ext hc9 hv9 hl9 hT hB hK
    exact ⟨E, ad, rfl, rfl, hE, hb, (xWd_ext hW hc9 hv9 hl9 hq).moved hv, hP.ch hc9, r3.1, r3.2.1, Nat.le_trans hS.1 hz, fun q h1 h2 => (hq q (Nat.lt_of_lt_of_le h1 hS.1)).trans (hS.2.1 q h1 h2)⟩
  have e0 := xbump_0 (M := M) (c := 1) (n := 6)
  have e1 := xbump_1 (M := M) (c := 1) (n := 6)
  have hlen : xnm.length = 2 := rfl
  cases w with
  | false =>
    simp only at hd
    exact xs_throwS hx hbc htr (of_decide_eq_true (and_l (and_l hB4))) (of_decide_eq_true (and_r (and_l hB4))) (of_decide_eq_true (and_l (and_r hB4))) (of_decide_eq_true (and_r (and_r hB4))) hown (List.all_eq_true.mp xEn_fit E hE4) xnm_fit (hts _ (xthk_ok E hE4)) (hts _ (xthi_ok E hE4)) hsa hat hgood z2 z3 hS (hla.trans hml.symm) (of_decide_eq_true (and_l (and_l hd))) (of_decide_eq_true (and_r (and_l hd))) (of_decide_eq_true (and_l (and_l (and_r hd)))) (of_decide_eq_true (and_r (and_l (and_r hd)))) (of_decide_eq_true (and_r (and_r hd))) (hout _) (by omega) (by rw [hlen]; simp; omega) (by omega) (by omega) hlk hxx hS.2.2 (by omega) (by omega)
  | true =>
    simp only at hd
    exact xs_throwSW hx hbc htr (of_decide_eq_true (and_l (and_l hB4))) (of_decide_eq_true (and_r (and_l hB4))) (of_decide_eq_true (and_l (and_r hB4))) (of_decide_eq_true (and_r (and_r hB4))) hown (List.all_eq_true.mp xEn_fit E hE4) xnm_fit (hts _ (xthk_ok E hE4)) (hts _ (xthi_ok E hE4)) hsa hat hgood z2 z3 hS (hla.trans hml.symm) (of_decide_eq_true (and_l (and_l hd))) (of_decide_eq_true (and_r (and_l hd))) (of_decide_eq_true (and_l (and_l (and_r hd)))) (of_decide_eq_true (and_r (and_l (and_r hd)))) (of_decide_eq_true (and_r (and_r hd))) (hout _) (by omega) (by rw [hlen]; simp; omega) (by omega) (by omega) hlk hxx hS.2.2 (by omega) (by omega)
end
section
/-! CALLS: what the entry of a call must keep; the words and the contract of a method (wip/whole/gen19.py writes this). -/
def xdpL : List Nat := [0, 1, 0, 1, 0, 1, 0, 1, 0, 1, 0, 0, 1, 2, 3, 0, 4, 0, 0, 1, 0, 1, 2, 3, 4, 5, 0, 6, 3, 3, 7, 0, 3, 7, 0, 4, 1, 0, 1, 6, 7, 8, 9, 0, 0, 1, 2, 0, 1, 3, 1, 1, 2, 4, 5, 6, 7, 8, 0, 0, 0, 4, 5, 0, 4, 5, 0, 0, 1, 0, 1, 2, 3, 4, 5, 9, 0, 4, 1, 2, 5, 0, 9, 0, 0, 1, 2, 2, 2, 3, 4, 5, 6, 7, 8, 9, 10, 11, 0, 3, 3, 4, 5, 6, 7, 8, 9, 10, 3, 4, 5, 6, 7, 8, 9, 10, 11, 0, 3, 0, 1, 0, 2, 4, 2, 5, 12, 1, 2, 2, 2, 3, 1, 2, 3, 2, 0, 1, 2, 3, 4, 5, 6, 4, 5, 2, 2, 3, 4, 1, 2, 3, 6, 6, 6, 5, 5, 6, 0, 5, 0, 6, 6, 5, 13, 0, 5, 6, 0, 1, 1, 2, 1, 2, 1, 2, 1, 2, 3, 3, 4, 0, 1, 5, 2, 3, 1, 2, 3, 0, 0, 1, 2, 0, 2, 6, 14]
def xdp (y : Nat) : Nat := xnth xdpL y
/-- the word of a method's code -/
noncomputable def xwH (y : Nat) : Cond := match (xhh y).isEmpty with
  | true => Cond.code (xY y) (xCode y) (xml y) (xRet y)
  | false => Cond.codeWith (xY y) (xCode y) (xml y) (xRet y) (xhh y)
noncomputable def xwM (y : Nat) : List Cond := xwH y :: xwA
theorem xwH_n {y : Nat} (h : (xhh y).isEmpty = true) : xwH y = Cond.code (xY y) (xCode y) (xml y) (xRet y) := by unfold xwH; rw [h]
theorem xwH_h {y : Nat} (h : (xhh y).isEmpty = false) : xwH y = Cond.codeWith (xY y) (xCode y) (xml y) (xRet y) (xhh y) := by unfold xwH; rw [h]
theorem xys_all : (List.range 196).all (fun y => ((xhh y).isEmpty && xnor.contains y) || (!(xhh y).isEmpty && xhan.contains y)) = true := by decide +kernel
theorem xwH_mem {y : Nat} (hy : y < 196) : xwH y ∈ xwA := by
  have h := List.all_eq_true.mp xys_all y (List.mem_range.mpr hy)
  rcases (Bool.or_eq_true _ _).mp h with h | h
  · rw [xwH_n (and_l h)]
    exact xcode_ok y (List.contains_iff_mem.mp (and_r h))
  · rw [xwH_h (by simpa using and_l h)]
    exact xcodeW_ok y (List.contains_iff_mem.mp (and_r h))
theorem xwA_in {ws : List Cond} (h : ∀ w ∈ ws, w ∈ xwA) : GoodIn xwA ws := fun w hw => ⟨h w hw, good_of_word (xwA_good (h w hw))⟩
theorem xwM_mem {y : Nat} (hy : y < 196) : ∀ w ∈ xwM y, w ∈ xwA := fun w hw => (List.mem_cons.mp hw).elim (fun e => e ▸ xwH_mem hy) id
theorem xwM_in {y : Nat} (hy : y < 196) : GoodIn xwA (xwM y) := xwA_in (xwM_mem hy)
/-- facts of a method -/
def xmfact (y : Nat) : Bool := ((Nat.beq y 44 || (Nat.beq y 47 || plainName (xY y).cls)) && ((xY y).cls != "java/lang/invoke/MethodHandle" && (xY y).cls != "java/lang/invoke/VarHandle")) && (Nat.ble (xml y) 21 && Nat.blt (xoc y) 21)
theorem xmfact_all : (List.range 197).all xmfact = true := by decide +kernel
theorem xini_of {oc : Nat} (h : oc < 21) : Cond.initialized (xcn oc) ∈ xwA := xini_ok oc (by
  have : oc ∈ List.range 21 := List.mem_range.mpr h
  exact this)
/-- how many parameters -/
def xpn (y n : Nat) : Bool := match parseMethodDescriptor (xY y).desc with
  | some d => Nat.beq d.parameters.length n
  | none => false
theorem xpn_ok {y n : Nat} (h : xpn y n = true) : (parseMethodDescriptor (xY y).desc).map (fun d => d.parameters.length) = some n := by
  unfold xpn at h
  split at h
  · rename_i d hd
    rw [hd]
    exact congrArg some (Nat.eq_of_beq_eq_true h)
  · cases h
/-- the rows that catch -/
def xhx (E : Nat) : Nat := match E with
  | 0 => 13
  | 1 => 19
  | 2 => 29
  | _ => 34
def xhok (C : List xE) (pc : Nat) : List Nat → List (Nat × Nat × Nat × Nat) → Bool
  | [], [] => true
  | E :: t :: r, (a, b, h, ix) :: z => ((Nat.ble a pc && Nat.blt pc b) && (Nat.beq h (xpc (C.drop t)) && (Nat.blt E 4 && Nat.beq ix (xhx E)))) && xhok C pc r z
  | _, _ => false
/-- the manner of a call -/
def xokH (y y' : Nat) (C : List xE) (pc : Nat) (hs : List Nat) : Bool := match hs with
  | [] => (!Nat.beq y 196 && (!xreg y && !xreg y')) && (xhh y).all (fun q => !(Nat.ble q.1 pc && Nat.blt pc q.2.1))
  | 0 :: _ => xreg y == xreg y'
  | 1 :: i :: _ => xreg y && (!xreg y' && Nat.blt i 5)
  | 2 :: _ => false
  | _ => false
def xrets0 (hs : List Nat) : Bool := match hs with
  | 0 :: _ => true
  | 1 :: _ => true
  | _ => false
def xokY (y y' : Nat) (C : List xE) (pc : Nat) (hs : List Nat) : Bool := (Nat.blt y' 196 && Nat.blt (xdp y') (xdp y)) && xokH y y' C pc hs
/-- an entry of a call: by the instruction -/
def xokCV (y : Nat) (C : List xE) (pc ix : Nat) (aux : List Nat) : Bool := match aux with
  | [] => true
  | y' :: n :: t :: kx :: rk :: hs => (match Nat.beq y' 9999 with
    | true => (Nat.beq (xoc y) 17 && Nat.beq ix 310) && ((Nat.beq n 1 && Nat.beq t 3) && (Nat.beq kx 47 && (Nat.beq rk 0 && decide (hs = [4, 47]))))
    | false => (xokY y y' C pc hs && !Nat.beq kx 51) && (((Nat.blt 0 n && Nat.blt 0 rk) && (Nat.blt rk 51 && !(xfd rk).isEmpty)) && ((xpn y' (n - 1) && (xhh y').isEmpty) && (xcal.contains ((xoc y, ix), 0, y', rk) || (xrets0 hs && ((xcal.contains ((xoc y, ix), 5, y', rk) && Nat.beq rk 43) || (xcal.contains ((xoc y, ix), 7, y', rk) && Nat.beq rk 50)))))))
  | _ => false
def xokCS (y : Nat) (C : List xE) (pc ix : Nat) (aux : List Nat) : Bool := match aux with
  | [] => true
  | y' :: n :: t :: kx :: rk :: hs => (match Nat.beq y' 9999 with
    | true => xnat.contains (xoc y, ix) && ((Nat.beq n 5 && Nat.beq t 0) && (Nat.beq rk 0 && decide (hs = [3])))
    | false => (xokY y y' C pc hs && !Nat.beq kx 51) && (xpn y' n && (((xcal.contains ((xoc y, ix), 1, y', 0) && (xhh y').isEmpty) || (xcal.contains ((xoc y, ix), 8, y', 0) && !(xhh y').isEmpty)) || (xrets0 hs && (xcal.contains ((xoc y, ix), 2, y', 0) && (xhh y').isEmpty)))))
  | _ => false
def xokCI (y : Nat) (C : List xE) (pc ix : Nat) (aux : List Nat) : Bool := match aux with
  | [] => true
  | y' :: n :: t :: kx :: rk :: hs => (match Nat.beq y' 9999 with
    | true => xobj.contains (xoc y, ix) && ((Nat.beq n 1 && Nat.beq t 0) && (Nat.beq rk 0 && decide (hs = [5])))
    | false => (xokY y y' C pc hs && !Nat.beq kx 51) && (((Nat.blt 0 n && Nat.blt 0 rk) && Nat.blt rk 51) && ((xrets0 hs && (xpn y' (n - 1) && (xhh y').isEmpty)) && ((((xY y').name == "<init>" && decide (xRet y' = none)) && xcal.any (fun q => Nat.beq q.1.1 (xoc y) && (Nat.beq q.1.2 ix && (Nat.beq q.2.2.1 y' && (Nat.beq q.2.1 3 || Nat.beq q.2.1 4))))) || ((xcal.contains ((xoc y, ix), 6, y', rk) && !(xfd rk).isEmpty) && !((xY y').name == "<init>"))))))
  | _ => false
def xokC (y : Nat) (C : List xE) (pc : Nat) (i : Instr) (aux : List Nat) : Bool := match i with
  | .invokevirtual ix => xokCV y C pc ix aux
  | .invokestatic ix => xokCS y C pc ix aux
  | .invokespecial ix => xokCI y C pc ix aux
  | .new _ => (match aux with
    | [E, n] => Nat.beq n 6 && xthL.any (fun q => Nat.beq q.1 y && (Nat.beq q.2.1 pc && Nat.beq q.2.2.1 E))
    | [_] => false
    | _ => true)
  | _ => true
/-- a whole table -/
noncomputable def xokT (y : Nat) (C : List xE) : List xE → Bool
  | [] => true
  | q :: cs => (xok y C q (xpc cs) && xokC y C q.1 q.2.1 q.2.2.1) && xokT y C cs
theorem xmfact_n {y : Nat} (hy : y < 197) : ((y ≠ 44 ∧ y ≠ 47) → plainName (xY y).cls = true) ∧ (xY y).cls ≠ "java/lang/invoke/MethodHandle" ∧ (xY y).cls ≠ "java/lang/invoke/VarHandle" ∧ xml y ≤ 21 ∧ xoc y < 21 := by
  have h := List.all_eq_true.mp xmfact_all y (List.mem_range.mpr hy)
  unfold xmfact at h
  rw [Bool.and_eq_true, Bool.and_eq_true, Bool.and_eq_true, Bool.and_eq_true, bne_iff_ne, bne_iff_ne] at h
  obtain ⟨⟨h1, h2, h3⟩, h4, h5⟩ := h
  refine ⟨fun hne => ?_, h2, h3, Nat.le_of_ble_eq_true h4, Nat.le_of_ble_eq_true h5⟩
  rcases (Bool.or_eq_true _ _).mp h1 with h | h
  · exact absurd (Nat.eq_of_beq_eq_true h) hne.1
  · rcases (Bool.or_eq_true _ _).mp h with h | h
    · exact absurd (Nat.eq_of_beq_eq_true h) hne.2
    · exact h
/-- what a start gives of the exceptions, with what catches them -/
def xCe (A : Nat → Prop) (s : State) : Prop := xCt A s ∧ ∀ E, E < 4 → va_Nw (.castable (xEn E) (xEn E)) s
theorem xCs.to {A : Nat → Prop} {ad : xA} {s U : State} (hW : s.WarmedH U.vm) (hk : ∀ a : Nat, a < s.heap.size → ¬ A a → U.heap[a]? = s.heap[a]?) (h : xCs A ad s) : xCs A ad U := by
  obtain ⟨z1, z2, z3, z4, z5, z6, z7, z8⟩ := h
  exact ⟨fun q hq => (z1 q hq).warm hW, fun q hq => ((z2 q hq).moved hW.alike).kept hk, fun q hq => va_Nw.warmF hW (z3 q hq), z4.moved hW.alike, z5.moved hW.alike, va_Nw.warmC hW z6, fun q hq => va_Nw.warmM hW (z7 q hq), fun q hq => va_Nw.warmM hW (z8 q hq)⟩
theorem xCe.to {A : Nat → Prop} {s U : State} (hW : s.WarmedH U.vm) (hk : ∀ a : Nat, a < s.heap.size → ¬ A a → U.heap[a]? = s.heap[a]?) (h : xCe A s) : xCe A U := by
  obtain ⟨⟨z1, z2, z3, z4, z5⟩, z6⟩ := h
  refine ⟨⟨fun q hq => ?_, (z2.moved hW.alike).kept hk, (z3.moved hW.alike).kept hk, fun E E' h1 h2 h3 => (z4 E E' h1 h2 h3).moved hW.alike, fun E hE w hw hx => ?_⟩, fun E hE => va_Nw.warmC hW (z6 E hE)⟩
  · obtain ⟨sa, h⟩ := z1 q hq
    exact ⟨sa, h.warm hW⟩
  · have h := z5 E hE w hw hx
    unfold xdc at hx
    split at hx
    · exact va_Nw.warmD hW h
    · exact va_Nw.warmC hW h
    · cases hx
theorem xstt_kinds : xstt.all (fun S => match S.2.2.2 with
  | (k, .ref _) => Nat.blt k 60
  | _ => true) = true := by decide +kernel
theorem xlds_lt : xlds.all (fun q => Nat.blt q.2 13) = true := by decide +kernel
theorem xCs.sm {A : Nat → Prop} {ad ad' : xA} {M : xM} {s : State} (h : xSm ad ad' M) (hK : xK M) (Z : xCs A ad s) : xCs A ad' s := by
  obtain ⟨z1, z2, z3⟩ := Z
  refine ⟨fun q hq => ?_, fun q hq => ?_, z3⟩
  · have hlt : q.2 < 13 := Nat.le_of_ble_eq_true (List.all_eq_true.mp xlds_lt q hq)
    rw [h.1 46 q.2 (by omega) (by omega) (Nat.lt_of_lt_of_le hlt hK.2.2.2.2.1)]
    exact z1 q hq
  · have e : xenc ad' q.2.2.2 = xenc ad q.2.2.2 := by
      obtain ⟨c, n, d, k, w⟩ := q
      cases w with
      | ref o =>
        by_cases h51 : k = 51
        · subst h51
          show xenc ad' (51, .ref o) = xenc ad (51, .ref o)
          unfold xenc
          simp only
          rw [h.2 o]
        · have hlive := xstt_live hq rfl h51 hK
          have hk : k < 60 := by
            have h9 := List.all_eq_true.mp xstt_kinds _ hq
            exact Nat.le_of_ble_eq_true h9
          show xenc ad' (k, .ref o) = xenc ad (k, .ref o)
          rw [xenc_ref h51, xenc_ref h51, h.1 k o hk h51 hlive]
      | _ => rfl
    rw [e]
    exact z2 q hq
/-- a method's arguments in its frame -/
theorem xarg_len : ∀ (as : List xV) (n : Nat), xaw as ≤ n → (xarg n as).length = n
  | [], n, _ => by simp [xarg]
  | a :: r, n, h => by
    unfold xaw at h
    obtain ⟨k, w⟩ := a
    cases w with
    | long x =>
      have h' : 2 + xaw r ≤ n := h
      show ((k, Value.long x) :: xJ :: xarg (n - 2) r).length = n
      rw [List.length_cons, List.length_cons, xarg_len r (n - 2) (by omega)]
      omega
    | double x =>
      have h' : 2 + xaw r ≤ n := h
      show ((k, Value.double x) :: xJ :: xarg (n - 2) r).length = n
      rw [List.length_cons, List.length_cons, xarg_len r (n - 2) (by omega)]
      omega
    | int x =>
      have h' : 1 + xaw r ≤ n := h
      show ((k, Value.int x) :: xarg (n - 1) r).length = n
      rw [List.length_cons, xarg_len r (n - 1) (by omega)]
      omega
    | float x =>
      have h' : 1 + xaw r ≤ n := h
      show ((k, Value.float x) :: xarg (n - 1) r).length = n
      rw [List.length_cons, xarg_len r (n - 1) (by omega)]
      omega
    | ref x =>
      have h' : 1 + xaw r ≤ n := h
      show ((k, Value.ref x) :: xarg (n - 1) r).length = n
      rw [List.length_cons, xarg_len r (n - 1) (by omega)]
      omega
    | null =>
      have h' : 1 + xaw r ≤ n := h
      show ((k, Value.null) :: xarg (n - 1) r).length = n
      rw [List.length_cons, xarg_len r (n - 1) (by omega)]
      omega
    | retAddr x =>
      have h' : 1 + xaw r ≤ n := h
      show ((k, Value.retAddr x) :: xarg (n - 1) r).length = n
      rw [List.length_cons, xarg_len r (n - 1) (by omega)]
      omega
theorem xlv_J {ad : xA} : ∀ (n i : Nat), xlv ad (List.replicate n xJ) i = []
  | 0, _ => rfl
  | n + 1, i => by
    show xlv ad (xJ :: List.replicate n xJ) i = []
    unfold xlv
    exact xlv_J n (i + 1)
theorem xarg_lv (ad : xA) : ∀ (as : List xV) (n i : Nat), ∀ q ∈ xlv ad (xarg n as) i, q ∈ lv_args i (as.map (xenc ad))
  | [], n, i => by
    intro q hq
    rw [show xarg n [] = List.replicate n xJ from rfl, xlv_J] at hq
    cases hq
  | a :: r, n, i => by
    intro q hq
    obtain ⟨k, w⟩ := a
    have one : ∀ (v : Value), xenc ad (k, w) = v → ¬ v.category = 2 → q ∈ xlv ad ((k, w) :: xarg (n - 1) r) i → q ∈ lv_args i ((xenc ad (k, w)) :: r.map (xenc ad)) := fun v hv hc hq => by
      unfold lv_args
      rw [hv, if_neg hc]
      unfold xlv at hq
      split at hq
      · exact List.mem_cons_of_mem _ (xarg_lv ad r (n - 1) (i + 1) q hq)
      · rcases List.mem_cons.mp hq with e | hq
        · exact List.mem_cons.mpr (Or.inl (by rw [e, hv]))
        · exact List.mem_cons_of_mem _ (xarg_lv ad r (n - 1) (i + 1) q hq)
    cases w with
    | long x =>
      have hq2 : q ∈ xlv ad ((k, Value.long x) :: xJ :: xarg (n - 2) r) i := hq
      show q ∈ lv_args i (Value.long x :: r.map (xenc ad))
      unfold lv_args
      rw [if_pos (show (Value.long x).category = 2 from rfl)]
      unfold xlv at hq2
      rcases List.mem_cons.mp hq2 with e | hq3
      · exact List.mem_cons.mpr (Or.inl e)
      · refine List.mem_cons_of_mem _ (xarg_lv ad r (n - 2) (i + 2) q ?_)
        unfold xlv at hq3
        exact hq3
    | double x =>
      have hq2 : q ∈ xlv ad ((k, Value.double x) :: xJ :: xarg (n - 2) r) i := hq
      show q ∈ lv_args i (Value.double x :: r.map (xenc ad))
      unfold lv_args
      rw [if_pos (show (Value.double x).category = 2 from rfl)]
      unfold xlv at hq2
      rcases List.mem_cons.mp hq2 with e | hq3
      · exact List.mem_cons.mpr (Or.inl e)
      · refine List.mem_cons_of_mem _ (xarg_lv ad r (n - 2) (i + 2) q ?_)
        unfold xlv at hq3
        exact hq3
    | ref o => exact one _ rfl (xenc_cat rfl) hq
    | int x => exact one _ rfl (xenc_cat (v := (k, Value.int x)) (ad := ad) rfl) hq
    | float x => exact one _ rfl (xenc_cat (v := (k, Value.float x)) (ad := ad) rfl) hq
    | null => exact one _ rfl (xenc_cat (v := (k, Value.null)) (ad := ad) rfl) hq
    | retAddr x => exact one _ rfl (xenc_cat (v := (k, Value.retAddr x)) (ad := ad) rfl) hq
theorem xarg_sl (ad : xA) : ∀ (as : List xV), (lg_sl (as.map (xenc ad))).length = xaw as
  | [] => rfl
  | a :: r => by
    have ih := xarg_sl ad r
    show ((if (xenc ad a).category = 2 then [Slot.val (xenc ad a), Slot.second] else [Slot.val (xenc ad a)]) ++ lg_sl (r.map (xenc ad))).length = _
    rw [List.length_append, ih]
    show _ = (match xwide a with
      | true => 2
      | false => 1) + xaw r
    cases hw : xwide a with
    | false => rw [if_neg (xenc_cat hw)]; rfl
    | true =>
      obtain ⟨k, w⟩ := a
      cases w with
      | long x => rw [if_pos (show (xenc ad (k, Value.long x)).category = 2 from rfl)]; rfl
      | double x => rw [if_pos (show (xenc ad (k, Value.double x)).category = 2 from rfl)]; rfl
      | _ => cases hw
theorem xarg_all {P : xV → Prop} (hJ : P xJ) : ∀ (as : List xV) (n : Nat), (∀ v ∈ as, P v) → ∀ v ∈ xarg n as, P v
  | [], n, _ => fun v hv => by
    rw [show xarg n [] = List.replicate n xJ from rfl] at hv
    rw [List.eq_of_mem_replicate hv]
    exact hJ
  | a :: r, n, h => fun v hv => by
    have hr : ∀ v ∈ r, P v := fun v hv => h v (List.mem_cons_of_mem _ hv)
    have ha : P a := h a List.mem_cons_self
    obtain ⟨k, w⟩ := a
    have one : v ∈ (k, w) :: xarg (n - 1) r → P v := fun hv => by
      rcases List.mem_cons.mp hv with e | hv
      · rw [e]; exact ha
      · exact xarg_all hJ r _ hr v hv
    have two : v ∈ (k, w) :: xJ :: xarg (n - 2) r → P v := fun hv => by
      rcases List.mem_cons.mp hv with e | hv
      · rw [e]; exact ha
      · rcases List.mem_cons.mp hv with e | hv
        · rw [e]; exact hJ
        · exact xarg_all hJ r _ hr v hv
    cases w with
    | long x => exact two hv
    | double x => exact two hv
    | _ => exact one hv
theorem xarg_lr (ad : xA) {as : List xV} {n : Nat} (h : xaw as ≤ n) : xlr ad n ((lg_sl (as.map (xenc ad)) ++ List.replicate (n - (lg_sl (as.map (xenc ad))).length) Slot.unset).toArray) (xarg n as) :=
  ⟨xarg_len as n h, lv_less (lv_entry _ (by rw [xarg_sl]; exact h)) (xarg_lv ad as n 0)⟩
/-- what a method is called with -/
def xPc (A : Nat → Prop) (ad : xA) (M : xM) (as : List xV) : Array Value → State → Prop := fun a U =>
  a = (as.map (xenc ad)).toArray ∧ xWd U A ad M U.heap ∧ xAp A ad M ∧ xWT M ∧ xBt M ∧ xK M ∧ xCs A ad U ∧ xCe A U ∧ ∀ q, U.heap.size ≤ q → A q
theorem xPc_blind {A : Nat → Prop} {ad : xA} {M : xM} {as : List xV} : FrameBlind (xPc A ad M as) := fun a U g mk h => by
  obtain ⟨h1, h2, h3, h4, h5, h6, h7, h8, h9⟩ := h
  have hW : U.WarmedH (U.calling g mk a).vm := State.WarmedH.refl U
  exact ⟨h1, h2.moved hW.alike, h3, h4, h5, h6, h7.to hW (fun _ _ _ => rfl), h8.to hW (fun _ _ _ => rfl), h9⟩
theorem xPc_of {A : Nat → Prop} {ad : xA} {M : xM} {as : List xV} {s : State} {H : Heap} {locs : List Loc} (I : xInv s A ad M s.heap H locs) (Z : xCs A ad s) (Ze : xCe A s) (hAA : ∀ q, s.heap.size ≤ q → A q) {a : Array Value} (ha : a = (as.map (xenc ad)).toArray) : ∀ U : State, U.heap = H → s.WarmedH U.vm → xPc A ad M as a U := fun U hU hW => by
  obtain ⟨h1, h2, h3, h4, h5, h6⟩ := I
  have hk : ∀ a : Nat, a < s.heap.size → ¬ A a → U.heap[a]? = s.heap[a]? := fun a h7 h8 => by rw [hU]; exact h6.2.1 a h7 h8
  exact ⟨ha, by rw [hU]; exact h1.moved hW.alike, h2, h3, h4, h5, Z.to hW hk, Ze.to hW hk, fun q hq => hAA q (Nat.le_trans h6.1 (by rw [← hU]; exact hq))⟩
/-- the room of a method -/
def xrm (y : Nat) (M : xM) (r : (Option xV ⊕ Nat) × xM) : Room := { frames := 10 + xdp y, locals := 240 + 40 * xdp y, cells := gn r.2 100 0 0 - gn M 100 0 0, slots := gn r.2 100 0 1 - gn M 100 0 1 }
/-- what a method owes: it does what the pure machine says -/
def xMt (l : Launch) (y : Nat) (A : Nat → Prop) (ad : xA) (M : xM) (rg : Option (List (Nat × Nat))) (as : List xV) (r : (Option xV ⊕ Nat) × xM) : Prop :=
  vx_Met l (xY y) (xwM y) (xrm y M r) (xPc A ad M as) (xQc A ad M rg r) (xXC A ad M r) (gn r.2 100 0 0 - gn M 100 0 0) (gn r.2 100 0 1 - gn M 100 0 1) A
theorem xMt_ret {l : Launch} {y : Nat} {A : Nat → Prop} {ad : xA} {M : xM} {rg : Option (List (Nat × Nat))} {as : List xV} {v : Option xV} {M' : xM} (h : xMt l y A ad M rg as (.inl v, M')) :
    Met l (xY y) (xwM y) (xrm y M (.inl v, M')) (xPc A ad M as) (xQc A ad M rg (.inl v, M')) (gn M' 100 0 0 - gn M 100 0 0) (gn M' 100 0 1 - gn M 100 0 1) A := by
  intro p e h1 h2 h3 s m args below h4 h5 h6 h7
  obtain ⟨n, o, g1, g2, g3, g4⟩ := h p e h1 h2 h3 s m args below h4 h5 h6 h7
  refine ⟨n, o, g1, g2, g3, ?_⟩
  rcases g4 with g4 | ⟨q, -, E, ce, L, ⟨k, ad', hk, -⟩, -⟩
  · exact g4
  · cases hk
end
section
/-! CALLS: what the instruction of a call does. -/
theorem xtake_spec : ∀ (n : Nat) {st acc as st' : List xV}, xtake n st acc = some (as, st') → ∃ bs, st = bs ++ st' ∧ as = bs.reverse ++ acc ∧ bs.length = n
  | 0, st, acc, as, st', h => by
    unfold xtake at h
    cases h
    exact ⟨[], rfl, rfl, rfl⟩
  | n + 1, [], acc, as, st', h => by
    unfold xtake at h
    cases h
  | n + 1, v :: st, acc, as, st', h => by
    unfold xtake at h
    obtain ⟨bs, h1, h2, h3⟩ := xtake_spec n h
    exact ⟨v :: bs, by rw [h1]; rfl, by rw [h2]; simp, by simp [h3]⟩
theorem xtake_ok {n : Nat} {st as st' : List xV} (h : xtake n st [] = some (as, st')) : st = as.reverse ++ st' ∧ as.length = n := by
  obtain ⟨bs, h1, h2, h3⟩ := xtake_spec n h
  rw [List.append_nil] at h2
  exact ⟨by rw [h1, h2, List.reverse_reverse], by rw [h2, List.length_reverse, h3]⟩
theorem vcat_le (v : Value) : v.category ≤ 2 := by cases v <;> first | exact Nat.le_refl 2 | exact Nat.le_succ 1
theorem vcat_sum : ∀ (l : List Value), (l.map fun v => v.category).sum ≤ 2 * l.length
  | [] => Nat.le_refl _
  | v :: r => by
    have h1 := vcat_le v
    have h2 := vcat_sum r
    simp only [List.map_cons, List.sum_cons, List.length_cons]
    omega
theorem vcat_1 {v : Value} (h : ¬ v.category = 2) : v.category = 1 := by cases v <;> first | rfl | exact absurd rfl h
theorem xcat_sum (ad : xA) : ∀ (st : List xV), ((st.map (xenc ad)).map fun v => v.category).sum ≤ xaw st
  | [] => Nat.le_refl _
  | v :: r => by
    have ih := xcat_sum ad r
    have e : xaw (v :: r) = (match xwide v with
      | true => 2
      | false => 1) + xaw r := rfl
    rw [e]
    simp only [List.map_cons, List.sum_cons]
    cases hw : xwide v with
    | true =>
      have := vcat_le (xenc ad v)
      simp only
      omega
    | false =>
      have := vcat_1 (xenc_cat (ad := ad) hw)
      simp only
      omega
theorem xroom {m : MethodId} {pc : Nat} {la : Array Slot} {S : List Value} {ad : xA} {st : List xV} (h : xaw st ≤ 8) : 2 * (F0 m pc la S).monitorRoom + ((st.map (xenc ad)).map fun v => v.category).sum ≤ 8 := by
  have h2 := xcat_sum ad st
  show 2 * 0 + _ ≤ 8
  omega
section VL
variable {p : Program} {l : Launch} {e : Env} {R : Room} {s : State} {m : MethodId} {args : Array Value} {below : List Frame} {meth : Method} {c : Code} {H : Heap} {locs : List Loc} {cells slots : Nat}
theorem vx_of_va {mc ms : Nat} {g : JFrame} {rest : List Value} {Qa : State → Outcome → State → Prop} {XC : String → State → State → Prop} {free : Addr → Prop} (h : va_Run p l e R s m args below meth c H locs cells slots mc ms g rest Qa free) : vx_Run p l e R s m args below meth c H locs cells slots mc ms g rest Qa XC free := fun T hT X => Or.inl (h T hT X)
end VL
set_option maxRecDepth 100000 in
theorem xcalS : (xTb[1113]? = some (Cond.methodLink (xcn 8) 549 ⟨"java/lang/AbstractStringBuilder", "length", "()I"⟩) ∧ xTb[1115]? = some (Cond.sameMethod "java/lang/AbstractStringBuilder" "java/lang/AbstractStringBuilder" "length" "()I")) ∧ (xTb[1114]? = some (Cond.instanceMethod ⟨"java/lang/AbstractStringBuilder", "length", "()I"⟩) ∧ xTb[1116]? = some (Cond.selects "java/lang/StringBuilder" ⟨"java/lang/AbstractStringBuilder", "length", "()I"⟩ (xY 68)) ∧ xTb[1117]? = some (Cond.instanceMethod (xY 68))) := by decide +kernel
set_option maxRecDepth 100000 in
theorem xcalA : (xTb[938]? = some (Cond.methodLink (xcn 16) 43 ⟨"java/lang/AbstractStringBuilder", "append", "(Ljava/lang/String;)Ljava/lang/AbstractStringBuilder;"⟩) ∧ xTb[940]? = some (Cond.sameMethod "java/lang/AbstractStringBuilder" "java/lang/AbstractStringBuilder" "append" "(Ljava/lang/String;)Ljava/lang/AbstractStringBuilder;")) ∧ (xTb[939]? = some (Cond.instanceMethod ⟨"java/lang/AbstractStringBuilder", "append", "(Ljava/lang/String;)Ljava/lang/AbstractStringBuilder;"⟩) ∧ xTb[941]? = some (Cond.selects "java/lang/StringBuilder" ⟨"java/lang/AbstractStringBuilder", "append", "(Ljava/lang/String;)Ljava/lang/AbstractStringBuilder;"⟩ (xY 55)) ∧ xTb[942]? = some (Cond.instanceMethod (xY 55))) := by decide +kernel
theorem xcal_57 : xcal.all (fun q => match q.2.1 with
  | 5 => false
  | 7 => decide (q = ((8, 549), 7, 68, 50)) || decide (q = ((16, 43), 7, 55, 50))
  | _ => true) = true := by decide +kernel
theorem xcal_6 : xcal.all (fun q => match q.2.1 with
  | 6 => Nat.beq q.2.2.2 50
  | _ => true) = true := by decide +kernel
theorem xSB_new : xTb[918]? = some (Cond.instantiable "java/lang/StringBuilder" 4) := by decide +kernel
theorem xcal_f {a : (Nat × Nat) × Nat × Nat × Nat} {k : Nat} (h : xcal.contains a = true) (hk : a.2.1 = k) : a ∈ xcal.filter (fun q => Nat.beq q.2.1 k) := List.mem_filter.mpr ⟨List.contains_iff_mem.mp h, by rw [hk]; exact Nat.beq_refl k⟩
theorem xwM_n {y : Nat} (h : (xhh y).isEmpty = true) : xwM y = Cond.code (xY y) (xCode y) (xml y) (xRet y) :: xwA := by unfold xwM; rw [xwH_n h]
theorem xwM_h {y : Nat} (h : (xhh y).isEmpty = false) : xwM y = Cond.codeWith (xY y) (xCode y) (xml y) (xRet y) (xhh y) :: xwA := by unfold xwM; rw [xwH_h h]
theorem xwA_l4 {a b c d : Cond} {y : Nat} (hy : y < 196) (ha : a ∈ xwA) (hb : b ∈ xwA) (hc : c ∈ xwA) (hd : d ∈ xwA) : GoodIn xwA ([a, b, c, d] ++ xwM y) := xwA_in fun w hw => by
  simp only [List.cons_append, List.nil_append, List.mem_cons] at hw
  rcases hw with rfl | rfl | rfl | rfl | h
  · exact ha
  · exact hb
  · exact hc
  · exact hd
  · exact xwM_mem hy w h
theorem xwA_l3 {a b c : Cond} {y : Nat} (hy : y < 196) (ha : a ∈ xwA) (hb : b ∈ xwA) (hc : c ∈ xwA) : GoodIn xwA ([a, b, c] ++ xwM y) := xwA_in fun w hw => by
  simp only [List.cons_append, List.nil_append, List.mem_cons] at hw
  rcases hw with rfl | rfl | rfl | h
  · exact ha
  · exact hb
  · exact hc
  · exact xwM_mem hy w h
theorem xwA_l5 {a b c d f : Cond} {y : Nat} (hy : y < 196) (ha : a ∈ xwA) (hb : b ∈ xwA) (hc : c ∈ xwA) (hd : d ∈ xwA) (hf : f ∈ xwA) : GoodIn xwA ([a, b, c, d, f] ++ xwM y) := xwA_in fun w hw => by
  simp only [List.cons_append, List.nil_append, List.mem_cons] at hw
  rcases hw with rfl | rfl | rfl | rfl | rfl | h
  · exact ha
  · exact hb
  · exact hc
  · exact hd
  · exact hf
  · exact xwM_mem hy w h
theorem xwA_l6 {a b c d f g : Cond} {y : Nat} (hy : y < 196) (ha : a ∈ xwA) (hb : b ∈ xwA) (hc : c ∈ xwA) (hd : d ∈ xwA) (hf : f ∈ xwA) (hg : g ∈ xwA) : GoodIn xwA ([a, b, c, d, f, g] ++ xwM y) := xwA_in fun w hw => by
  simp only [List.cons_append, List.nil_append, List.mem_cons] at hw
  rcases hw with rfl | rfl | rfl | rfl | rfl | rfl | h
  · exact ha
  · exact hb
  · exact hc
  · exact hd
  · exact hf
  · exact hg
  · exact xwM_mem hy w h
theorem xini_y {y : Nat} (hy : y < 196) : Cond.initialized (xY y).cls ∈ xwA := xini_of (xmfact_n (Nat.lt_succ_of_lt hy)).2.2.2.2
/-- the receiver -/
theorem xrcv_ok {rk : Nat} {as : List xV} (h0 : 0 < rk) (h : xrcv rk as = true) : ∃ o as', as = (rk, .ref o) :: as' := by
  obtain ⟨r, rfl⟩ : ∃ r, rk = r + 1 := ⟨rk - 1, by omega⟩
  unfold xrcv at h
  split at h
  · omega
  · rename_i k o as' e
    cases e
    rw [Nat.eq_of_beq_eq_true h]
    exact ⟨o, as', rfl⟩
  · cases h
theorem xrev {ad : xA} (as st : List xV) : (as.reverse ++ st).map (xenc ad) = (as.map (xenc ad)).reverse ++ st.map (xenc ad) := by rw [List.map_append, List.map_reverse]
theorem xrev1 {ad : xA} (k o : Nat) (as st : List xV) (hk : k ≠ 51) : (((k, .ref o) :: as).reverse ++ st).map (xenc ad) = (as.map (xenc ad)).reverse ++ .ref (ad k o) :: st.map (xenc ad) := by
  rw [xrev, List.map_cons, xenc_ref hk, List.reverse_cons, List.append_assoc]
  rfl
theorem xrets_no {r : (Option xV ⊕ Nat) × xM} (h : ∃ v, r.1 = .inl v) : ∃ v M', r = (.inl v, M') := by
  obtain ⟨v, hv⟩ := h
  obtain ⟨a, b⟩ := r
  exact ⟨v, b, by rw [← hv]⟩
set_option maxHeartbeats 2000000 in
theorem xrunV {p : Program} {l : Launch} {e : Env} {R : Room} {s : State} {m : MethodId} {args : Array Value} {below : List Frame} {meth : Method} {c : Code} {H : Heap} {locs : List Loc} {cells slots : Nat} {A : Nat → Prop} {ad : xA}
    {y y2 n t kx rk pc ix : Nat} {hs : List Nat} {C : List xE} {M : xM} {as st : List xV} {r : (Option xV ⊕ Nat) × xM} {la : Array Slot} {rg rg2 : Option (List (Nat × Nat))}
    (F : xFx y p l s m args meth c) (I : xInv s A ad M s.heap H locs) (Z : xCs A ad s) (Ze : xCe A s) (hAA : ∀ q, s.heap.size ≤ q → A q) (va : ∀ v ∈ as, xvok rg M v) (hM : xMt l y2 A ad M rg2 as r)
    (h9 : Nat.beq y2 9999 = false) (hok : xokCV y C pc ix (y2 :: n :: t :: kx :: rk :: hs) = true) (has : as.length = n) (hrk : xrcv rk as = true) (hrt : xrets0 hs = true → ∃ v, r.1 = .inl v) (hst : xaw st ≤ 8) (hla : la.size = xml y) (hd : decode (xCode y) pc = .ok (.invokevirtual ix, 3))
    (hf : cells + (gn r.2 100 0 0 - gn M 100 0 0) ≤ R.cells ∧ slots + (gn r.2 100 0 1 - gn M 100 0 1) ≤ R.slots) (hRf : 10 + xdp y ≤ R.frames) (hRl : 240 + 40 * xdp y ≤ R.locals) :
    vx_Run p l e R s m args below meth c H locs cells slots (gn r.2 100 0 0 - gn M 100 0 0) (gn r.2 100 0 1 - gn M 100 0 1) (F0 m pc la ((as.reverse ++ st).map (xenc ad))) (st.map (xenc ad)) (xQc A ad M rg2 r (as.map (xenc ad)).toArray) (xXC A ad M r) A := by
  obtain ⟨hx, hb, hml, hown, hts, hlk, hret, hnm, htr⟩ := F
  unfold xokCV at hok
  simp only [h9] at hok
  have hY := and_l (and_l hok)
  have hy2 : y2 < 196 := Nat.le_of_ble_eq_true (and_l (and_l hY))
  have hdp : xdp y2 < xdp y := Nat.le_of_ble_eq_true (and_r (and_l hY))
  have hok := and_r hok
  have hn0 : 0 < n := Nat.le_of_ble_eq_true (and_l (and_l (and_l hok)))
  have hk0 : 0 < rk := Nat.le_of_ble_eq_true (and_r (and_l (and_l hok)))
  have hk51 : rk < 51 := Nat.le_of_ble_eq_true (and_l (and_r (and_l hok)))
  have hfd : xfd rk ≠ [] := fun e9 => by
    have h1 := and_r (and_r (and_l hok))
    rw [e9] at h1
    cases h1
  have hok := and_r hok
  have hpn := xpn_ok (and_l (and_l hok))
  have hem := and_r (and_l hok)
  have hok := and_r hok
  obtain ⟨o, as', rfl⟩ := xrcv_ok hk0 hrk
  have hlen : as'.length = n - 1 := by rw [← has]; simp
  have P := xPc_of I Z Ze hAA (a := (((rk, Value.ref o) :: as').map (xenc ad)).toArray) rfl
  have hv : o < xc M rk := by
    rcases va _ List.mem_cons_self with z | z
    · omega
    · exact z.2.1
  obtain ⟨cell, hc1, hc2, -, -, hc5, -⟩ := (I.1 rk o (by omega) hv).1 hfd
  have e1 : ((rk, Value.ref o) :: as').map (xenc ad) = .ref (ad rk o) :: as'.map (xenc ad) := by rw [List.map_cons, xenc_ref (by omega)]
  have e2 := xrev1 (ad := ad) rk o as' st (by omega)
  rw [e2]
  rw [e1] at P ⊢
  have hp : PreV s H (xcl rk) (ad rk o) (xPc A ad M ((rk, .ref o) :: as')) (as'.map (xenc ad)) := ⟨xPc_blind, ⟨cell, hc1, hc2, hc5⟩, P⟩
  have hlm : (as'.map (xenc ad)).length = n - 1 := by rw [List.length_map]; exact hlen
  obtain ⟨-, hmh, hvh, hml2, hoc2⟩ := xmfact_n (Nat.lt_succ_of_lt hy2)
  have hR9 : (xrm y2 M r).frames + 1 ≤ R.frames ∧ 8 + (xml y2 + 11) + (xrm y2 M r).locals ≤ R.locals := by
    show 10 + xdp y2 + 1 ≤ _ ∧ 8 + (xml y2 + 11) + (240 + 40 * xdp y2) ≤ _
    omega
  rcases (Bool.or_eq_true _ _).mp hok with h | h
  · have hq := xcal_f h rfl
    exact vx_runV (C := xcl rk) (bytes := xCode y2) (maxL := xml y2) (ret := xRet y2) (ws := xwM y2) (n := n - 1) ⟨hx, hb, hml, hown, hts⟩ hM ⟨callB_of (n - 1) hts (xwM_in hy2) (xwM_n hem) rfl rfl (hts _ (xini_y hy2)) (hts _ (xcalL0 _ hq)) ⟨hmh, hvh, hpn⟩ hR9, hts _ (xcalI0 _ hq), hts _ (xcalV0 _ hq)⟩ hp rfl hlm hla rfl (xroom hst) hd hf
  · obtain ⟨v, M', rfl⟩ := xrets_no (hrt (and_l h))
    have hM := xMt_ret hM
    rcases (Bool.or_eq_true _ _).mp (and_r h) with h | h
    · have hq := List.all_eq_true.mp xcal_57 _ (List.contains_iff_mem.mp (and_l h))
      cases hq
    · have hq := List.all_eq_true.mp xcal_57 _ (List.contains_iff_mem.mp (and_l h))
      have hrk9 := Nat.eq_of_beq_eq_true (and_r h)
      rcases (Bool.or_eq_true _ _).mp hq with hq | hq
      · have hq := of_decide_eq_true hq
        simp only [Prod.mk.injEq] at hq
        obtain ⟨⟨hyo, rfl⟩, -, rfl, -⟩ := hq
        subst hrk9
        rw [hyo] at hown
        refine vx_of_va (va_runU (C := "java/lang/StringBuilder") (owner := "java/lang/AbstractStringBuilder") (x := ⟨"java/lang/AbstractStringBuilder", "length", "()I"⟩) (bytes := xCode 68) (maxL := xml 68) (ret := xRet 68) (n := n - 1) ⟨hx, hb, hml, hown, hts⟩ hM (va_cwO (n - 1) hts ?_ (xwM_n hem) rfl rfl (xcode_ok 67 (by decide +kernel)) ⟨by decide, by decide, hpn⟩ hR9) hp rfl hlm hla rfl (xroom hst) hd hf)
        unfold va_wsO
        exact xwA_l6 hy2 (xwA_mem xcalS.1.1 rfl) (xwA_mem xcalS.1.2 rfl) (xwA_mem xcalS.2.1 rfl) (xwA_mem xcalS.2.2.1 rfl) (xwA_mem xcalS.2.2.2 rfl) (xini_y hy2)
      · have hq := of_decide_eq_true hq
        simp only [Prod.mk.injEq] at hq
        obtain ⟨⟨hyo, rfl⟩, -, rfl, -⟩ := hq
        subst hrk9
        rw [hyo] at hown
        refine vx_of_va (va_runU (C := "java/lang/StringBuilder") (owner := "java/lang/AbstractStringBuilder") (x := ⟨"java/lang/AbstractStringBuilder", "append", "(Ljava/lang/String;)Ljava/lang/AbstractStringBuilder;"⟩) (bytes := xCode 55) (maxL := xml 55) (ret := xRet 55) (n := n - 1) ⟨hx, hb, hml, hown, hts⟩ hM (va_cwO (n - 1) hts ?_ (xwM_n hem) rfl rfl (xcode_ok 53 (by decide +kernel)) ⟨by decide, by decide, hpn⟩ hR9) hp rfl hlm hla rfl (xroom hst) hd hf)
        unfold va_wsO
        exact xwA_l6 hy2 (xwA_mem xcalA.1.1 rfl) (xwA_mem xcalA.1.2 rfl) (xwA_mem xcalA.2.1 rfl) (xwA_mem xcalA.2.2.1 rfl) (xwA_mem xcalA.2.2.2 rfl) (xini_y hy2)
set_option maxHeartbeats 2000000 in
theorem xrunS {p : Program} {l : Launch} {e : Env} {R : Room} {s : State} {m : MethodId} {args : Array Value} {below : List Frame} {meth : Method} {c : Code} {H : Heap} {locs : List Loc} {cells slots : Nat} {A : Nat → Prop} {ad : xA}
    {y y2 n t kx rk pc ix : Nat} {hs : List Nat} {C : List xE} {M : xM} {as st : List xV} {r : (Option xV ⊕ Nat) × xM} {la : Array Slot} {rg2 : Option (List (Nat × Nat))}
    (F : xFx y p l s m args meth c) (I : xInv s A ad M s.heap H locs) (Z : xCs A ad s) (Ze : xCe A s) (hAA : ∀ q, s.heap.size ≤ q → A q) (hM : xMt l y2 A ad M rg2 as r)
    (h9 : Nat.beq y2 9999 = false) (hok : xokCS y C pc ix (y2 :: n :: t :: kx :: rk :: hs) = true) (has : as.length = n) (hrt : xrets0 hs = true → ∃ v, r.1 = .inl v) (hst : xaw st ≤ 8) (hla : la.size = xml y) (hd : decode (xCode y) pc = .ok (.invokestatic ix, 3))
    (hf : cells + (gn r.2 100 0 0 - gn M 100 0 0) ≤ R.cells ∧ slots + (gn r.2 100 0 1 - gn M 100 0 1) ≤ R.slots) (hRf : 10 + xdp y ≤ R.frames) (hRl : 240 + 40 * xdp y ≤ R.locals) :
    vx_Run p l e R s m args below meth c H locs cells slots (gn r.2 100 0 0 - gn M 100 0 0) (gn r.2 100 0 1 - gn M 100 0 1) (F0 m pc la ((as.reverse ++ st).map (xenc ad))) (st.map (xenc ad)) (xQc A ad M rg2 r (as.map (xenc ad)).toArray) (xXC A ad M r) A := by
  obtain ⟨hx, hb, hml, hown, hts, hlk, hret, hnm, htr⟩ := F
  unfold xokCS at hok
  simp only [h9] at hok
  have hY := and_l (and_l hok)
  have hy2 : y2 < 196 := Nat.le_of_ble_eq_true (and_l (and_l hY))
  have hdp : xdp y2 < xdp y := Nat.le_of_ble_eq_true (and_r (and_l hY))
  have hok := and_r hok
  have hpn := xpn_ok (and_l hok)
  have hok := and_r hok
  have P := xPc_of I Z Ze hAA (a := (as.map (xenc ad)).toArray) rfl
  rw [xrev]
  have hp : PreS s H (xPc A ad M as) (as.map (xenc ad)) := ⟨xPc_blind, P⟩
  have hlm : (as.map (xenc ad)).length = n := by rw [List.length_map]; exact has
  obtain ⟨-, hmh, hvh, hml2, hoc2⟩ := xmfact_n (Nat.lt_succ_of_lt hy2)
  have hR9 : (xrm y2 M r).frames + 1 ≤ R.frames ∧ 8 + (xml y2 + 11) + (xrm y2 M r).locals ≤ R.locals := by
    show 10 + xdp y2 + 1 ≤ _ ∧ 8 + (xml y2 + 11) + (240 + 40 * xdp y2) ≤ _
    omega
  rcases (Bool.or_eq_true _ _).mp hok with h | h
  · rcases (Bool.or_eq_true _ _).mp h with h | h
    · have hq := xcal_f (and_l h) rfl
      refine vx_runS (bytes := xCode y2) (maxL := xml y2) (ret := xRet y2) (ws := xwM y2) (n := n) ⟨hx, hb, hml, hown, hts⟩ hM (va_cwS n hts ?_ (xwM_n (and_r h)) rfl rfl ⟨hmh, hvh, hpn⟩ hR9) hp rfl hlm hla rfl (xroom hst) hd hf
      unfold va_wsS
      exact xwA_l3 hy2 (xcalL1 _ hq) (xcalS1 _ hq) (xini_y hy2)
    · have hq := xcal_f (and_l h) rfl
      have hne : (xhh y2).isEmpty = false := by simpa using and_r h
      refine vx_runSX (hh := xhh y2) (bytes := xCode y2) (maxL := xml y2) (ret := xRet y2) (ws := xwM y2) (n := n) ⟨hx, hb, hml, hown, hts⟩ hM (vx_cwSW n hts ?_ (xwM_h hne) rfl rfl ⟨hmh, hvh, hpn⟩ hR9) hp rfl hlm hla rfl (xroom hst) hd hf
      unfold va_wsS
      exact xwA_l3 hy2 (xcalL8 _ hq) (xcalS8 _ hq) (xini_y hy2)
  · obtain ⟨v, M', rfl⟩ := xrets_no (hrt (and_l h))
    have hM := xMt_ret hM
    have hq := xcal_f (and_l (and_r h)) rfl
    have hl9 : va_Nw (.methodLinkNest (xcn (xoc y)) ix (xY y2) "ProjectPlanner") s := Z.2.2.2.2.2.2.1 ((xoc y, ix), 2, y2, 0) hq
    have cn := va_cnB (Ts := xwA) (ws' := xwA) (mc := gn M' 100 0 0 - gn M 100 0 0) (ms := gn M' 100 0 1 - gn M 100 0 1) (own := xcn (xoc y)) (host := "ProjectPlanner") (index := ix) (y := xY y2) (s := s) (args := args) (R := R) (bytes := xCode y2) (maxL := xml y2) (ret := xRet y2) (ws := xwM y2) (rm := xrm y2 M (.inl v, M')) n hts (xwM_in hy2) (xwM_n (and_r (and_r h))) rfl rfl hl9 (hts _ (xini_y hy2)) ⟨hmh, hvh, hpn⟩ hR9
    exact vx_of_va (va_runSN (bytes := xCode y2) (maxL := xml y2) (ret := xRet y2) (ws := xwM y2) (n := n) (host := "ProjectPlanner") ⟨hx, hb, hml, hown, hts⟩ hM ⟨cn, hts _ (xcalS2 _ hq), trivial⟩ hp rfl hlm hla rfl (xroom hst) hd hf)
set_option maxHeartbeats 2000000 in
theorem xrunI {p : Program} {l : Launch} {e : Env} {R : Room} {s : State} {m : MethodId} {args : Array Value} {below : List Frame} {meth : Method} {c : Code} {H : Heap} {locs : List Loc} {cells slots : Nat} {A : Nat → Prop} {ad : xA}
    {y y2 n t kx rk pc ix : Nat} {hs : List Nat} {C : List xE} {M : xM} {as st : List xV} {r : (Option xV ⊕ Nat) × xM} {la : Array Slot} {rg rg2 : Option (List (Nat × Nat))}
    (F : xFx y p l s m args meth c) (I : xInv s A ad M s.heap H locs) (Z : xCs A ad s) (Ze : xCe A s) (hAA : ∀ q, s.heap.size ≤ q → A q) (va : ∀ v ∈ as, xvok rg M v) (hM : xMt l y2 A ad M rg2 as r)
    (h9 : Nat.beq y2 9999 = false) (hok : xokCI y C pc ix (y2 :: n :: t :: kx :: rk :: hs) = true) (has : as.length = n) (hrk : xrcv rk as = true) (hrt : xrets0 hs = true → ∃ v, r.1 = .inl v) (hst : xaw st ≤ 8) (hla : la.size = xml y) (hd : decode (xCode y) pc = .ok (.invokespecial ix, 3))
    (hf : cells + (gn r.2 100 0 0 - gn M 100 0 0) ≤ R.cells ∧ slots + (gn r.2 100 0 1 - gn M 100 0 1) ≤ R.slots) (hRf : 10 + xdp y ≤ R.frames) (hRl : 240 + 40 * xdp y ≤ R.locals) :
    vx_Run p l e R s m args below meth c H locs cells slots (gn r.2 100 0 0 - gn M 100 0 0) (gn r.2 100 0 1 - gn M 100 0 1) (F0 m pc la ((as.reverse ++ st).map (xenc ad))) (st.map (xenc ad)) (xQc A ad M rg2 r (as.map (xenc ad)).toArray) (xXC A ad M r) A := by
  obtain ⟨hx, hb, hml, hown, hts, hlk, hret, hnm, htr⟩ := F
  unfold xokCI at hok
  simp only [h9] at hok
  have hY := and_l (and_l hok)
  have hy2 : y2 < 196 := Nat.le_of_ble_eq_true (and_l (and_l hY))
  have hdp : xdp y2 < xdp y := Nat.le_of_ble_eq_true (and_r (and_l hY))
  have hok := and_r hok
  have hk0 : 0 < rk := Nat.le_of_ble_eq_true (and_r (and_l (and_l hok)))
  have hk51 : rk < 51 := Nat.le_of_ble_eq_true (and_r (and_l hok))
  have hok := and_r hok
  obtain ⟨v, M', rfl⟩ := xrets_no (hrt (and_l (and_l hok)))
  have hM := xMt_ret hM
  have hpn := xpn_ok (and_l (and_r (and_l hok)))
  have hem := and_r (and_r (and_l hok))
  have hok := and_r hok
  obtain ⟨o, as', rfl⟩ := xrcv_ok hk0 hrk
  have hlen : as'.length = n - 1 := by rw [← has]; simp
  have P := xPc_of I Z Ze hAA (a := (((rk, Value.ref o) :: as').map (xenc ad)).toArray) rfl
  have e1 : ((rk, Value.ref o) :: as').map (xenc ad) = .ref (ad rk o) :: as'.map (xenc ad) := by rw [List.map_cons, xenc_ref (by omega)]
  have e2 := xrev1 (ad := ad) rk o as' st (by omega)
  rw [e2]
  rw [e1] at P ⊢
  have hlm : (as'.map (xenc ad)).length = n - 1 := by rw [List.length_map]; exact hlen
  obtain ⟨-, hmh, hvh, hml2, hoc2⟩ := xmfact_n (Nat.lt_succ_of_lt hy2)
  have hR9 : (xrm y2 M (.inl v, M')).frames + 1 ≤ R.frames ∧ 8 + (xml y2 + 11) + (xrm y2 M (.inl v, M')).locals ≤ R.locals := by
    show 10 + xdp y2 + 1 ≤ _ ∧ 8 + (xml y2 + 11) + (240 + 40 * xdp y2) ≤ _
    omega
  rcases (Bool.or_eq_true _ _).mp hok with h | h
  · have hin : (xY y2).name = "<init>" := by simpa using and_l (and_l h)
    have hrn : xRet y2 = none := of_decide_eq_true (and_r (and_l h))
    obtain ⟨q, hq, hq2⟩ := List.any_eq_true.mp (and_r h)
    have hp : PreS s H (xPc A ad M ((rk, .ref o) :: as')) (.ref (ad rk o) :: as'.map (xenc ad)) := ⟨xPc_blind, P⟩
    obtain ⟨⟨oc, jx⟩, md, y3, rk3⟩ := q
    simp only at hq2
    obtain rfl := Nat.eq_of_beq_eq_true (and_l hq2)
    obtain rfl := Nat.eq_of_beq_eq_true (and_l (and_r hq2))
    obtain rfl := Nat.eq_of_beq_eq_true (and_l (and_r (and_r hq2)))
    have hw : xwM y3 = Cond.code (xY y3) (xCode y3) (xml y3) none :: xwA := by rw [xwM_n hem, hrn]
    rcases (Bool.or_eq_true _ _).mp (and_r (and_r (and_r hq2))) with h3 | h4
    · have hq := xcal_f (List.contains_iff_mem.mpr hq) (Nat.eq_of_beq_eq_true h3)
      have hl9 : va_Nw (.methodLinkNest (xcn (xoc y)) jx (xY y3) "ProjectPlanner") s := Z.2.2.2.2.2.2.2 ((xoc y, jx), md, y3, rk3) hq
      have cn := va_cnB (Ts := xwA) (ws' := xwA) (mc := gn M' 100 0 0 - gn M 100 0 0) (ms := gn M' 100 0 1 - gn M 100 0 1) (own := xcn (xoc y)) (host := "ProjectPlanner") (index := jx) (y := xY y3) (s := s) (args := args) (R := R) (bytes := xCode y3) (maxL := xml y3) (ret := none) (ws := xwM y3) (rm := xrm y3 M (.inl v, M')) (n - 1) hts (xwM_in hy2) hw rfl rfl hl9 (hts _ (xini_y hy2)) ⟨hmh, hvh, hpn⟩ hR9
      exact vx_of_va (va_runIN (bytes := xCode y3) (maxL := xml y3) (ws := xwM y3) (n := n - 1) (host := "ProjectPlanner") ⟨hx, hb, hml, hown, hts⟩ hM ⟨cn, hin, hts _ (xcalI3 _ hq)⟩ hp rfl hlm hla rfl (xroom hst) hd hf)
    · have hq := xcal_f (List.contains_iff_mem.mpr hq) (Nat.eq_of_beq_eq_true h4)
      exact vx_of_va (va_runI (bytes := xCode y3) (maxL := xml y3) (ws := xwM y3) (n := n - 1) ⟨hx, hb, hml, hown, hts⟩ hM ⟨callB_of (n - 1) hts (xwM_in hy2) hw rfl rfl (hts _ (xini_y hy2)) (hts _ (xcalL4 _ hq)) ⟨hmh, hvh, hpn⟩ hR9, hin, hts _ (xcalI4 _ hq)⟩ hp rfl hlm hla rfl (xroom hst) hd hf)
  · have hni : (xY y2).name ≠ "<init>" := by simpa using and_r h
    have hq := xcal_f (and_l (and_l h)) rfl
    have hfd : xfd rk ≠ [] := fun e9 => by
      have h1 := and_r (and_l h)
      rw [e9] at h1
      cases h1
    have hv : o < xc M rk := by
      rcases va _ List.mem_cons_self with z | z
      · omega
      · exact z.2.1
    obtain ⟨cell, hc1, hc2, -, -, hc5, -⟩ := (I.1 rk o (by omega) hv).1 hfd
    have hp : PreV s H (xcl rk) (ad rk o) (xPc A ad M ((rk, .ref o) :: as')) (as'.map (xenc ad)) := ⟨xPc_blind, ⟨cell, hc1, hc2, hc5⟩, P⟩
    have h50 : rk = 50 := Nat.eq_of_beq_eq_true (List.all_eq_true.mp xcal_6 _ (List.contains_iff_mem.mp (and_l (and_l h))))
    obtain ⟨cC, hat⟩ := classAt_of (hts _ (xwA_mem xSB_new rfl))
    have hat : ClassAt s (xcl rk) cC := by rw [h50]; exact hat
    refine vx_of_va (va_runSU (C := xcl rk) (cC := cC) (bytes := xCode y2) (maxL := xml y2) (ret := xRet y2) (ws := xwM y2) (n := n - 1) hat ⟨hx, hb, hml, hown, hts⟩ hM (va_cwSU (n - 1) hts ?_ (xwM_n hem) rfl rfl ⟨hni, hpn⟩ hR9) hp rfl hlm hla rfl (xroom hst) hd hf)
    unfold va_wsSU
    exact xwA_l5 hy2 (xcalL6 _ hq) (xcalM6 _ hq) (xcalP6 _ hq) (xcalI6 _ hq) (xini_y hy2)
end
section
/-! CALLS IN A FRAME: what the frame does behind them. -/
def xS0 (ad ad' : xA) (M : xM) : Prop := (∀ k o, k < 60 → k ≠ 51 → o < xc M k → ad' k o = ad k o) ∧ ad' 60 0 = ad 60 0
theorem xSm.s0 {ad ad' : xA} {M : xM} (h : xSm ad ad' M) : xS0 ad ad' M := ⟨h.1, h.2 0⟩
theorem xenc_s0 {ad ad' : xA} {M : xM} {rg : Option (List (Nat × Nat))} {v : xV} (h : xS0 ad ad' M) (hv : xvok rg M v) (h51 : v.1 ≠ 51) : xenc ad' v = xenc ad v := by
  obtain ⟨k, w⟩ := v
  cases w with
  | ref o =>
    rcases hv with e | ⟨h1, h2, -⟩
    · exact absurd e h51
    · rw [xenc_ref h51, xenc_ref h51, h.1 k o h1 h51 h2]
  | _ => rfl
theorem xstt_51 : xstt.all (fun S => match S.2.2.2 with
  | (51, .ref o) => Nat.beq o 0
  | _ => true) = true := by decide +kernel
theorem xCs.s0 {A : Nat → Prop} {ad ad' : xA} {M : xM} {s : State} (h : xS0 ad ad' M) (hK : xK M) (Z : xCs A ad s) : xCs A ad' s := by
  obtain ⟨z1, z2, z3⟩ := Z
  refine ⟨fun q hq => ?_, fun q hq => ?_, z3⟩
  · have hlt : q.2 < 13 := Nat.le_of_ble_eq_true (List.all_eq_true.mp xlds_lt q hq)
    rw [h.1 46 q.2 (by omega) (by omega) (Nat.lt_of_lt_of_le hlt hK.2.2.2.2.1)]
    exact z1 q hq
  · have e : xenc ad' q.2.2.2 = xenc ad q.2.2.2 := by
      obtain ⟨c, n, d, k, w⟩ := q
      cases w with
      | ref o =>
        by_cases h51 : k = 51
        · subst h51
          have h9 := List.all_eq_true.mp xstt_51 _ hq
          have h0 : o = 0 := Nat.eq_of_beq_eq_true h9
          subst h0
          show xenc ad' (51, .ref 0) = xenc ad (51, .ref 0)
          unfold xenc
          simp only
          rw [h.2]
        · have hlive := xstt_live hq rfl h51 hK
          have hk : k < 60 := by
            have h9 := List.all_eq_true.mp xstt_kinds _ hq
            exact Nat.le_of_ble_eq_true h9
          show xenc ad' (k, .ref o) = xenc ad (k, .ref o)
          rw [xenc_ref h51, xenc_ref h51, h.1 k o hk h51 hlive]
      | _ => rfl
    rw [e]
    exact z2 q hq
theorem xtkk_all : (List.range 60).all (fun k => (xfd k).all (fun d => Nat.blt d.2.1 60) && (match xae k with
  | some (tk, _) => Nat.blt tk 60
  | none => true)) = true := by decide +kernel
theorem xWd_ad {U : State} {A : Nat → Prop} {ad ad' : xA} {M : xM} {H : Heap} (h : ∀ k o, k < 60 → ad' k o = ad k o) (hW : xWd U A ad M H) : xWd U A ad' M H := fun k o hk ho => by
  have h1 := List.all_eq_true.mp xtkk_all k (List.mem_range.mpr hk)
  refine ⟨fun hf => ((hW k o hk ho).1 hf).same (h k o hk) rfl (fun f d hd => ?_), fun ty ht => ((hW k o hk ho).2 ty ht).same (h k o hk) rfl rfl (fun j hj => ?_)⟩
  · have hd1 : d.2.1 < 60 := Nat.le_of_ble_eq_true (List.all_eq_true.mp (and_l h1) d (List.mem_of_getElem? hd))
    obtain ⟨t, tk, tw⟩ := d
    match t with
    | 0 => rfl
    | 1 => rfl
    | t + 2 =>
      show (if gn M (200 + k) o f = 1 then Value.ref (ad' tk (xtg (t + 2) tw o (gn M k o f))) else .null) = (if gn M (200 + k) o f = 1 then .ref (ad tk (xtg (t + 2) tw o (gn M k o f))) else .null)
      rw [h tk _ hd1]
  · have h2 := and_r h1
    unfold xav
    cases he : xae k with
    | none => rfl
    | some q =>
      obtain ⟨tk, tw⟩ := q
      rw [he] at h2
      have hq : tk < 60 := Nat.le_of_ble_eq_true h2
      simp only [h tk _ hq]
theorem xAp_ad {A : Nat → Prop} {ad ad' : xA} {M : xM} (h : ∀ k o, k < 60 → ad' k o = ad k o) (hP : xAp A ad M) : xAp A ad' M :=
  ⟨fun k o hk ho => by rw [h k o hk]; exact hP.1 k o hk ho, fun k o k' o' hk hk' => by rw [h k o hk, h k' o' hk']; exact hP.2.1 k o k' o' hk hk', fun o o' => by rw [h 42 o (by omega), h 42 o' (by omega)]; exact hP.2.2 o o'⟩
/-- the callee's addresses with the caller's exceptions -/
def xmrg (ad ad' : xA) : xA := fun k o => match Nat.blt k 60 with
  | true => ad' k o
  | false => ad k o
theorem xmrg_lt {ad ad' : xA} {k o : Nat} (h : k < 60) : xmrg ad ad' k o = ad' k o := by
  unfold xmrg
  rw [show Nat.blt k 60 = true from Nat.ble_eq_true_of_le h]
theorem xmrg_60 {ad ad' : xA} {o : Nat} : xmrg ad ad' 60 o = ad 60 o := rfl
/-- the address of the exception that is held -/
def xexa (ad : xA) (q : Nat) : xA := fun k o => if k = 60 ∧ o = 1 then q + 1 else ad k o
theorem xexa_lt {ad : xA} {q k o : Nat} (h : k < 60) : xexa ad q k o = ad k o := if_neg (by omega)
section XB
variable {p : Program} {l : Launch} {e : Env} {R : Room} {s : State} {m : MethodId} {args : Array Value} {below : List Frame} {meth : Method} {c : Code} {H : Heap} {locs : List Loc} {cells slots : Nat} {Q : State → Prop}
theorem xback {A : Nat → Prop} {ad : xA} {M : xM} {r1 : (Option xV ⊕ Nat) × xM} {rg2 : Option (List (Nat × Nat))} {mc ms pc : Nat} {la : Array Slot} {st0 rest : List Value} {a : Array Value}
    (hr : vx_Run p l e R s m args below meth c H locs cells slots mc ms (F0 m pc la st0) rest (xQc A ad M rg2 r1 a) (xXC A ad M r1) A) (I : xInv s A ad M s.heap H locs) (hmon : xmon M r1.2) (hv51 : ∀ k o, r1.1 = .inl (some (k, .ref o)) → k ≠ 51)
    (kret : ∀ (v : Option xV) (ad' : xA) (H1 : Heap) (locs1 : List Loc), r1.1 = .inl v → (∀ x, v = some x → xvok rg2 r1.2 x) → xSm ad ad' M → xInv s A ad' r1.2 s.heap H1 locs1 → W p l e R s m args below meth c H1 locs1 (cells + mc) (slots + ms) Q (F0 m (pc + 3) la ((v.map (xenc ad')).toList ++ rest)))
    (kthr : ∀ (E q : Nat) (ce : Cell) (ad' : xA) (H1 : Heap) (locs1 : List Loc), r1.1 = .inr E → E < 4 → xSm ad ad' M → xInv s A ad' r1.2 s.heap H1 locs1 → H1[q]? = some ce → ce.vm = .none → s.vm.findClass (xEn E) = some ce.cls → vx_W p l e R s m args below meth c H1 locs1 (cells + mc) (slots + ms) Q (F0 m pc la rest) q) :
    W p l e R s m args below meth c H locs cells slots Q (F0 m pc la st0) := by
  have inv : ∀ {ad' : xA} {st₀ t T' : State} {L : List Loc}, st₀.heap = H → T'.heap = t.heap → T'.vm = t.vm → s.vm.Alike T'.vm → (∀ z ∈ L, A z.base) → xPo A ad M ad' r1.2 st₀ t → xSm ad (xmrg ad ad') M ∧ xInv s A (xmrg ad ad') r1.2 s.heap T'.heap (locs ++ L) := by
    intro ad' st₀ t T' L h0 e1 e2 hal hL hPo
    obtain ⟨g1, g2, g3, g4, g5, g6⟩ := hPo
    obtain ⟨-, -, k3⟩ := vx_keep h0 e1 I.2.2.2.2.2 (fun _ _ h => h) (fun _ h => h) hL g6
    rw [e2] at hal
    refine ⟨⟨fun k o hk h5 ho => by rw [xmrg_lt hk]; exact g1 k o hk h5 ho, fun o => xmrg_60⟩, ?_, xAp_ad (fun k o hk => xmrg_lt hk) g3, g4, g5, I.2.2.2.2.1.mon hmon, k3⟩
    rw [e1]
    exact xWd_ad (fun k o hk => xmrg_lt hk) (g2.moved hal.symm)
  intro T hT X
  rcases hr T hT X with ⟨v, st₀, t, T', L, h0, X', hL, e1, e2, ⟨v', ad', hr1, ho, hvok, hPo⟩, st⟩ | ⟨q, st₀, t, T', L, E, ce, h0, X', hL, e1, e2, ⟨k, ad', hr1, hE, hk4, hPo⟩, hce, hcv, hcl, st⟩
  · obtain rfl : v = v'.map (xenc ad') := by injection ho
    obtain ⟨hsm, I1⟩ := inv h0 e1 e2 X'.warmed.alike hL hPo
    have hv : v'.map (xenc ad') = v'.map (xenc (xmrg ad ad')) := by
      cases v' with
      | none => rfl
      | some x =>
        obtain ⟨k, w⟩ := x
        cases w with
        | ref o =>
          have h51 := hv51 k o hr1
          rcases hvok _ rfl with z | ⟨z, -⟩
          · exact absurd z h51
          · show some _ = some _
            rw [xenc_ref h51, xenc_ref h51, xmrg_lt z]
        | _ => rfl
    obtain ⟨t2, a1, b1⟩ := kret v' _ T'.heap (locs ++ L) hr1 hvok hsm I1 T' rfl X'
    rw [← hv] at a1
    exact ⟨t2, st t2 a1, b1⟩
  · obtain ⟨hsm, I1⟩ := inv h0 e1 e2 X'.warmed.alike hL hPo
    obtain ⟨t2, a1, b1⟩ := kthr k q ce _ T'.heap (locs ++ L) hr1 hk4 hsm I1 (by rw [e1]; exact hce) hcv (by rw [← hE]; exact hcl) T' rfl X'
    exact ⟨t2, st.trans a1, b1⟩
end XB
/-- what a call's answer is used for -/
theorem xcall_spec {t kx : Nat} {r1 r : (Option xV ⊕ Nat) × xM} {K : List xV → xM → xR} {st : List xV} (h : xcall t kx (some r1) K st = some r) :
    (∃ v v', r1.1 = .inl v ∧ K (v'.toList ++ st) r1.2 = some r ∧ (∀ ad, v'.map (xenc ad) = v.map (xenc ad)) ∧ (∀ rg M, (∀ x, v = some x → xvok rg M x) → ∀ x, v' = some x → xvok rg M x) ∧ ∀ k o, v = some (k, .ref o) → k = kx) ∨ ∃ E, r1.1 = .inr E ∧ r = (.inr E, r1.2) := by
  obtain ⟨a, M1⟩ := r1
  unfold xcall at h
  split at h
  · unfold xbV at h
    split at h
    · rename_i e; cases e
      exact Or.inl ⟨none, none, rfl, h, fun _ => rfl, fun _ _ h => h, fun _ _ h => nomatch h⟩
    · rename_i e; cases e; cases h
      exact Or.inr ⟨_, rfl, rfl⟩
    · cases h
  · unfold xbI at h
    split at h
    · rename_i k x M e; cases e
      exact Or.inl ⟨some (k, .int x), some (0, .int x), rfl, h, fun _ => rfl, fun _ _ _ x hx => by cases hx; trivial, fun _ _ h => by cases h⟩
    · rename_i e; cases e; cases h
      exact Or.inr ⟨_, rfl, rfl⟩
    · cases h
  · unfold xbL at h
    split at h
    · rename_i k x M e; cases e
      exact Or.inl ⟨some (k, .long x), some (0, .long x), rfl, h, fun _ => rfl, fun _ _ _ x hx => by cases hx; trivial, fun _ _ h => by cases h⟩
    · rename_i e; cases e; cases h
      exact Or.inr ⟨_, rfl, rfl⟩
    · cases h
  · unfold xbR at h
    split at h
    · rename_i k x M e; cases e
      split at h
      · rename_i e; subst e
        exact Or.inl ⟨some (_, .ref x), some (_, .ref x), rfl, h, fun _ => rfl, fun _ _ h => h, fun _ _ h => by cases h; rfl⟩
      · cases h
    · rename_i e; cases e; cases h
      exact Or.inr ⟨_, rfl, rfl⟩
    · cases h
  · unfold xbF at h
    split at h
    · rename_i k x M e; cases e
      exact Or.inl ⟨some (k, .float x), some (0, .float x), rfl, h, fun _ => rfl, fun _ _ _ x hx => by cases hx; trivial, fun _ _ h => by cases h⟩
    · rename_i e; cases e; cases h
      exact Or.inr ⟨_, rfl, rfl⟩
    · cases h
  · unfold xbD at h
    split at h
    · rename_i k x M e; cases e
      exact Or.inl ⟨some (k, .double x), some (0, .double x), rfl, h, fun _ => rfl, fun _ _ _ x hx => by cases hx; trivial, fun _ _ h => by cases h⟩
    · rename_i e; cases e; cases h
      exact Or.inr ⟨_, rfl, rfl⟩
    · cases h
  · cases h
theorem xcall_sm2 {t kx : Nat} {r0 : xR} {r : (Option xV ⊕ Nat) × xM} {K : List xV → xM → xR} {st : List xV} (h : xcall t kx r0 K st = some r) : ∃ r1, r0 = some r1 := by
  cases r0 with
  | some r1 => exact ⟨r1, rfl⟩
  | none =>
    unfold xcall at h
    split at h <;> first | (cases h; done) | (simp [xbV, xbI, xbL, xbR, xbF, xbD] at h)
theorem xret_sm2 {r0 : xR} {r1 : (Option xV ⊕ Nat) × xM} (h : xret r0 = some r1) : r0 = some r1 ∧ ∃ v, r1.1 = .inl v := by
  unfold xret at h
  split at h
  · cases h
    exact ⟨rfl, _, rfl⟩
  · cases h
theorem xrok.mon {rg : Option (List (Nat × Nat))} {M M' : xM} (hm : xmon M M') (hgL : ∀ L, rg = some L → L.all (fun q => Nat.blt q.1 60) = true) (h : xrok rg M) : xrok rg M' := fun L hL => ⟨xgood_mon hm (hgL L hL) (h L hL).1, (h L hL).2⟩
set_option maxHeartbeats 1000000 in
theorem xcallA {p : Program} {l : Launch} {e : Env} {R : Room} {s : State} {m : MethodId} {args : Array Value} {below : List Frame} {meth : Method} {c : Code} {H : Heap} {locs : List Loc} {cells slots : Nat} {A : Nat → Prop} {ad ad0 : xA} {En : xP}
    {y pc fc fs t kx : Nat} {C cs : List xE} {ls as st : List xV} {M M0 : xM} {r r1 : (Option xV ⊕ Nat) × xM} {la : Array Slot} {rg rg2 : Option (List (Nat × Nat))} {a : Array Value}
    (F : xFx y p l s m args meth c) (I : xInv s A ad M s.heap H locs) (hl : xlr ad (xml y) la ls) (vl : ∀ v ∈ ls, xvok rg M v) (vs : ∀ v ∈ st, xvok rg M v)
    (hb : ∀ k o, k < 60 → k ≠ 51 → o < xc M0 k → ad k o = ad0 k o) (hm0 : xmon M0 M) (hcs : ∃ j, cs = C.drop j) (hnx : xpc cs = pc + 3) (hkx : kx ≠ 51) (hmon : xmon M r1.2) (hmn : ∀ st' M', En C cs ls st' M' = some r → xmon M' r.2)
    (hrg2 : ∀ x, xvok rg2 r1.2 x → xvok rg r1.2 x)
    (hr : vx_Run p l e R s m args below meth c H locs cells slots (gn r1.2 100 0 0 - gn M 100 0 0) (gn r1.2 100 0 1 - gn M 100 0 1) (F0 m pc la ((as.reverse ++ st).map (xenc ad))) (st.map (xenc ad)) (xQc A ad M rg2 r1 a) (xXC A ad M r1) A)
    (hthr : (∃ v, r1.1 = .inl v) ∨ ∀ z ∈ c.exceptionTable.toList, covers z pc = false)
    (h : xcall t kx (some r1) (fun st M => En C cs ls st M) st = some r) (hc : cells + gn r.2 100 0 0 ≤ fc + gn M 100 0 0) (hs : slots + gn r.2 100 0 1 ≤ fs + gn M 100 0 1)
    (kk : ∀ (cs' : List xE) (ls' st' : List xV) (M' : xM) (ad' : xA) (H1 : Heap) (locs1 : List Loc) (la1 : Array Slot) (cells1 slots1 : Nat), En C cs' ls' st' M' = some r → (∃ j, cs' = C.drop j) → xS0 ad ad' M → xmon M M' → xInv s A ad' M' s.heap H1 locs1 → xlr ad' (xml y) la1 ls' → (∀ v ∈ ls', xvok rg M' v) → (∀ v ∈ st', xvok rg M' v) → cells1 + gn r.2 100 0 0 ≤ fc + gn M' 100 0 0 → slots1 + gn r.2 100 0 1 ≤ fs + gn M' 100 0 1 → W p l e R s m args below meth c H1 locs1 cells1 slots1 (vx_MQ below (xQc A ad0 M0 rg r) (xXC A ad0 M0 r) args s fc fs A) (F0 m (xpc cs') la1 (st'.map (xenc ad')))) :
    W p l e R s m args below meth c H locs cells slots (vx_MQ below (xQc A ad0 M0 rg r) (xXC A ad0 M0 r) args s fc fs A) (F0 m pc la ((as.reverse ++ st).map (xenc ad))) := by
  obtain ⟨hx, hbc, hml, hown, hts, hlk, hret, hnm, htr⟩ := F
  have sp := xcall_spec h
  have m0 := hmon.2.2.2.1
  have m1 := hmon.2.2.2.2
  refine xback hr I hmon (fun k o h9 => ?_) (fun v ad' H1 locs1 h9 hvok hsm I1 => ?_) (fun E q ce ad' H1 locs1 h9 hE4 hsm I1 hce hcv hcl => ?_)
  · rcases sp with ⟨v, v', g1, -, -, -, g5⟩ | ⟨E, g1, -⟩
    · rw [g1] at h9
      cases h9
      rw [g5 k o rfl]
      exact hkx
    · rw [g1] at h9
      cases h9
  · rcases sp with ⟨v2, v', g1, g2, g3, g4, -⟩ | ⟨E, g1, -⟩
    · rw [g1] at h9
      cases h9
      have hrr := hmn _ _ g2
      have z1 := hrr.2.2.2.1
      have z2 := hrr.2.2.2.2
      have this := kk cs ls (v'.toList ++ st) r1.2 ad' H1 locs1 la (cells + (gn r1.2 100 0 0 - gn M 100 0 0)) (slots + (gn r1.2 100 0 1 - gn M 100 0 1)) g2 hcs hsm.s0 hmon I1 (hl.ad (fun v hv => xenc_sm hsm (vl v hv))) (fun v hv => (vl v hv).mon hmon) (fun v hv => by
        rcases List.mem_append.mp hv with h | h
        · refine hrg2 _ (g4 rg2 r1.2 hvok v ?_)
          cases v' with
          | none => cases h
          | some x => rw [List.mem_singleton.mp h]
        · exact (vs v h).mon hmon) (by omega) (by omega)
      rw [hnx, List.map_append, xmap_sm hsm vs] at this
      rw [← g3 ad']
      cases v' with
      | none => exact this
      | some x => exact this
    · rw [g1] at h9
      cases h9
  · rcases sp with ⟨v, v', g1, -⟩ | ⟨E2, g1, g2⟩
    · rw [g1] at h9
      cases h9
    · rw [g1] at h9
      cases h9
      rcases hthr with ⟨v, hv⟩ | hout
      · rw [g1] at hv
        cases hv
      · have e2 : r.2 = r1.2 := by rw [g2]
        have e1 : r.1 = .inr E := by rw [g2]
        rw [e2] at hc hs
        exact vx_outP hown hlk (fun z hz => Or.inl (hout z hz)) hce hcv hcl (fun t ht hv => ⟨E, ad', e1, rfl, hE4, by rw [e2]; exact xPo_of (fun k o hk h5 ho => (hsm.1 k o hk h5 (Nat.lt_of_lt_of_le ho (hm0.1 k))).trans (hb k o hk h5 ho)) I1 ht hv⟩) I1.2.2.2.2.2.2.2 (by omega) (by omega)
theorem xE4 {E : Nat} (h : E < 4) : E ∈ ([0, 1, 2, 3] : List Nat) := by
  have : E = 0 ∨ E = 1 ∨ E = 2 ∨ E = 3 := by omega
  rcases this with rfl | rfl | rfl | rfl <;> simp
end
section
/-! NATIVES, AND THE CALL AS A WHOLE. -/
theorem xtc51 : xtc 51 = 0 := rfl
theorem xcp_of {t : Nat} (h : xcp t = true) : t = 1 ∨ t = 2 ∨ t = 4 := by
  unfold xcp at h
  split at h
  · exact Or.inl rfl
  · exact Or.inr (Or.inl rfl)
  · exact Or.inr (Or.inr rfl)
  · cases h
theorem xvok_lt {rg : Option (List (Nat × Nat))} {M : xM} {k o : Nat} (h : xvok rg M (k, .ref o)) (h51 : k ≠ 51) : k < 60 ∧ o < xc M k := by
  rcases h with z | z
  · exact absurd z h51
  · exact ⟨z.1, z.2.1⟩
theorem xgd_ok2 {b : Bool} {k : xR} {r : (Option xV ⊕ Nat) × xM} (h : xgd b k = some r) : b = true ∧ k = some r := by
  cases b with
  | true => exact ⟨rfl, h⟩
  | false => cases h
theorem xat_len : List.all [0, 1, 2, 3, 4] (fun i => (xsl i).all (fun q => Nat.blt q.1 60)) = true := by decide +kernel
theorem xain_ok {L : List (Nat × Nat)} {M : xM} {as : List xV} (h : xain L as = true) (va : ∀ v ∈ as, xvok none M v) : ∀ v ∈ as, xvok (some L) M v := fun v hv => by
  have h1 := List.all_eq_true.mp h v hv
  have h2 := va v hv
  obtain ⟨k, w⟩ := v
  cases w with
  | ref o =>
    rcases h2 with z | ⟨z1, z2, -⟩
    · exact Or.inl z
    · refine Or.inr ⟨z1, z2, fun L' hL' hs => ?_⟩
      cases hL'
      rcases (Bool.or_eq_true _ _).mp h1 with q | q
      · rw [hs] at q
        cases q
      · obtain ⟨q, hq, hq2⟩ := List.any_eq_true.mp q
        obtain ⟨a, b⟩ := q
        have e1 := Nat.eq_of_beq_eq_true (and_l hq2)
        have e2 := Nat.eq_of_beq_eq_true (and_r hq2)
        simp only at e1 e2
        rw [← e1, ← e2]
        exact hq
  | _ => trivial
theorem xvok_none {rg : Option (List (Nat × Nat))} {M : xM} {v : xV} (h : xvok rg M v) : xvok none M v := by
  obtain ⟨k, w⟩ := v
  cases w with
  | ref o =>
    rcases h with z | ⟨z1, z2, -⟩
    · exact Or.inl z
    · exact Or.inr ⟨z1, z2, fun L hL => nomatch hL⟩
  | _ => trivial
theorem xsl_closed {i : Nat} (h : i < 5) : xclosed (xsl i) = true := by
  have h1 := xclosed_sl
  have h2 := of_decide_eq_true (and_r h1)
  have : i = 0 ∨ i = 1 ∨ i = 2 ∨ i = 3 ∨ i = 4 := by omega
  rcases this with rfl | rfl | rfl | rfl | rfl
  · exact and_l (and_l h1)
  · exact and_r (and_l h1)
  · exact and_l (and_l h2)
  · exact and_r (and_l h2)
  · exact and_r h2
theorem xsl_lt {i : Nat} (h : i < 5) : (xsl i).all (fun q => Nat.blt q.1 60) = true := List.all_eq_true.mp xat_len i (by
  have : i = 0 ∨ i = 1 ∨ i = 2 ∨ i = 3 ∨ i = 4 := by omega
  rcases this with rfl | rfl | rfl | rfl | rfl <;> simp)
/-- what a call of a method is given -/
def xArg (y : Nat) (M : xM) (rg : Option (List (Nat × Nat))) (as : List xV) : Prop := (xreg y = false → ∃ L, rg = some L) ∧ (xreg y = true → rg = none) ∧ xrok rg M ∧ (∀ L, rg = some L → L.all (fun q => Nat.blt q.1 60) = true) ∧ (∀ v ∈ as, xvok rg M v) ∧ xaw as ≤ xml y
def xcalls (i : Instr) : Bool := match i with
  | .invokevirtual _ => true
  | .invokestatic _ => true
  | .invokespecial _ => true
  | _ => false
def xman (tab : Nat → List xE) (ml : Nat → Nat) (Ec En : xP) (y2 t kx : Nat) (hs : List Nat) (as : List xV) (C cs : List xE) (ls st : List xV) (M : xM) : xR := match hs with
        | [] => xcall t kx (Ec (tab y2) (tab y2) (xarg (ml y2) as) [] M) (fun st M => En C cs ls st M) st
        | 0 :: _ => xcall t kx (xret (Ec (tab y2) (tab y2) (xarg (ml y2) as) [] M)) (fun st M => En C cs ls st M) st
        | 1 :: i :: _ => xgd (xgood (xsl i) M && xain (xsl i) as) (xcall t kx (xret (Ec (tab y2) (tab y2) (xarg (ml y2) as) [] M)) (fun st M => En C cs ls st M) st)
        | 2 :: hs => match xno51 ls, t with
          | true, 1 => xhI (Ec (tab y2) (tab y2) (xarg (ml y2) as) [] M) (fun x M => En C cs ls ((0, .int x) :: st) M) (fun E M => xhand hs E M (fun t => En C (C.drop t) ls [(51, .ref 1)] M))
          | true, 4 => xhF (Ec (tab y2) (tab y2) (xarg (ml y2) as) [] M) (fun x M => En C cs ls ((0, .float x) :: st) M) (fun E M => xhand hs E M (fun t => En C (C.drop t) ls [(51, .ref 1)] M))
          | _, _ => none
        | 3 :: _ => match as with
          | [(ks, .ref os), (_, .int sp), (kd, .ref od), (_, .int dp), (_, .int l)] => match Nat.blt kd 60 && (Nat.beq (xtc ks) (xtc kd) && xcp (xtc kd)) with
            | true => xgd (xmut kd od) (if sp < 0 ∨ dp < 0 ∨ l < 0 ∨ xlen ks os M < ix sp + ix l ∨ xlen kd od M < ix dp + ix l then none else En C cs ls st (xcpy M ks os kd od (ix sp) (ix dp) (ix l)))
            | false => none
          | _ => none
        | 4 :: kd :: _ => match as, Nat.blt kd 60 && Nat.beq (xtc kd) 2 with
          | [(ks, .ref os)], true => xgd (Nat.beq ks 49) (En C cs ls ((kd, .ref (gn M 101 kd 0)) :: st) (xcpy (xnewD M kd (xlen ks os M)) ks os kd (gn M 101 kd 0) 0 0 (xlen ks os M)))
          | _, _ => none
        | 5 :: _ => match as with
          | [(k, .ref _)] => xgd (!Nat.beq k 51) (En C cs ls st M)
          | _ => none
        | _ => none
theorem xinv_man {tab : Nat → List xE} {ml : Nat → Nat} {Ec En : xP} {aux : List Nat} {C cs : List xE} {ls st : List xV} {M : xM} {r : (Option xV ⊕ Nat) × xM} (h : xinvoke tab ml Ec En aux C cs ls st M = some r) :
    ∃ y2 n t kx rk hs as st2, aux = y2 :: n :: t :: kx :: rk :: hs ∧ xtake n st [] = some (as, st2) ∧ xaw st2 ≤ 8 ∧ xrcv rk as = true ∧ (Nat.beq y2 9999 || Nat.ble (xaw as) (ml y2)) = true ∧ xman tab ml Ec En y2 t kx hs as C cs ls st2 M = some r := by
  unfold xinvoke at h
  split at h
  · rename_i y2 n t kx rk hs
    split at h
    · rename_i as st2 hx
      split at h
      · rename_i hg
        exact ⟨y2, n, t, kx, rk, hs, as, st2, rfl, hx, Nat.le_of_ble_eq_true (and_l hg), and_l (and_r hg), and_r (and_r hg), h⟩
      · cases h
    · cases h
  · cases h
set_option maxHeartbeats 1000000 in
/-- the manner of a call -/
theorem xcallM {p : Program} {l : Launch} {e : Env} {R : Room} {s : State} {m : MethodId} {args : Array Value} {below : List Frame} {meth : Method} {c : Code} {H : Heap} {locs : List Loc} {cells slots : Nat} {A : Nat → Prop} {ad ad0 : xA} {Ec En : xP}
    {y y2 pc fc fs t kx : Nat} {hs : List Nat} {C cs : List xE} {ls as st : List xV} {M M0 : xM} {r : (Option xV ⊕ Nat) × xM} {la : Array Slot} {rg : Option (List (Nat × Nat))} {a : Array Value}
    (F : xFx y p l s m args meth c) (hET : y ≠ 196 → c.exceptionTable.toList = tableOf (xhh y)) (Ze : xCe A s) (I : xInv s A ad M s.heap H locs) (hl : xlr ad (xml y) la ls) (vl : ∀ v ∈ ls, xvok rg M v) (va : ∀ v ∈ as, xvok rg M v) (vs : ∀ v ∈ st, xvok rg M v) (hr : xrok rg M) (hrg : xreg y = false → ∃ L, rg = some L) (hrg2 : xreg y = true → rg = none) (hgL : ∀ L, rg = some L → L.all (fun q => Nat.blt q.1 60) = true)
    (hb : ∀ k o, k < 60 → k ≠ 51 → o < xc M0 k → ad k o = ad0 k o) (hm0 : xmon M0 M) (hcs : ∃ j, cs = C.drop j) (hnx : xpc cs = pc + 3)
    (hmc : ∀ C' cs' ls' st' M' r', Ec C' cs' ls' st' M' = some r' → xmon M' r'.2) (hmn : ∀ cs' ls' st' M', En C cs' ls' st' M' = some r → xmon M' r.2)
    (hok : xokY y y2 C pc hs = true) (hkx : kx ≠ 51) (haw : xaw as ≤ xml y2)
    (hrun : ∀ r1 rg2, Ec (xtab y2) (xtab y2) (xarg (xml y2) as) [] M = some r1 → (xrets0 hs = true → ∃ v, r1.1 = .inl v) → xmon r1.2 r.2 → xArg y2 M rg2 as → vx_Run p l e R s m args below meth c H locs cells slots (gn r1.2 100 0 0 - gn M 100 0 0) (gn r1.2 100 0 1 - gn M 100 0 1) (F0 m pc la ((as.reverse ++ st).map (xenc ad))) (st.map (xenc ad)) (xQc A ad M rg2 r1 a) (xXC A ad M r1) A)
    (h : xman xtab xml Ec En y2 t kx hs as C cs ls st M = some r)
    (hc : cells + gn r.2 100 0 0 ≤ fc + gn M 100 0 0) (hs9 : slots + gn r.2 100 0 1 ≤ fs + gn M 100 0 1)
    (kk : ∀ (cs' : List xE) (ls' st' : List xV) (M' : xM) (ad' : xA) (H1 : Heap) (locs1 : List Loc) (la1 : Array Slot) (cells1 slots1 : Nat), En C cs' ls' st' M' = some r → (∃ j, cs' = C.drop j) → xS0 ad ad' M → xmon M M' → xInv s A ad' M' s.heap H1 locs1 → xlr ad' (xml y) la1 ls' → (∀ v ∈ ls', xvok rg M' v) → (∀ v ∈ st', xvok rg M' v) → cells1 + gn r.2 100 0 0 ≤ fc + gn M' 100 0 0 → slots1 + gn r.2 100 0 1 ≤ fs + gn M' 100 0 1 → W p l e R s m args below meth c H1 locs1 cells1 slots1 (vx_MQ below (xQc A ad0 M0 rg r) (xXC A ad0 M0 r) args s fc fs A) (F0 m (xpc cs') la1 (st'.map (xenc ad')))) :
    W p l e R s m args below meth c H locs cells slots (vx_MQ below (xQc A ad0 M0 rg r) (xXC A ad0 M0 r) args s fc fs A) (F0 m pc la ((as.reverse ++ st).map (xenc ad))) := by
  have hokH := and_r hok
  have mr : ∀ {r1 : (Option xV ⊕ Nat) × xM}, xcall t kx (some r1) (fun st M => En C cs ls st M) st = some r → xmon r1.2 r.2 := fun h => by
    rcases xcall_spec h with ⟨v, v', g1, g2, -⟩ | ⟨E, g1, g2⟩
    · exact hmn _ _ _ _ g2
    · rw [g2]; exact xmon_refl _
  have same : xreg y = xreg y2 → xArg y2 M rg as := fun e => ⟨fun q => hrg (e.trans q), fun q => hrg2 (e.trans q), hr, hgL, va, haw⟩
  unfold xman at h
  split at h
  · obtain ⟨r1, hr1⟩ := xcall_sm2 h
    rw [hr1] at h
    have hreg := and_r (and_l hokH)
    have hall := and_r hokH
    have hy : y ≠ 196 := fun e9 => by
      have h1 := and_l (and_l hokH)
      rw [e9] at h1
      cases h1
    have e : xreg y = xreg y2 := by
      have h1 := and_l hreg
      have h2 := and_r hreg
      simp only [Bool.not_eq_true'] at h1 h2
      rw [h1, h2]
    refine xcallA F I hl vl vs hb hm0 hcs hnx hkx (hmc _ _ _ _ _ _ hr1) (hmn _ _) (fun x hx => hx) (hrun r1 rg hr1 (fun q => nomatch q) (mr h) (same e)) (Or.inr fun z hz => ?_) h hc hs9 kk
    rw [hET hy] at hz
    unfold tableOf at hz
    obtain ⟨w, hw, rfl⟩ := List.mem_map.mp hz
    have h1 := List.all_eq_true.mp hall w hw
    show (decide (w.1 ≤ pc) && decide (pc < w.2.1)) = false
    rw [Bool.not_eq_true'] at h1
    rw [Bool.and_eq_false_iff] at h1 ⊢
    rcases h1 with h1 | h1
    · exact Or.inl (decide_eq_false fun q => by rw [Nat.ble_eq_true_of_le q] at h1; cases h1)
    · exact Or.inr (decide_eq_false fun q => by
        have : Nat.blt pc w.2.1 = true := Nat.ble_eq_true_of_le q
        rw [this] at h1; cases h1)
  · obtain ⟨r1, hr1⟩ := xcall_sm2 h
    rw [hr1] at h
    obtain ⟨hE, hv⟩ := xret_sm2 hr1
    exact xcallA F I hl vl vs hb hm0 hcs hnx hkx (hmc _ _ _ _ _ _ hE) (hmn _ _) (fun x hx => hx) (hrun r1 rg hE (fun _ => hv) (mr h) (same (by simpa [xokH] using hokH))) (Or.inl hv) h hc hs9 kk
  · rename_i i tl
    obtain ⟨hg, h⟩ := xgd_ok2 h
    obtain ⟨r1, hr1⟩ := xcall_sm2 h
    rw [hr1] at h
    obtain ⟨hE, hv⟩ := xret_sm2 hr1
    have hq : (xreg y && (!xreg y2 && Nat.blt i 5)) = true := hokH
    have hi : i < 5 := Nat.le_of_ble_eq_true (and_r (and_r hq))
    have h1 := and_l hq
    have h2 := and_l (and_r hq)
    rw [Bool.not_eq_true'] at h2
    have hn := hrg2 h1
    subst hn
    exact xcallA F I hl vl vs hb hm0 hcs hnx hkx (hmc _ _ _ _ _ _ hE) (hmn _ _) (fun x hx => xvok_none hx) (hrun r1 (some (xsl i)) hE (fun _ => hv) (mr h) ⟨fun _ => ⟨_, rfl⟩, fun q => absurd (h2.symm.trans q) (fun e => nomatch e), fun L hL => (by cases hL; exact ⟨and_l hg, xsl_closed hi⟩), fun L hL => (by cases hL; exact xsl_lt hi), xain_ok (and_r hg) va, haw⟩) (Or.inl hv) h hc hs9 kk
  · cases hokH
  · cases hokH
  · cases hokH
  · cases hokH
  · cases h
end
section
/-! MAX AND MIN OF MATH; THE CALL'S INSTRUCTION; THE FRAME AS A WHOLE. -/
theorem xmx_n1 {k : Nat} {w : Value} (h : ∀ x, w ≠ .int x) (tl : List xV) (M : xM) : xEv xtab xml T_JM_max T_JM_max ((k, w) :: tl) [] M = none := by
  cases w with
  | int x => exact absurd rfl (h x)
  | _ => exact (xEv_unf 3 xtab xml _ _ _ _ M).trans rfl
theorem xmx_n2 {k0 k : Nat} {x : Int32} {w : Value} (h : ∀ x, w ≠ .int x) (tl : List xV) (M : xM) : xEv xtab xml T_JM_max T_JM_max ((k0, .int x) :: (k, w) :: tl) [] M = none := by
  cases w with
  | int x => exact absurd rfl (h x)
  | _ => exact (xEv_unf 3 xtab xml _ _ _ _ M).trans rfl
theorem xmx_ev (k0 k1 : Nat) (x z : Int32) (M : xM) : xEv xtab xml T_JM_max T_JM_max [(k0, .int x), (k1, .int z)] [] M = if x < z then some (.inl (some (0, .int z)), M) else some (.inl (some (0, .int x)), M) := (xEv_unf 20 xtab xml _ _ _ _ M).trans rfl
theorem xmi_n1 {k : Nat} {w : Value} (h : ∀ x, w ≠ .int x) (tl : List xV) (M : xM) : xEv xtab xml T_JM_min T_JM_min ((k, w) :: tl) [] M = none := by
  cases w with
  | int x => exact absurd rfl (h x)
  | _ => exact (xEv_unf 3 xtab xml _ _ _ _ M).trans rfl
theorem xmi_n2 {k0 k : Nat} {x : Int32} {w : Value} (h : ∀ x, w ≠ .int x) (tl : List xV) (M : xM) : xEv xtab xml T_JM_min T_JM_min ((k0, .int x) :: (k, w) :: tl) [] M = none := by
  cases w with
  | int x => exact absurd rfl (h x)
  | _ => exact (xEv_unf 3 xtab xml _ _ _ _ M).trans rfl
theorem xmi_ev (k0 k1 : Nat) (x z : Int32) (M : xM) : xEv xtab xml T_JM_min T_JM_min [(k0, .int x), (k1, .int z)] [] M = if z < x then some (.inl (some (0, .int z)), M) else some (.inl (some (0, .int x)), M) := (xEv_unf 20 xtab xml _ _ _ _ M).trans rfl
/-- the callee is one of Math's -/
def xMx (Ec : xP) (M : xM) : Prop := (∀ as r1, as.length = 2 → Ec (xtab 44) (xtab 44) (xarg (xml 44) as) [] M = some r1 → ∃ k0 x k1 z, as = [(k0, .int x), (k1, .int z)] ∧ r1 = (.inl (some (0, .int (if x < z then z else x))), M)) ∧
  ∀ as r1, as.length = 2 → Ec (xtab 47) (xtab 47) (xarg (xml 47) as) [] M = some r1 → ∃ k0 x k1 z, as = [(k0, .int x), (k1, .int z)] ∧ r1 = (.inl (some (0, .int (if z < x then z else x))), M)
theorem vnint (w : Value) : (∃ x, w = .int x) ∨ ∀ x, w ≠ .int x := by
  cases w with
  | int x => exact Or.inl ⟨x, rfl⟩
  | _ => exact Or.inr fun x h => nomatch h
theorem xarg2 (k0 k1 : Nat) (w0 w1 : Value) : ∃ tl, xarg 2 [(k0, w0), (k1, w1)] = (k0, w0) :: tl ∧ ((∃ x, w0 = .int x) → ∃ tl2, tl = (k1, w1) :: tl2 ∧ ((∃ z, w1 = .int z) → tl2 = [])) := by
  cases w0 with
  | int x =>
    refine ⟨xarg 1 [(k1, w1)], rfl, fun _ => ?_⟩
    cases w1 with
    | int z => exact ⟨[], rfl, fun _ => rfl⟩
    | _ => exact ⟨_, rfl, fun h => by obtain ⟨z, h⟩ := h; cases h⟩
  | _ => exact ⟨_, rfl, fun h => by obtain ⟨x, h⟩ := h; cases h⟩
theorem xMx_ok (n : Nat) (M : xM) : xMx (xexec xtab xml n) M := by
  refine ⟨fun as r1 hl h => ?_, fun as r1 hl h => ?_⟩
  · have h := xEv_of h
    match as, hl with
    | [(k0, w0), (k1, w1)], _ =>
      have h : xEv xtab xml T_JM_max T_JM_max (xarg 2 [(k0, w0), (k1, w1)]) [] M = some r1 := h
      obtain ⟨tl, e1, e2⟩ := xarg2 k0 k1 w0 w1
      rw [e1] at h
      rcases vnint w0 with ⟨x, rfl⟩ | hn
      · obtain ⟨tl2, rfl, e3⟩ := e2 ⟨x, rfl⟩
        rcases vnint w1 with ⟨z, rfl⟩ | hn
        · rw [e3 ⟨z, rfl⟩, xmx_ev] at h
          refine ⟨k0, x, k1, z, rfl, ?_⟩
          split at h
          · rename_i hlt; rw [if_pos hlt]; exact (Option.some.inj h).symm
          · rename_i hlt; rw [if_neg hlt]; exact (Option.some.inj h).symm
        · rw [xmx_n2 hn] at h; cases h
      · rw [xmx_n1 hn] at h; cases h
  · have h := xEv_of h
    match as, hl with
    | [(k0, w0), (k1, w1)], _ =>
      have h : xEv xtab xml T_JM_min T_JM_min (xarg 2 [(k0, w0), (k1, w1)]) [] M = some r1 := h
      obtain ⟨tl, e1, e2⟩ := xarg2 k0 k1 w0 w1
      rw [e1] at h
      rcases vnint w0 with ⟨x, rfl⟩ | hn
      · obtain ⟨tl2, rfl, e3⟩ := e2 ⟨x, rfl⟩
        rcases vnint w1 with ⟨z, rfl⟩ | hn
        · rw [e3 ⟨z, rfl⟩, xmi_ev] at h
          refine ⟨k0, x, k1, z, rfl, ?_⟩
          split at h
          · rename_i hlt; rw [if_pos hlt]; exact (Option.some.inj h).symm
          · rename_i hlt; rw [if_neg hlt]; exact (Option.some.inj h).symm
        · rw [xmi_n2 hn] at h; cases h
      · rw [xmi_n1 hn] at h; cases h
theorem xcal_mx : xcal.all (fun q => Nat.beq q.2.1 1 || (!Nat.beq q.2.2.1 44 && !Nat.beq q.2.2.1 47)) = true := by decide +kernel
theorem xcal_nm {a : (Nat × Nat) × Nat × Nat × Nat} (h : a ∈ xcal) (h1 : a.2.1 ≠ 1) : a.2.2.1 ≠ 44 ∧ a.2.2.1 ≠ 47 := by
  have h2 := List.all_eq_true.mp xcal_mx a h
  rcases (Bool.or_eq_true _ _).mp h2 with q | q
  · exact absurd (Nat.eq_of_beq_eq_true q) h1
  · refine ⟨fun e => ?_, fun e => ?_⟩
    · have := and_l q
      rw [e] at this
      cases this
    · have := and_r q
      rw [e] at this
      cases this
theorem xcal_nV {y pc ix y2 n t kx rk : Nat} {hs : List Nat} {C : List xE} (h9 : Nat.beq y2 9999 = false) (hok : xokCV y C pc ix (y2 :: n :: t :: kx :: rk :: hs) = true) : y2 ≠ 44 ∧ y2 ≠ 47 := by
  unfold xokCV at hok
  simp only [h9] at hok
  rcases (Bool.or_eq_true _ _).mp (and_r (and_r (and_r hok))) with h | h
  · exact xcal_nm (List.contains_iff_mem.mp h) (fun e => nomatch e)
  · rcases (Bool.or_eq_true _ _).mp (and_r h) with h | h
    · exact xcal_nm (List.contains_iff_mem.mp (and_l h)) (fun e => nomatch e)
    · exact xcal_nm (List.contains_iff_mem.mp (and_l h)) (fun e => nomatch e)
theorem xcal_nI {y pc ix y2 n t kx rk : Nat} {hs : List Nat} {C : List xE} (h9 : Nat.beq y2 9999 = false) (hok : xokCI y C pc ix (y2 :: n :: t :: kx :: rk :: hs) = true) : y2 ≠ 44 ∧ y2 ≠ 47 := by
  unfold xokCI at hok
  simp only [h9] at hok
  rcases (Bool.or_eq_true _ _).mp (and_r (and_r (and_r hok))) with h | h
  · obtain ⟨q, hq, hq2⟩ := List.any_eq_true.mp (and_r h)
    have e := Nat.eq_of_beq_eq_true (and_l (and_r (and_r hq2)))
    rw [← e]
    refine xcal_nm hq (fun e1 => ?_)
    rcases (Bool.or_eq_true _ _).mp (and_r (and_r (and_r hq2))) with z | z
    · have := Nat.eq_of_beq_eq_true z
      omega
    · have := Nat.eq_of_beq_eq_true z
      omega
  · exact xcal_nm (List.contains_iff_mem.mp (and_l (and_l h))) (fun e => nomatch e)
theorem xcal_nS {y pc ix y2 n t kx rk : Nat} {hs : List Nat} {C : List xE} (h9 : Nat.beq y2 9999 = false) (hok : xokCS y C pc ix (y2 :: n :: t :: kx :: rk :: hs) = true) : (y2 ≠ 44 ∧ y2 ≠ 47) ∨ (xcal.contains ((xoc y, ix), 1, y2, 0) = true ∧ xpn y2 n = true) := by
  unfold xokCS at hok
  simp only [h9] at hok
  have hp := and_l (and_r hok)
  rcases (Bool.or_eq_true _ _).mp (and_r (and_r hok)) with h | h
  · rcases (Bool.or_eq_true _ _).mp h with h | h
    · exact Or.inr ⟨and_l h, hp⟩
    · exact Or.inl (xcal_nm (List.contains_iff_mem.mp (and_l h)) (fun e => nomatch e))
  · exact Or.inl (xcal_nm (List.contains_iff_mem.mp (and_l (and_r h))) (fun e => nomatch e))
theorem xpn_134 {n : Nat} (h : xpn 44 n = true) : n = 2 := by
  have h1 := xpn_ok h
  have h2 : (parseMethodDescriptor (xY 44).desc).map (fun d => d.parameters.length) = some 2 := by decide +kernel
  exact Option.some.inj (h1.symm.trans h2)
theorem xpn_136 {n : Nat} (h : xpn 47 n = true) : n = 2 := by
  have h1 := xpn_ok h
  have h2 : (parseMethodDescriptor (xY 47).desc).map (fun d => d.parameters.length) = some 2 := by decide +kernel
  exact Option.some.inj (h1.symm.trans h2)
theorem xmath_w : Cond.code Lib.Math.max.name Lib.Math.max.code 2 (some .int) = Cond.code (xY 44) (xCode 44) (xml 44) (xRet 44) ∧ Cond.code Lib.Math.min.name Lib.Math.min.code 2 (some .int) = Cond.code (xY 47) (xCode 47) (xml 47) (xRet 47) := by decide +kernel
theorem xmath_n : (Lib.Math.max.name = xY 44 ∧ Lib.Math.min.name = xY 47) ∧ ((xY 44).cls = "java/lang/Math" ∧ (xY 47).cls = "java/lang/Math") := by decide +kernel
theorem xmath_c : xnor.contains 44 = true ∧ xnor.contains 47 = true := by decide +kernel
section XMX
variable {p : Program} {l : Launch} {e : Env} {R : Room} {s : State} {m : MethodId} {args : Array Value} {below : List Frame} {meth : Method} {c : Code} {H : Heap} {locs : List Loc} {cells slots : Nat}
/-- a call that only leaves a number -/
theorem xrun_of {A : Nat → Prop} {ad : xA} {M : xM} {rg : Option (List (Nat × Nat))} {pc : Nat} {la : Array Slot} {st0 rest : List Value} {a : Array Value} {v : Int32} (I : xInv s A ad M s.heap H locs)
    (h : ∀ T : State, T.heap = H → Stand p l e R s m args below meth c T locs cells slots → ∃ vm', Stand p l e R s m args below meth c (T.setVm vm') locs cells slots ∧ ∀ target, Steps p.tables e below ((T.setVm vm').setTop (F0 m (pc + 3) la (.int v :: rest))) target → Steps p.tables e below (T.setTop (F0 m pc la st0)) target) :
    vx_Run p l e R s m args below meth c H locs cells slots (gn M 100 0 0 - gn M 100 0 0) (gn M 100 0 1 - gn M 100 0 1) (F0 m pc la st0) rest (xQc A ad M rg (.inl (some (0, .int v)), M) a) (xXC A ad M (.inl (some (0, .int v)), M)) A := by
  intro T hT X
  obtain ⟨vm', X', st⟩ := h T hT X
  refine Or.inl ⟨some (.int v), T, T.setVm vm', T.setVm vm', [], hT, ?_, fun q hq => (nomatch hq), rfl, rfl, ⟨some (0, .int v), ad, rfl, rfl, fun x hx => (by cases hx; trivial), ?_⟩, st⟩
  · rw [Nat.sub_self, Nat.sub_self, List.append_nil]
    exact X'
  · refine ⟨fun _ _ _ _ _ => rfl, ?_, I.2.1, I.2.2.1, I.2.2.2.1, Nat.le_refl _, fun q _ _ => rfl⟩
    show xWd (T.setVm vm') A ad M T.heap
    rw [hT]
    exact I.1.moved X'.warmed.alike
end XMX
end
section
/-! THE CALL'S INSTRUCTION, THE FRAME. -/
set_option maxHeartbeats 2000000 in
theorem xinvoke_W {p : Program} {l : Launch} {e : Env} {R : Room} {s : State} {m : MethodId} {args : Array Value} {below : List Frame} {meth : Method} {c : Code} {H : Heap} {locs : List Loc} {cells slots : Nat} {A : Nat → Prop} {ad ad0 : xA} {Ec En : xP}
    {y pc fc fs : Nat} {i : Instr} {aux : List Nat} {kc : Int32} {C cs : List xE} {ls st : List xV} {M M0 : xM} {r : (Option xV ⊕ Nat) × xM} {la : Array Slot} {rg : Option (List (Nat × Nat))}
    (F : xFx y p l s m args meth c) (hET : y ≠ 196 → c.exceptionTable.toList = tableOf (xhh y)) (Z : xCs A ad s) (Ze : xCe A s) (I : xInv s A ad M s.heap H locs) (hl : xlr ad (xml y) la ls) (vl : ∀ v ∈ ls, xvok rg M v) (vs0 : ∀ v ∈ st, xvok rg M v) (hr : xrok rg M) (hrg : xreg y = false → ∃ L, rg = some L) (hrg2 : xreg y = true → rg = none) (hgL : ∀ L, rg = some L → L.all (fun q => Nat.blt q.1 60) = true) (hAA : ∀ q, s.heap.size ≤ q → A q)
    (hb : ∀ k o, k < 60 → k ≠ 51 → o < xc M0 k → ad k o = ad0 k o) (hm0 : xmon M0 M) (hcs : ∃ j, cs = C.drop j)
    (hok : xok y C (pc, i, aux, kc) (xpc cs) = true) (hokC : xokC y C pc i aux = true) (hi : xcalls i = true) (h : xinvoke xtab xml Ec En aux C cs ls st M = some r)
    (hmc : ∀ C' cs' ls' st' M' r', Ec C' cs' ls' st' M' = some r' → xmon M' r'.2) (hmn : ∀ cs' ls' st' M', En C cs' ls' st' M' = some r → xmon M' r.2)
    (hc : cells + gn r.2 100 0 0 ≤ fc + gn M 100 0 0) (hs9 : slots + gn r.2 100 0 1 ≤ fs + gn M 100 0 1) (hfc : fc ≤ R.cells) (hfs : fs ≤ R.slots) (hRf : 10 + xdp y ≤ R.frames) (hRl : 240 + 40 * xdp y ≤ R.locals)
    (hM : ∀ y2 rg2 as r1, y2 < 196 → (y2 ≠ 44 ∧ y2 ≠ 47) → xArg y2 M rg2 as → Ec (xtab y2) (xtab y2) (xarg (xml y2) as) [] M = some r1 → xMt l y2 A ad M rg2 as r1) (hmx : xMx Ec M)
    (kk : ∀ (cs' : List xE) (ls' st' : List xV) (M' : xM) (ad' : xA) (H1 : Heap) (locs1 : List Loc) (la1 : Array Slot) (cells1 slots1 : Nat), En C cs' ls' st' M' = some r → (∃ j, cs' = C.drop j) → xS0 ad ad' M → xmon M M' → xInv s A ad' M' s.heap H1 locs1 → xlr ad' (xml y) la1 ls' → (∀ v ∈ ls', xvok rg M' v) → (∀ v ∈ st', xvok rg M' v) → cells1 + gn r.2 100 0 0 ≤ fc + gn M' 100 0 0 → slots1 + gn r.2 100 0 1 ≤ fs + gn M' 100 0 1 → W p l e R s m args below meth c H1 locs1 cells1 slots1 (vx_MQ below (xQc A ad0 M0 rg r) (xXC A ad0 M0 r) args s fc fs A) (F0 m (xpc cs') la1 (st'.map (xenc ad')))) :
    W p l e R s m args below meth c H locs cells slots (vx_MQ below (xQc A ad0 M0 rg r) (xXC A ad0 M0 r) args s fc fs A) (F0 m pc la (st.map (xenc ad))) := by
  obtain ⟨y2, n, t, kx, rk, hs, as, st, rfl, htk, hst4, hrcv, haw, hman⟩ := xinv_man h
  obtain ⟨rfl, has⟩ := xtake_ok htk
  have va : ∀ v ∈ as, xvok rg M v := fun v hv => vs0 v (List.mem_append_left _ (List.mem_reverse.mpr hv))
  have vs : ∀ v ∈ st, xvok rg M v := fun v hv => vs0 v (List.mem_append_right _ hv)
  have hla : la.size = xml y := hl.2.1
  have hlm : la.size = c.maxLocals := hla.trans F.2.2.1.symm
  have hsum : ((st.map (xenc ad)).map fun v => v.category).sum ≤ 8 := by
    have h2 := xcat_sum ad st
    omega
  have bnd : ∀ {r1 : (Option xV ⊕ Nat) × xM}, xmon M r1.2 → xmon r1.2 r.2 → cells + (gn r1.2 100 0 0 - gn M 100 0 0) ≤ R.cells ∧ slots + (gn r1.2 100 0 1 - gn M 100 0 1) ≤ R.slots := fun h1 h2 => by
    have a1 := h1.2.2.2.1
    have a2 := h1.2.2.2.2
    have b1 := h2.2.2.2.1
    have b2 := h2.2.2.2.2
    omega
  cases i with
  | invokevirtual j =>
    obtain ⟨hd, hnx, -⟩ := xok_dec (e := false) hok rfl
    have hnx : xpc cs = pc + 3 := hnx
    have hokC : xokCV y C pc j (y2 :: n :: t :: kx :: rk :: hs) = true := hokC
    cases h9 : Nat.beq y2 9999 with
    | false =>
      have hq := hokC
      unfold xokCV at hq
      simp only [h9] at hq
      have hY := and_l (and_l hq)
      have hkx : kx ≠ 51 := fun e => by
        have := and_r (and_l hq)
        rw [e] at this
        cases this
      rw [h9, Bool.false_or] at haw
      exact xcallM F hET Ze I hl vl va vs hr hrg hrg2 hgL hb hm0 hcs hnx hmc hmn hY hkx (Nat.le_of_ble_eq_true haw) (fun r1 rg2 hE hrets hmr hA => xrunV F I Z Ze hAA va (hM y2 rg2 as r1 (Nat.le_of_ble_eq_true (and_l (and_l hY))) (xcal_nV h9 hokC) hA hE) h9 hokC has hrcv hrets hst4 hla hd (bnd (hmc _ _ _ _ _ _ hE) hmr) hRf hRl) hman hc hs9 kk
    | true =>
      unfold xokCV at hokC
      simp only [h9] at hokC
      obtain ⟨hx, hbc, hml, hown, hts, hlk, hrt, hnm, htr⟩ := F
      have hoc := Nat.eq_of_beq_eq_true (and_l (and_l hokC))
      have hix := Nat.eq_of_beq_eq_true (and_r (and_l hokC))
      have hhs : hs = [4, 47] := of_decide_eq_true (and_r (and_r (and_r (and_r hokC))))
      subst hhs
      subst hix
      rw [hoc] at hown
      unfold xman at hman
      simp only at hman
      split at hman
      · rename_i ks os hz
        obtain ⟨hg, h2⟩ := xgd_ok2 hman
        obtain rfl := Nat.eq_of_beq_eq_true hg
        have hos := (xvok_lt (va _ List.mem_cons_self) (by decide)).2
        have hmo : xmon M (xcpy (xnewD M 47 (xlen 49 os M)) 49 os 47 (gn M 101 47 0) 0 0 (xlen 49 os M)) := xmon_trans (xmon_newD rfl) (xmon_cpy rfl)
        have hrr := hmn _ _ _ _ h2
        have n1 : gn (xcpy (xnewD M 47 (xlen 49 os M)) 49 os 47 (gn M 101 47 0) 0 0 (xlen 49 os M)) 100 0 0 = gn M 100 0 0 + 1 := by
          rw [gn_xcpy_ne (by decide)]
          exact (gn_xst_ne (by decide)).trans (xnew_cells (by decide))
        have n2 : gn (xcpy (xnewD M 47 (xlen 49 os M)) 49 os 47 (gn M 101 47 0) 0 0 (xlen 49 os M)) 100 0 1 = gn M 100 0 1 + xlen 49 os M := by
          rw [gn_xcpy_ne (by decide)]
          exact (gn_xst_ne (by decide)).trans (xnew_slots (by decide))
        have n3 : xc (xcpy (xnewD M 47 (xlen 49 os M)) 49 os 47 (gn M 101 47 0) 0 0 (xlen 49 os M)) 47 = xc M 47 + 1 := by
          rw [xc, gn_xcpy_ne (by decide)]
          exact (xmk_newD (M := M) (k := 47) (n := xlen 49 os M) (by decide)).1
        have z1 := hrr.2.2.2.1
        have z2 := hrr.2.2.2.2
        have hsm := xSm_up (ad := ad) (M := M) (k := 47) (a := H.size) (by decide)
        have e0 : (([((49 : Nat), Value.ref os)]).reverse ++ st).map (xenc ad) = .ref (ad 49 os) :: st.map (xenc ad) := by
          show (((49 : Nat), Value.ref os) :: st).map (xenc ad) = _
          rw [List.map_cons, xenc_ref (by decide)]
        rw [e0]
        refine xw_clone hx hbc hlm hts hown Z I hAA hos rfl rfl rfl (by omega) (by omega) (by omega) (by omega) hd (fun H1 I1 => ?_)
        have this := kk cs ls (((47 : Nat), Value.ref (gn M 101 47 0)) :: st) _ _ H1 locs la (cells + 1) (slots + xlen 49 os M) h2 hcs hsm.s0 hmo I1 (hl.ad (fun v hv => xenc_sm hsm (vl v hv))) (fun v hv => (vl v hv).mon hmo) (xpush (Or.inr ⟨by decide, by rw [n3]; exact Nat.lt_succ_self _, fun L hL hs9 => by cases hs9⟩) (fun v hv => (vs v hv).mon hmo)) (by omega) (by omega)
        rw [hnx, List.map_cons, xmap_sm hsm vs, xenc_ref (by decide), xup_eq] at this
        exact this
      · cases hman
  | invokestatic j =>
    obtain ⟨hd, hnx, -⟩ := xok_dec (e := false) hok rfl
    have hnx : xpc cs = pc + 3 := hnx
    have hokC : xokCS y C pc j (y2 :: n :: t :: kx :: rk :: hs) = true := hokC
    cases h9 : Nat.beq y2 9999 with
    | false =>
      have hq := hokC
      unfold xokCS at hq
      simp only [h9] at hq
      have hY := and_l (and_l hq)
      have hkx : kx ≠ 51 := fun e => by
        have := and_r (and_l hq)
        rw [e] at this
        cases this
      rw [h9, Bool.false_or] at haw
      have hy2 : y2 < 196 := Nat.le_of_ble_eq_true (and_l (and_l hY))
      refine xcallM (a := (as.map (xenc ad)).toArray) F hET Ze I hl vl va vs hr hrg hrg2 hgL hb hm0 hcs hnx hmc hmn hY hkx (Nat.le_of_ble_eq_true haw) (fun r1 rg2 hE hrets hmr hA => ?_) hman hc hs9 kk
      have hb9 := bnd (hmc _ _ _ _ _ _ hE) hmr
      by_cases hne : y2 ≠ 44 ∧ y2 ≠ 47
      · exact xrunS F I Z Ze hAA (hM y2 rg2 as r1 hy2 hne hA hE) h9 hokC has hrets hst4 hla hd hb9 hRf hRl
      · obtain ⟨hx, hbc, hml, hown, hts, hlk, hrt, hnm, htr⟩ := F
        have hcon := (xcal_nS h9 hokC).resolve_left hne
        have hq1 := xcal_f hcon.1 rfl
        have cc : cells ≤ R.cells ∧ slots ≤ R.slots := ⟨Nat.le_trans (Nat.le_add_right _ _) hb9.1, Nat.le_trans (Nat.le_add_right _ _) hb9.2⟩
        by_cases h134 : y2 = 44
        · subst h134
          obtain ⟨k0, x, k1, z, rfl, rfl⟩ := hmx.1 as r1 (has.trans (xpn_134 hcon.2)) hE
          refine xrun_of I (fun T hT X => ?_)
          exact va_mathMaxV X hx hown (by rw [xmath_n.1.1]; exact hts _ (xcalL1 _ hq1)) (by rw [xmath_n.1.1]; exact hts _ (xcalS1 _ hq1)) (by rw [← xmath_n.2.1]; exact hts _ (xini_y (by decide))) (by rw [xmath_w.1]; exact hts _ (xcode_ok 44 (List.contains_iff_mem.mp xmath_c.1))) (g := F0 m pc la (([(k0, Value.int x), (k1, Value.int z)].reverse ++ st).map (xenc ad))) rfl hlm (a := x) (b := z) (rest := st.map (xenc ad)) rfl (by rw [hbc]; exact hd) (by omega) (by show 2 * 0 + _ + 13 ≤ _; omega) cc.1 cc.2
        · have h136 : y2 = 47 := Classical.byContradiction fun h => hne ⟨h134, h⟩
          subst h136
          obtain ⟨k0, x, k1, z, rfl, rfl⟩ := hmx.2 as r1 (has.trans (xpn_136 hcon.2)) hE
          refine xrun_of I (fun T hT X => ?_)
          exact X.mathMinV hx hown (by rw [xmath_n.1.2]; exact hts _ (xcalL1 _ hq1)) (by rw [xmath_n.1.2]; exact hts _ (xcalS1 _ hq1)) (by rw [← xmath_n.2.2]; exact hts _ (xini_y (by decide))) (by rw [xmath_w.2]; exact hts _ (xcode_ok 47 (List.contains_iff_mem.mp xmath_c.2))) (g := F0 m pc la (([(k0, Value.int x), (k1, Value.int z)].reverse ++ st).map (xenc ad))) rfl hlm (a := x) (b := z) (rest := st.map (xenc ad)) rfl (by rw [hbc]; exact hd) (by omega) (by show 2 * 0 + _ + 13 ≤ _; omega) cc.1 cc.2
    | true =>
      unfold xokCS at hokC
      simp only [h9] at hokC
      obtain ⟨hx, hbc, hml, hown, hts, hlk, hrt, hnm, htr⟩ := F
      have hhs : hs = [3] := of_decide_eq_true (and_r (and_r (and_r hokC)))
      subst hhs
      unfold xman at hman
      simp only at hman
      split at hman
      · rename_i ks os k1 sp kd od k2 dp k3 ln
        split at hman
        · rename_i hg
          obtain ⟨hmu, h2⟩ := xgd_ok2 hman
          split at h2
          · cases h2
          · rename_i hn
            have hkd : kd < 60 := Nat.le_of_ble_eq_true (and_l hg)
            have htc := Nat.eq_of_beq_eq_true (and_l (and_r hg))
            have ht := xcp_of (and_r (and_r hg))
            have hkd51 : kd ≠ 51 := fun e => by rw [e, xtc51] at ht; omega
            have hks51 : ks ≠ 51 := fun e => by rw [e, xtc51] at htc; rw [← htc] at ht; omega
            have hos := (xvok_lt (va (ks, .ref os) (by simp)) hks51).2
            have hod := (xvok_lt (va (kd, .ref od) (by simp)) hkd51).2
            have hmo : xmon M (xcpy M ks os kd od (ix sp) (ix dp) (ix ln)) := xmon_cpy (and_l hg)
            have n1 : gn (xcpy M ks os kd od (ix sp) (ix dp) (ix ln)) 100 0 0 = gn M 100 0 0 := gn_xcpy_ne (by omega)
            have n2 : gn (xcpy M ks os kd od (ix sp) (ix dp) (ix ln)) 100 0 1 = gn M 100 0 1 := gn_xcpy_ne (by omega)
            have e0 : (([(ks, Value.ref os), (k1, .int sp), (kd, .ref od), (k2, .int dp), (k3, .int ln)]).reverse ++ st).map (xenc ad) = .int ln :: .int dp :: .ref (ad kd od) :: .int sp :: .ref (ad ks os) :: st.map (xenc ad) := by
              show ((k3, Value.int ln) :: (k2, .int dp) :: (kd, .ref od) :: (k1, .int sp) :: (ks, .ref os) :: st).map (xenc ad) = _
              rw [List.map_cons, List.map_cons, List.map_cons, List.map_cons, List.map_cons, xenc_ref hkd51, xenc_ref hks51]
              rfl
            have hnw : nativeFrameWords "java/lang/System" "arraycopy" 5 ≤ 100 := by decide
            rw [e0]
            refine xw_copy hx hbc hlm hts hown (List.contains_iff_mem.mp (and_l hokC)) I hos hod htc rfl ht (by unfold xcst; rw [hmu]; rfl) (fun q => hn (Or.inl q)) (fun q => hn (Or.inr (Or.inl q))) (fun q => hn (Or.inr (Or.inr (Or.inl q)))) (Nat.not_lt.mp fun q => hn (Or.inr (Or.inr (Or.inr (Or.inl q))))) (Nat.not_lt.mp fun q => hn (Or.inr (Or.inr (Or.inr (Or.inr q))))) (by omega) (by omega) hd (fun H1 locs1 I1 => ?_)
            have this := kk cs ls st _ ad H1 locs1 la cells slots h2 hcs ⟨fun _ _ _ _ _ => rfl, rfl⟩ hmo I1 hl (fun v hv => (vl v hv).mon hmo) (fun v hv => (vs v hv).mon hmo) (by rw [n1]; exact hc) (by rw [n2]; exact hs9)
            rw [hnx] at this
            exact this
        · cases hman
      · cases hman
  | invokespecial j =>
    obtain ⟨hd, hnx, -⟩ := xok_dec (e := false) hok rfl
    have hnx : xpc cs = pc + 3 := hnx
    have hokC : xokCI y C pc j (y2 :: n :: t :: kx :: rk :: hs) = true := hokC
    cases h9 : Nat.beq y2 9999 with
    | false =>
      have hq := hokC
      unfold xokCI at hq
      simp only [h9] at hq
      have hY := and_l (and_l hq)
      have hkx : kx ≠ 51 := fun e => by
        have := and_r (and_l hq)
        rw [e] at this
        cases this
      rw [h9, Bool.false_or] at haw
      exact xcallM F hET Ze I hl vl va vs hr hrg hrg2 hgL hb hm0 hcs hnx hmc hmn hY hkx (Nat.le_of_ble_eq_true haw) (fun r1 rg2 hE hrets hmr hA => xrunI F I Z Ze hAA va (hM y2 rg2 as r1 (Nat.le_of_ble_eq_true (and_l (and_l hY))) (xcal_nI h9 hokC) hA hE) h9 hokC has hrcv hrets hst4 hla hd (bnd (hmc _ _ _ _ _ _ hE) hmr) hRf hRl) hman hc hs9 kk
    | true =>
      unfold xokCI at hokC
      simp only [h9] at hokC
      obtain ⟨hx, hbc, hml, hown, hts, hlk, hrt, hnm, htr⟩ := F
      have hhs : hs = [5] := of_decide_eq_true (and_r (and_r (and_r hokC)))
      subst hhs
      unfold xman at hman
      simp only at hman
      split at hman
      · rename_i k o
        obtain ⟨hg, h2⟩ := xgd_ok2 hman
        have h51 : k ≠ 51 := fun e => by rw [e] at hg; cases hg
        have e0 : (([(k, Value.ref o)]).reverse ++ st).map (xenc ad) = .ref (ad k o) :: st.map (xenc ad) := by
          show ((k, Value.ref o) :: st).map (xenc ad) = _
          rw [List.map_cons, xenc_ref h51]
        rw [e0]
        have this := kk cs ls st M ad H locs la cells slots h2 hcs ⟨fun _ _ _ _ _ => rfl, rfl⟩ (xmon_refl M) I hl vl vs hc hs9
        rw [hnx] at this
        exact W.objInit hx hbc hown (hts _ (xobj_ok _ (List.contains_iff_mem.mp (and_l hokC)))) (hts _ xobj_i) (hts _ xobj_c) (g := F0 m pc la (.ref (ad k o) :: st.map (xenc ad))) rfl hlm rfl hd (by omega) (by show 2 * 0 + _ + 12 ≤ _; omega) this
      · cases hman
  | _ => cases hi
end
section
/-! THE TABLES ARE RIGHT: every entry is what the code holds, every jump goes where it says (wip/p65/gen20.py writes this). -/
noncomputable def xokA (y : Nat) (C : List xE) : List xE → Nat → Bool
  | [], _ => true
  | [q], n => xok y C q n && xokC y C q.1 q.2.1 q.2.2.1
  | q :: q2 :: r, n => (xok y C q q2.1 && xokC y C q.1 q.2.1 q.2.2.1) && xokA y C (q2 :: r) n
theorem xokA_app {y : Nat} {C : List xE} : ∀ (a b : List xE), a ≠ [] → xokA y C a (xpc b) = true → xokT y C b = true → xokT y C (a ++ b) = true
  | [], _, h, _, _ => absurd rfl h
  | [q], b, _, h1, h2 => by
    show ((xok y C q (xpc b) && xokC y C q.1 q.2.1 q.2.2.1) && xokT y C b) = true
    rw [Bool.and_eq_true]
    exact ⟨h1, h2⟩
  | q :: q2 :: r, b, _, h1, h2 => by
    have h3 : ((xok y C q q2.1 && xokC y C q.1 q.2.1 q.2.2.1) && xokA y C (q2 :: r) (xpc b)) = true := h1
    rw [Bool.and_eq_true] at h3
    show ((xok y C q (xpc ((q2 :: r) ++ b)) && xokC y C q.1 q.2.1 q.2.2.1) && xokT y C ((q2 :: r) ++ b)) = true
    rw [Bool.and_eq_true]
    exact ⟨h3.1, xokA_app (q2 :: r) b (fun h => nomatch h) h3.2 h2⟩
noncomputable def xokG (a n : Nat) : Bool := (List.range n).all fun j => xokT (a + j) (xtab (a + j)) (xtab (a + j))
theorem xokG_ok {a n y : Nat} (h : xokG a n = true) (h1 : a ≤ y) (h2 : y < a + n) : xokT y (xtab y) (xtab y) = true := by
  have h3 := List.all_eq_true.mp h (y - a) (List.mem_range.mpr (by omega))
  rw [show a + (y - a) = y by omega] at h3
  exact h3
theorem xokg_0 : xokG 0 18 = true := by decide +kernel
theorem xokg_18 : xokG 18 6 = true := by decide +kernel
theorem xokg_24 : xokG 24 11 = true := by decide +kernel
theorem xokg_35 : xokG 35 6 = true := by decide +kernel
theorem xokg_41 : xokG 41 7 = true := by decide +kernel
theorem xokg_48 : xokG 48 12 = true := by decide +kernel
theorem xokg_60 : xokG 60 12 = true := by decide +kernel
theorem xokg_72 : xokG 72 5 = true := by decide +kernel
theorem xokg_77 : xokG 77 8 = true := by decide +kernel
theorem xokg_85 : xokG 85 10 = true := by decide +kernel
theorem xokg_95 : xokG 95 8 = true := by decide +kernel
theorem xokg_103 : xokG 103 7 = true := by decide +kernel
theorem xokg_110 : xokG 110 6 = true := by decide +kernel
theorem xokg_116 : xokG 116 10 = true := by decide +kernel
theorem xokg_126 : xokG 126 5 = true := by decide +kernel
theorem xokg_131 : xokG 131 8 = true := by decide +kernel
theorem xokg_139 : xokG 139 11 = true := by decide +kernel
theorem xokg_150 : xokG 150 14 = true := by decide +kernel
theorem xokg_164 : xokG 164 5 = true := by decide +kernel
theorem xokg_169 : xokG 169 10 = true := by decide +kernel
theorem xokg_179 : xokG 179 9 = true := by decide +kernel
theorem xokg_188 : xokG 188 7 = true := by decide +kernel
theorem xokg_195 : xokG 195 2 = true := by decide +kernel
theorem xok_tab {y : Nat} (hy : y < 197) : xokT y (xtab y) (xtab y) = true := by
  by_cases h : y < 18
  · exact xokG_ok xokg_0 (by omega) (by omega)
  by_cases h : y < 24
  · exact xokG_ok xokg_18 (by omega) (by omega)
  by_cases h : y < 35
  · exact xokG_ok xokg_24 (by omega) (by omega)
  by_cases h : y < 41
  · exact xokG_ok xokg_35 (by omega) (by omega)
  by_cases h : y < 48
  · exact xokG_ok xokg_41 (by omega) (by omega)
  by_cases h : y < 60
  · exact xokG_ok xokg_48 (by omega) (by omega)
  by_cases h : y < 72
  · exact xokG_ok xokg_60 (by omega) (by omega)
  by_cases h : y < 77
  · exact xokG_ok xokg_72 (by omega) (by omega)
  by_cases h : y < 85
  · exact xokG_ok xokg_77 (by omega) (by omega)
  by_cases h : y < 95
  · exact xokG_ok xokg_85 (by omega) (by omega)
  by_cases h : y < 103
  · exact xokG_ok xokg_95 (by omega) (by omega)
  by_cases h : y < 110
  · exact xokG_ok xokg_103 (by omega) (by omega)
  by_cases h : y < 116
  · exact xokG_ok xokg_110 (by omega) (by omega)
  by_cases h : y < 126
  · exact xokG_ok xokg_116 (by omega) (by omega)
  by_cases h : y < 131
  · exact xokG_ok xokg_126 (by omega) (by omega)
  by_cases h : y < 139
  · exact xokG_ok xokg_131 (by omega) (by omega)
  by_cases h : y < 150
  · exact xokG_ok xokg_139 (by omega) (by omega)
  by_cases h : y < 164
  · exact xokG_ok xokg_150 (by omega) (by omega)
  by_cases h : y < 169
  · exact xokG_ok xokg_164 (by omega) (by omega)
  by_cases h : y < 179
  · exact xokG_ok xokg_169 (by omega) (by omega)
  by_cases h : y < 188
  · exact xokG_ok xokg_179 (by omega) (by omega)
  by_cases h : y < 195
  · exact xokG_ok xokg_188 (by omega) (by omega)
  by_cases h : y < 197
  · exact xokG_ok xokg_195 (by omega) (by omega)
  exact absurd hy h
theorem xokT_at {y : Nat} {C : List xE} : ∀ {cs0 : List xE} (j : Nat) {q : xE} {cs : List xE}, xokT y C cs0 = true → cs0.drop j = q :: cs → xok y C q (xpc cs) = true ∧ xokC y C q.1 q.2.1 q.2.2.1 = true
  | [], j, q, cs, _, hd => by simp at hd
  | q0 :: r, 0, q, cs, h, hd => by
    simp only [List.drop_zero, List.cons.injEq] at hd
    obtain ⟨rfl, rfl⟩ := hd
    have h1 : ((xok y C q0 (xpc r) && xokC y C q0.1 q0.2.1 q0.2.2.1) && xokT y C r) = true := h
    rw [Bool.and_eq_true, Bool.and_eq_true] at h1
    exact h1.1
  | q0 :: r, j + 1, q, cs, h, hd => by
    have h1 : ((xok y C q0 (xpc r) && xokC y C q0.1 q0.2.1 q0.2.2.1) && xokT y C r) = true := h
    rw [Bool.and_eq_true] at h1
    exact xokT_at j h1.2 (by simpa using hd)
end
section
/-! EVERY FRAME DOES WHAT THE PURE MACHINE SAYS. -/
def xGoP (l : Launch) (n : Nat) : Prop := ∀ (p : Program) (e : Env) (R : Room) (s : State) (m : MethodId) (args : Array Value) (below : List Frame) (meth : Method) (c : Code) (y fc fs : Nat) (A : Nat → Prop) (ad0 : xA) (M0 : xM) (rg : Option (List (Nat × Nat))) (r : (Option xV ⊕ Nat) × xM),
  y < 197 → xFx y p l s m args meth c → (y ≠ 196 → c.exceptionTable.toList = tableOf (xhh y)) → xCe A s → (xreg y = false → ∃ L, rg = some L) → (xreg y = true → rg = none) → (∀ L, rg = some L → L.all (fun q => Nat.blt q.1 60) = true) → (∀ q, s.heap.size ≤ q → A q) →
  10 + xdp y ≤ R.frames → 240 + 40 * xdp y ≤ R.locals → fc ≤ R.cells → fs ≤ R.slots →
  ∀ (cs : List xE) (ls st : List xV) (M : xM) (ad : xA) (H : Heap) (locs : List Loc) (la : Array Slot) (cells slots : Nat),
    (∃ j, cs = (xtab y).drop j) → xexec xtab xml n (xtab y) cs ls st M = some r → xCs A ad s → xInv s A ad M s.heap H locs → xlr ad (xml y) la ls → (∀ v ∈ ls, xvok rg M v) → (∀ v ∈ st, xvok rg M v) → xrok rg M →
    (∀ k o, k < 60 → k ≠ 51 → o < xc M0 k → ad k o = ad0 k o) → xmon M0 M → cells + gn r.2 100 0 0 ≤ fc + gn M 100 0 0 → slots + gn r.2 100 0 1 ≤ fs + gn M 100 0 1 →
    W p l e R s m args below meth c H locs cells slots (vx_MQ below (xQc A ad0 M0 rg r) (xXC A ad0 M0 r) args s fc fs A) (F0 m (xpc cs) la (st.map (xenc ad)))
theorem xtab0 : (List.range 197).all (fun y => Nat.beq (xpc (xtab y)) 0) = true := by decide +kernel
theorem xpc0 {y : Nat} (h : y < 197) : xpc (xtab y) = 0 := Nat.eq_of_beq_eq_true (List.all_eq_true.mp xtab0 y (List.mem_range.mpr h))
set_option maxHeartbeats 2000000 in
theorem xMt_of {l : Launch} (hlt : l.stackTraces = false) {n : Nat} (hG : xGoP l n) {y : Nat} (hy : y < 196) (hne : y ≠ 44 ∧ y ≠ 47) {A : Nat → Prop} {ad : xA} {M : xM} {rg : Option (List (Nat × Nat))} {as : List xV} {r : (Option xV ⊕ Nat) × xM} (hA : xArg y M rg as) (h : xexec xtab xml n (xtab y) (xtab y) (xarg (xml y) as) [] M = some r) : xMt l y A ad M rg as r := by
  obtain ⟨a1, a2, a3, a4, a5, a6⟩ := hA
  have hmon := xexec_mon n h
  have m0 := hmon.2.2.2.1
  have m1 := hmon.2.2.2.2
  have hp : plainName (xY y).cls = true := (xmfact_n (Nat.lt_succ_of_lt hy)).1 hne
  have body : ∀ (p : Program) (e : Env) (s : State) (m : MethodId) (args : Array Value) (below : List Frame) (meth : Method) (c : Code) (s₁ : State), BodyLoose p l (xY y) (headSpec (xwM y) (xrm y M r)) (xCode y) (xml y) (xRet y) e s m args below meth c s₁ → c.maxLocals = xml y → c.exceptionTable.toList = tableOf (xhh y) → xPc A ad M as args s →
      W p l e (headSpec (xwM y) (xrm y M r)).room s m args below meth c s.heap [] 0 0 (vx_MQ below (xQc A ad M rg r) (xXC A ad M r) args s (gn r.2 100 0 0 - gn M 100 0 0) (gn r.2 100 0 1 - gn M 100 0 1) A) (entryFrame m args (xml y)) := by
    intro p e s m args below meth c s₁ B hml hET hP
    obtain ⟨rfl, g2, g3, g4, g5, g6, g7, g8, g9⟩ := hP
    have hts := atoms_spec (ws := xwM y) B.pre
    rw [lg_entry_eq]
    have this := hG p e (xrm y M r) s m ((as.map (xenc ad)).toArray) below meth c y (gn r.2 100 0 0 - gn M 100 0 0) (gn r.2 100 0 1 - gn M 100 0 1) A ad M rg r (Nat.lt_succ_of_lt hy) ⟨B.exec, B.bytes, hml, findClass_of_methodNamed B.named, fun w hw => hts w (List.mem_cons_of_mem _ hw), B.notSynchronized, B.returns, fun h => (name_of_methodNamed B.named B.method).1.trans h, hlt⟩ (fun _ => hET) g8 a1 a2 a4 g9 (Nat.le_refl _) (Nat.le_refl _) (Nat.le_refl _) (Nat.le_refl _)
      (xtab y) (xarg (xml y) as) [] M ad s.heap [] _ 0 0 ⟨0, rfl⟩ h g7 ⟨g2, g3, g4, g5, g6, va_S.rf⟩ (xarg_lr ad a6) (xarg_all xvok_J as _ a5) (fun v hv => nomatch hv) a3 (fun _ _ _ _ _ => rfl) (xmon_refl M) (by omega) (by omega)
    rw [xpc0 (Nat.lt_succ_of_lt hy)] at this
    exact this
  unfold xMt
  cases hem : (xhh y).isEmpty with
  | true =>
    refine vx_ofW (cc := xCode y) (maxL := xml y) (ret := xRet y) hp (xwM_n hem) (fun p e s m args below meth c s₁ B hml ht hP => body p e s m args below meth c s₁ B hml ?_ hP)
    rw [List.isEmpty_iff.mp hem]
    cases hc : c.exceptionTable.toList with
    | nil => rfl
    | cons a b => exact absurd (ht a (by rw [hc]; exact List.mem_cons_self)) id
  | false =>
    exact vx_ofWH (cc := xCode y) (maxL := xml y) (ret := xRet y) (hh := xhh y) hp (xwM_h hem) (fun p e s m args below meth c s₁ B hml hP => body p e s m args below meth c s₁ B hml (vx_table (x := xY y) B (atoms_spec (ws := xwM y) B.pre _ (by rw [xwM_h hem]; exact List.mem_cons_self))) hP)
set_option maxHeartbeats 4000000 in
theorem xGo_step {l : Launch} (hlt : l.stackTraces = false) {n : Nat} (ih : xGoP l n) : xGoP l (n + 1) := by
  intro p e R s m args below meth c y fc fs A ad0 M0 rg r hy F hET Ze hrg hrg2 hgL hAA hRf hRl hfc hfs cs ls st M ad H locs la cells slots hcs h Z I hl vl vs hr hb hm0 hc hs
  cases cs with
  | nil => cases h
  | cons q cs =>
    obtain ⟨pc, i, aux, kc⟩ := q
    obtain ⟨j, hj⟩ := hcs
    have hok := xokT_at j (xok_tab hy) hj.symm
    have hcs : ∃ j, cs = (xtab y).drop j := ⟨j + 1, by rw [← List.drop_drop, ← hj]; rfl⟩
    have hmn : ∀ (cs' : List xE) (ls' st' : List xV) (M' : xM), xexec xtab xml n (xtab y) cs' ls' st' M' = some r → xmon M' r.2 := fun _ _ _ _ h => xexec_mon n h
    replace h : xstep xtab xml (xexec xtab xml n) (xexec xtab xml n) (xtab y) ((pc, i, aux, kc) :: cs) ls st M = some r := h
    have go : ∀ (cs' : List xE) (ls' st' : List xV) (M' : xM) (ad' : xA) (H1 : Heap) (locs1 : List Loc) (la1 : Array Slot) (cells1 slots1 : Nat), xexec xtab xml n (xtab y) cs' ls' st' M' = some r → (∃ j, cs' = (xtab y).drop j) → xS0 ad ad' M → xmon M M' → xInv s A ad' M' s.heap H1 locs1 → xlr ad' (xml y) la1 ls' → (∀ v ∈ ls', xvok rg M' v) → (∀ v ∈ st', xvok rg M' v) → cells1 + gn r.2 100 0 0 ≤ fc + gn M' 100 0 0 → slots1 + gn r.2 100 0 1 ≤ fs + gn M' 100 0 1 → W p l e R s m args below meth c H1 locs1 cells1 slots1 (vx_MQ below (xQc A ad0 M0 rg r) (xXC A ad0 M0 r) args s fc fs A) (F0 m (xpc cs') la1 (st'.map (xenc ad'))) := fun cs' ls' st' M' ad' H1 locs1 la1 cells1 slots1 g1 g2 g3 g4 g5 g6 g7 g8 g9 g10 =>
      ih p e R s m args below meth c y fc fs A ad0 M0 rg r hy F hET Ze hrg hrg2 hgL hAA hRf hRl hfc hfs cs' ls' st' M' ad' H1 locs1 la1 cells1 slots1 g2 g1 (Z.s0 g3 I.2.2.2.2.1) g5 g6 g7 g8 (xrok.mon g4 hgL hr) (fun k o hk h5 ho => (g3.1 k o hk h5 (Nat.lt_of_lt_of_le ho (hm0.1 k))).trans (hb k o hk h5 ho)) (xmon_trans hm0 g4) g9 g10
    show W p l e R s m args below meth c H locs cells slots _ (F0 m pc la (st.map (xenc ad)))
    unfold xstep at h
    simp only at h
    split at h
    · rename_i ls1 st1 M1 hp
      have hmo := xpure_mon hp
      have z1 := hmo.2.2.2.1
      have z2 := hmo.2.2.2.2
      exact xpure_W F Z I hl vl vs hr hrg hok.1 hp (fun H1 locs1 la1 I1 hl1 vl1 vs1 => go cs ls1 st1 M1 ad H1 locs1 la1 cells slots h hcs ⟨fun _ _ _ _ _ => rfl, rfl⟩ hmo I1 hl1 vl1 vs1 (by omega) (by omega))
    · rename_i hpn
      cases hap : xapart_i i aux with
      | false => exact xctl_W F Z I hl vl vs hr hrg hrg2 hAA hok.1 hcs hap h hmn hc hs hfc hfs (fun cs' ls' st' M' ad' H1 locs1 la1 cells1 slots1 g1 g2 g3 => go cs' ls' st' M' ad' H1 locs1 la1 cells1 slots1 g1 g2 g3.s0)
      | true =>
        cases hre : xrets i with
        | true => exact xret_W F I vs hb hok.1 hre h hc hs
        | false =>
          cases hca : xcalls i with
          | true =>
            have hinv : xinvoke xtab xml (xexec xtab xml n) (xexec xtab xml n) aux (xtab y) cs ls st M = some r := by
              cases i <;> first | exact h | cases hca
            exact xinvoke_W F hET Z Ze I hl vl vs hr hrg hrg2 hgL hAA hb hm0 hcs hok.1 hok.2 hca hinv (fun _ _ _ _ _ _ h => xexec_mon n h) hmn hc hs hfc hfs hRf hRl (fun y2 rg2 as r1 h1 h2 h3 h4 => xMt_of hlt ih h1 h2 h3 h4) (xMx_ok n M) go
          | false =>
            cases i with
            | new k =>
              have hlen : aux.length < 3 := Nat.le_of_ble_eq_true hap
              simp only [xctl] at h
              split at h
              · rename_i E n6
                split at h
                · cases h
                  have hz : (Nat.beq n6 6 && xthL.any (fun q => Nat.beq q.1 y && (Nat.beq q.2.1 pc && Nat.beq q.2.2.1 E))) = true := hok.2
                  obtain rfl := Nat.eq_of_beq_eq_true (and_l hz)
                  obtain ⟨q, hq, hq2⟩ := List.any_eq_true.mp (and_r hz)
                  obtain ⟨qy, qp, qE, is, w⟩ := q
                  obtain rfl := Nat.eq_of_beq_eq_true (and_l hq2)
                  obtain rfl := Nat.eq_of_beq_eq_true (and_l (and_r hq2))
                  obtain rfl := Nat.eq_of_beq_eq_true (and_r (and_r hq2))
                  have h1 := List.all_eq_true.mp xths_all _ hq
                  have hne : qy ≠ 196 := fun e9 => by
                    rw [e9] at h1
                    simp only at h1
                    have := Nat.eq_of_beq_eq_true (and_l h1)
                    exact absurd this (by decide)
                  exact xthr_W F Ze.1 I hb (hET hne) hq hl.2.1 (by omega) (by omega) hc hs hfc hfs
                · cases h
              · simp only [List.length_cons, List.length_nil] at hlen
                omega
              · cases h
            | _ => first | (cases hap; done) | (cases hre; done) | (cases hca; done)
theorem xGo {l : Launch} (hlt : l.stackTraces = false) : ∀ n, xGoP l n
  | 0 => by
    intro p e R s m args below meth c y fc fs A ad0 M0 rg r hy F hET Ze hrg hrg2 hgL hAA hRf hRl hfc hfs cs ls st M ad H locs la cells slots hcs h
    cases h
  | n + 1 => xGo_step hlt (xGo hlt n)
end
section
/-! WHAT A START GIVES: the words, the constants (wip/p65/gen28.py writes this). -/
def xnm42 : List String := ["WORD", "NUMBER", "SEMICOLON", "INVALID", "END"]
def xnm43 : List String := ["RULE"]
def xstm : List (String × Nat) := [("ProjectPlanner", 52), ("ProjectPlanner", 62), ("ProjectPlanner", 70), ("ProjectPlanner", 72), ("ProjectPlanner$Setup", 50), ("ProjectPlanner$Setup", 32), ("ProjectPlanner$Setup", 93), ("ProjectPlanner$Setup", 120), ("ProjectPlannerLaw", 36), ("ProjectPlannerLaw", 51), ("ProjectPlannerLaw", 57), ("ProjectPlannerLaw", 60), ("ProjectPlannerLaw", 63)]
def xlen46 : List Nat := [0, 43, 68, 59, 7, 8, 4, 5, 8, 10, 6, 8, 2]
def xbyt : List (List Int32) := [[], [112, 114, 111, 106, 101, 99, 116, 32, 49, 59, 114, 101, 115, 111, 117, 114, 99, 101, 32, 99, 114, 101, 119, 32, 51, 59, 114, 101, 115, 111, 117, 114, 99, 101, 32, 99, 114, 97, 110, 101, 32, 49, 59], [116, 97, 115, 107, 32, 100, 105, 103, 32, 51, 32, 50, 32, 48, 59, 116, 97, 115, 107, 32, 119, 97, 108, 108, 32, 53, 32, 50, 32, 49, 32, 97, 102, 116, 101, 114, 32, 100, 105, 103, 59, 116, 97, 115, 107, 32, 114, 111, 111, 102, 32, 50, 32, 49, 32, 49, 32, 97, 102, 116, 101, 114, 32, 119, 97, 108, 108, 59], [116, 97, 115, 107, 32, 112, 105, 112, 101, 32, 52, 32, 49, 32, 48, 32, 97, 102, 116, 101, 114, 32, 100, 105, 103, 59, 116, 97, 115, 107, 32, 112, 97, 105, 110, 116, 32, 51, 32, 49, 32, 48, 32, 97, 102, 116, 101, 114, 32, 119, 97, 108, 108, 32, 112, 105, 112, 101, 59], [112, 114, 111, 106, 101, 99, 116], [114, 101, 115, 111, 117, 114, 99, 101], [116, 97, 115, 107], [97, 102, 116, 101, 114], [112, 114, 111, 106, 101, 99, 116, 32], [114, 101, 115, 111, 117, 114, 99, 101, 32, 114], [116, 97, 115, 107, 32, 116], [32, 97, 102, 116, 101, 114, 32, 116], [32, 116]]
def xdg1 : List Int32 := [48, 49, 50, 51, 52, 53, 54, 55, 56, 57, 48, 49, 50, 51, 52, 53, 54, 55, 56, 57, 48, 49, 50, 51, 52, 53, 54, 55, 56, 57, 48, 49, 50, 51, 52, 53, 54, 55, 56, 57, 48, 49, 50, 51, 52, 53, 54, 55, 56, 57, 48, 49, 50, 51, 52, 53, 54, 55, 56, 57, 48, 49, 50, 51, 52, 53, 54, 55, 56, 57, 48, 49, 50, 51, 52, 53, 54, 55, 56, 57, 48, 49, 50, 51, 52, 53, 54, 55, 56, 57, 48, 49, 50, 51, 52, 53, 54, 55, 56, 57]
def xdg10 : List Int32 := [48, 48, 48, 48, 48, 48, 48, 48, 48, 48, 49, 49, 49, 49, 49, 49, 49, 49, 49, 49, 50, 50, 50, 50, 50, 50, 50, 50, 50, 50, 51, 51, 51, 51, 51, 51, 51, 51, 51, 51, 52, 52, 52, 52, 52, 52, 52, 52, 52, 52, 53, 53, 53, 53, 53, 53, 53, 53, 53, 53, 54, 54, 54, 54, 54, 54, 54, 54, 54, 54, 55, 55, 55, 55, 55, 55, 55, 55, 55, 55, 56, 56, 56, 56, 56, 56, 56, 56, 56, 56, 57, 57, 57, 57, 57, 57, 57, 57, 57, 57]
/-- the term of a constant -/
def xtm (k o : Nat) : Term := match k with
  | 41 => .arg 0
  | 42 => .static "ProjectPlanner$TokenKind" (xget0 "" xnm42 o) "LProjectPlanner$TokenKind;"
  | 43 => .static "ProjectPlanner$CommandKind" (xget0 "" xnm43 o) "LProjectPlanner$CommandKind;"
  | 46 => .string (xget0 ("", 0) xstm o).1 (xget0 ("", 0) xstm o).2
  | 47 => .field (.string (xget0 ("", 0) xstm o).1 (xget0 ("", 0) xstm o).2) "java/lang/String" "value" "[B"
  | 48 => .static "java/lang/Integer" "DigitOnes" "[B"
  | 52 => .static "java/lang/Integer" "DigitTens" "[B"
  | _ => .arg 9
def xfmt : Term := .static "jdk/internal/util/Preconditions" "SIOOBE_FORMATTER" "Ljava/util/function/BiFunction;"
def xad0 (args : Array Value) (s : State) : xA := fun k o => match Nat.beq k 60 with
  | true => (match xfmt.eval args s none [] s with
    | some (.ref a) => a + 1
    | _ => 0)
  | false => (match (xtm k o).eval args s none [] s with
    | some (.ref a) => a
    | _ => 0)
/-- how many constants of a kind -/
def xc0 (k : Nat) : Nat := match k with
  | 41 => 1
  | 42 => 5
  | 43 => 1
  | 46 => 13
  | 47 => 13
  | 48 => 1
  | 52 => 1
  | _ => 0
/-- the store at the start -/
def xM0 (L : Nat) (xs : Nat → Int32) : xM := fun k o f => match k with
  | 101 => .ref (xc0 o)
  | 151 => .ref L
  | 157 => .ref (xnth xlen46 o)
  | 246 => .ref 1
  | 41 => .int (xs f)
  | 46 => .int 0
  | 47 => .int (xget0 0 (xget0 [] xbyt o) f)
  | 48 => .int (xget0 0 xdg1 f)
  | 52 => .int (xget0 0 xdg10 f)
  | _ => .retAddr 0
def xNw : List Cond := flatC (Jvm.Cond.and given_1 narrow_1)
theorem xNw_sub {p n : Nat} {L : List Cond} (h : L = (xNw.drop p).take n) : ∀ w ∈ L, w ∈ xNw := fun w hw => List.mem_of_mem_drop (List.mem_of_mem_take (h ▸ hw))
/-- what is written of each constant -/
def xel (t : Term) (n : Nat) (f : Nat → Term) : List Cond := (List.range n).map fun j => Cond.eq (.elem t (.int (Int32.ofNat j))) (f j)
def xw42 (o : Nat) : List Cond := [.exactly (xtm 42 o) "ProjectPlanner$TokenKind"]
def xw43 (o : Nat) : List Cond := [.exactly (xtm 43 o) "ProjectPlanner$CommandKind"]
def xw46 (o : Nat) : List Cond := [.exactly (xtm 46 o) "java/lang/String", .eq (.field (xtm 46 o) "java/lang/String" "coder" "B") (.int 0), .arrayOf (xtm 47 o) .byte, .eq (.length (xtm 47 o)) (.int (Int32.ofNat (xnth xlen46 o)))] ++ xel (xtm 47 o) (xnth xlen46 o) (fun j => .int (xget0 0 (xget0 [] xbyt o) j))
def xwar (t : Term) (ty : FieldType) (n : Nat) (f : Nat → Term) : List Cond := [.arrayOf t ty, .eq (.length t) (.int (Int32.ofNat n))] ++ xel t n f
theorem xn42_0 : xw42 0 = (xNw.drop 17).take 1 := by decide +kernel
theorem xn42_1 : xw42 1 = (xNw.drop 26).take 1 := by decide +kernel
theorem xn42_2 : xw42 2 = (xNw.drop 32).take 1 := by decide +kernel
theorem xn42_3 : xw42 3 = (xNw.drop 21).take 1 := by decide +kernel
theorem xn42_4 : xw42 4 = (xNw.drop 4).take 1 := by decide +kernel
theorem xn43_0 : xw43 0 = (xNw.drop 6).take 1 := by decide +kernel
theorem xn46_0 : xw46 0 = (xNw.drop 281).take 4 := by decide +kernel
theorem xn46_1 : xw46 1 = (xNw.drop 285).take 47 := by decide +kernel
theorem xn46_2 : xw46 2 = (xNw.drop 332).take 72 := by decide +kernel
theorem xn46_3 : xw46 3 = (xNw.drop 404).take 63 := by decide +kernel
theorem xn46_4 : xw46 4 = (xNw.drop 467).take 11 := by decide +kernel
theorem xn46_5 : xw46 5 = (xNw.drop 478).take 12 := by decide +kernel
theorem xn46_6 : xw46 6 = (xNw.drop 490).take 8 := by decide +kernel
theorem xn46_7 : xw46 7 = (xNw.drop 498).take 9 := by decide +kernel
theorem xn46_8 : xw46 8 = (xNw.drop 725).take 12 := by decide +kernel
theorem xn46_9 : xw46 9 = (xNw.drop 737).take 14 := by decide +kernel
theorem xn46_10 : xw46 10 = (xNw.drop 751).take 10 := by decide +kernel
theorem xn46_11 : xw46 11 = (xNw.drop 761).take 12 := by decide +kernel
theorem xn46_12 : xw46 12 = (xNw.drop 773).take 6 := by decide +kernel
theorem xn48 : xwar (xtm 48 0) .byte 100 (fun j => .int (xget0 0 xdg1 j)) = (xNw.drop 42).take 102 := by decide +kernel
theorem xn52 : xwar (xtm 52 0) .byte 100 (fun j => .int (xget0 0 xdg10 j)) = (xNw.drop 145).take 102 := by decide +kernel
theorem xn42 {o : Nat} (h : o < 5) : ∀ w ∈ xw42 o, w ∈ xNw := by
  have : o = 0 ∨ o = 1 ∨ o = 2 ∨ o = 3 ∨ o = 4 := by omega
  rcases this with rfl | rfl | rfl | rfl | rfl
  · exact xNw_sub xn42_0
  · exact xNw_sub xn42_1
  · exact xNw_sub xn42_2
  · exact xNw_sub xn42_3
  · exact xNw_sub xn42_4
theorem xn43 {o : Nat} (h : o < 1) : ∀ w ∈ xw43 o, w ∈ xNw := by
  have : o = 0 := by omega
  rcases this with rfl
  · exact xNw_sub xn43_0
theorem xn46 {o : Nat} (h : o < 13) : ∀ w ∈ xw46 o, w ∈ xNw := by
  have : o = 0 ∨ o = 1 ∨ o = 2 ∨ o = 3 ∨ o = 4 ∨ o = 5 ∨ o = 6 ∨ o = 7 ∨ o = 8 ∨ o = 9 ∨ o = 10 ∨ o = 11 ∨ o = 12 := by omega
  rcases this with rfl | rfl | rfl | rfl | rfl | rfl | rfl | rfl | rfl | rfl | rfl | rfl | rfl
  · exact xNw_sub xn46_0
  · exact xNw_sub xn46_1
  · exact xNw_sub xn46_2
  · exact xNw_sub xn46_3
  · exact xNw_sub xn46_4
  · exact xNw_sub xn46_5
  · exact xNw_sub xn46_6
  · exact xNw_sub xn46_7
  · exact xNw_sub xn46_8
  · exact xNw_sub xn46_9
  · exact xNw_sub xn46_10
  · exact xNw_sub xn46_11
  · exact xNw_sub xn46_12
def xdis : List (Nat × Nat) := [(0, 1), (0, 2), (0, 3), (1, 2), (3, 1), (3, 2), (4, 0), (4, 1), (4, 2), (4, 3)]
theorem xNw_map {α : Type} {f : α → Cond} (ps : List Nat) (L : List α) (h : ps.map (fun i => xNw[i]?) = L.map (fun q => some (f q))) : ∀ q ∈ L, f q ∈ xNw := fun q hq => by
  have h1 : some (f q) ∈ ps.map (fun i => xNw[i]?) := by rw [h]; exact List.mem_map.mpr ⟨q, hq, rfl⟩
  obtain ⟨i, -, hi⟩ := List.mem_map.mp h1
  exact List.mem_of_getElem? hi
theorem xdis_ok : ∀ q ∈ xdis, Cond.not (.eq (xtm 42 q.1) (xtm 42 q.2)) ∈ xNw := xNw_map [30, 36, 25, 38, 31, 37, 19, 28, 34, 23] _ (by decide +kernel)
theorem xdis_all : (List.range 5).all (fun i => (List.range 5).all (fun j => Nat.beq i j || (xdis.contains (i, j) || xdis.contains (j, i)))) = true := by decide +kernel
theorem xnc_0 : xNw[12]? = some (Cond.eq (.static "java/lang/String" "COMPACT_STRINGS" "Z") (.int 1)) := by decide +kernel
theorem xnc_1 : xNw[13]? = some (Cond.isRef xfmt) := by decide +kernel
theorem xnc_2 : xNw[39]? = some (Cond.isRef (.static Bundle.tN "UNASSIGNED_STACK" Bundle.steD)) := by decide +kernel
theorem xnc_3 : xNw[40]? = some (Cond.isRef (.static Bundle.tN "SUPPRESSED_SENTINEL" Bundle.listD)) := by decide +kernel
theorem xnc_tx : ∀ q ∈ xths, Cond.exactly (.string "ProjectPlanner" q.1) "java/lang/String" ∈ xNw := xNw_map [681, 637, 507, 809, 858, 886, 935, 960, 984, 1032, 558, 585, 616, 779, 538] _ (by decide +kernel)
def xsd : List ((Nat × Nat) × Nat) := [((11, 52), 0), ((11, 62), 1), ((11, 70), 2), ((11, 72), 3), ((12, 32), 5), ((12, 50), 4), ((12, 93), 6), ((12, 120), 7), ((13, 36), 8), ((13, 51), 9), ((13, 57), 10), ((13, 60), 11), ((13, 63), 12)]
def xse : List ((Nat × Nat) × Nat) := []
def xsf : List ((Nat × Nat) × Nat) := []
theorem xse_ok : ∀ q ∈ xse, Cond.eq (xtm 46 q.2) (.string (xcn q.1.1) q.1.2) ∈ xNw := xNw_map [] _ (by decide +kernel)
theorem xsf_ok : ∀ q ∈ xsf, Cond.eq (.string (xcn q.1.1) q.1.2) (xtm 46 q.2) ∈ xNw := xNw_map [] _ (by decide +kernel)
theorem xlds_spl : xlds.all (fun q => (xsd.contains q && (xcn q.1.1 == (xget0 ("", 0) xstm q.2).1 && Nat.beq q.1.2 (xget0 ("", 0) xstm q.2).2)) || (xse.contains q || xsf.contains q)) = true := by decide +kernel
theorem xTb_map {α : Type} {f : α → Cond} (ps : List Nat) (L : List α) (h : ps.map (fun i => xTb[i]?) = L.map (fun q => some (f q))) : ∀ q ∈ L, f q ∈ xTb := fun q hq => by
  have h1 : some (f q) ∈ ps.map (fun i => xTb[i]?) := by rw [h]; exact List.mem_map.mpr ⟨q, hq, rfl⟩
  obtain ⟨i, -, hi⟩ := List.mem_map.mp h1
  exact List.mem_of_getElem? hi
theorem xts_1 : ∀ q ∈ xlds, Cond.stringRef (xcn q.1.1) q.1.2 (xget0 "" xtxt q.2) ∈ xTb := xTb_map [291, 292, 349, 350, 419, 390, 432, 443, 919, 1087, 1090, 1092, 1094] _ (by decide +kernel)
theorem xts_2 : ∀ q ∈ xths, Cond.stringRef "ProjectPlanner" q.1 q.2 ∈ xTb := xTb_map [903, 884, 532, 1181, 1191, 1219, 1239, 1250, 1256, 1266, 684, 763, 862, 1164, 572] _ (by decide +kernel)
theorem xts_3 : ∀ q ∈ xstt, Cond.laysStatic q.1 q.2.1 q.2.2.1 ∈ xTb := xTb_map [173, 224, 306, 322, 373, 375, 384, 386, 1063, 1065] _ (by decide +kernel)
theorem xts_4 : ∀ q ∈ xstt, Cond.initialized q.1 ∈ xTb := xTb_map [29, 32, 35, 37, 29, 29, 29, 29, 47, 47] _ (by decide +kernel)
theorem xts_5 : ∀ q ∈ xgsN, Cond.fieldLinkNest (xcn q.1.1) q.1.2 (xget0 xst0 xstt q.2).1 (xget0 xst0 xstt q.2).2.1 (xget0 xst0 xstt q.2).2.2.1 "ProjectPlanner" ∈ xTb := xTb_map [] _ (by decide +kernel)
theorem xts_6 : ∀ q ∈ ["ProjectPlanner$Plan", "ProjectPlanner$Command"], Cond.arrayOver (.object q) ∈ xTb := xTb_map [135, 217] _ (by decide +kernel)
theorem xts_7 : ∀ q ∈ [("[B", "java/lang/Cloneable")], Cond.castable q.1 q.2 ∈ xTb := xTb_map [979] _ (by decide +kernel)
theorem xts_n2 : ∀ q ∈ xcal2, Cond.methodLinkNest (xcn q.1.1) q.1.2 (xY q.2.2.1) "ProjectPlanner" ∈ xTb := xTb_map [454, 365, 376, 399, 621] _ (by decide +kernel)
theorem xts_n3 : ∀ q ∈ xcal3, Cond.methodLinkNest (xcn q.1.1) q.1.2 (xY q.2.2.1) "ProjectPlanner" ∈ xTb := xTb_map [136, 156, 219, 251, 65, 150, 245] _ (by decide +kernel)
theorem xts_8 : ∀ q ∈ [(0 : Nat), 1, 2, 3], Cond.castable (xEn q) (xEn q) ∈ xTb := xTb_map [896, 493, 677, 677] _ (by decide +kernel)
theorem xts_9 : ∀ q ∈ [("UNASSIGNED_STACK", Bundle.steD), ("SUPPRESSED_SENTINEL", Bundle.listD)], Cond.laysStatic Bundle.tN q.1 q.2 ∈ xTb := xTb_map [518, 520] _ (by decide +kernel)
theorem xts_10 : ∀ q ∈ [Bundle.tN], Cond.initialized q ∈ xTb := xTb_map [48] _ (by decide +kernel)
theorem xts_11 : ([0, 1, 2, 3] : List Nat).all (fun E => (xthw E).all (fun w => !xdc w || decide (w ∈ xTb))) = true := by decide +kernel
theorem xtq_0 : (xTb[956]? = some (Cond.privateMethod ⟨"java/lang/AbstractStringBuilder", "ensureCapacityInternal", "(I)V"⟩) ∧ xTb[957]? = some (Cond.instanceMethod ⟨"java/lang/AbstractStringBuilder", "ensureCapacityInternal", "(I)V"⟩)) ∧ xTb[1288]? = some (Cond.sameMethod "java/lang/AbstractStringBuilder" "java/lang/AbstractStringBuilder" "ensureCapacityInternal" "(I)V") := by decide +kernel
theorem xtq_1 : (xTb[960]? = some (Cond.privateMethod ⟨"java/lang/AbstractStringBuilder", "newCapacity", "(I)I"⟩) ∧ xTb[961]? = some (Cond.instanceMethod ⟨"java/lang/AbstractStringBuilder", "newCapacity", "(I)I"⟩)) ∧ xTb[1289]? = some (Cond.sameMethod "java/lang/AbstractStringBuilder" "java/lang/AbstractStringBuilder" "newCapacity" "(I)I") := by decide +kernel
theorem xtq_2 : (xTb[1005]? = some (Cond.privateMethod ⟨"java/lang/AbstractStringBuilder", "putStringAt", "(ILjava/lang/String;)V"⟩) ∧ xTb[1006]? = some (Cond.instanceMethod ⟨"java/lang/AbstractStringBuilder", "putStringAt", "(ILjava/lang/String;)V"⟩)) ∧ xTb[1290]? = some (Cond.sameMethod "java/lang/AbstractStringBuilder" "java/lang/AbstractStringBuilder" "putStringAt" "(ILjava/lang/String;)V") := by decide +kernel
theorem xtq_3 : (xTb[1009]? = some (Cond.privateMethod ⟨"java/lang/AbstractStringBuilder", "inflateIfNeededFor", "(Ljava/lang/String;)V"⟩) ∧ xTb[1010]? = some (Cond.instanceMethod ⟨"java/lang/AbstractStringBuilder", "inflateIfNeededFor", "(Ljava/lang/String;)V"⟩)) ∧ xTb[1291]? = some (Cond.sameMethod "java/lang/AbstractStringBuilder" "java/lang/AbstractStringBuilder" "inflateIfNeededFor" "(Ljava/lang/String;)V") := by decide +kernel
end
section
/-! THE WORLD AT THE START. -/
theorem xsel_sub {y : MethodName} {C : String} {s : State} {args : Array Value} {n : Nat} (hy : y.cls ≠ "java/lang/invoke/MethodHandle" ∧ y.cls ≠ "java/lang/invoke/VarHandle")
    (hins : (Cond.instantiable C n).before args s = true) (hpriv : (Cond.privateMethod y).before args s = true) (hinst : (Cond.instanceMethod y).before args s = true) (hsame : (Cond.sameMethod y.cls y.cls y.name y.desc).before args s = true) :
    (Cond.selects C y y).before args s = true := by
  obtain ⟨c, k, hc, hk, -, hniab, -, -⟩ := Cond.instantiable_spec hins
  obtain ⟨cn, ck, r1, hcn, hck, hni, -, -⟩ := Cond.sameMethod_found hsame
  obtain ⟨mk, methM, hnamed, hmethM, -, -⟩ := Cond.instanceMethod_spec hinst
  have hfound : s.methodFound? y.cls y.name y.desc = some mk := State.methodFound?_of_named hnamed hy
  have hcls : mk.cls = cn := Option.some.inj ((findClass_of_methodNamed hnamed).symm.trans hcn)
  have hsel : selectMethod {} s.vm c mk = .method mk := selectMethod_private hmethM (Cond.privateMethod_at hpriv mk methM hnamed hmethM)
  simp only [Cond.before, Cond.holds, Cond.value, hc, hfound, hnamed, hsel, hcls, hck]
  simp; exact hni
theorem xts_all {args : Array Value} {s : State} (hts : ∀ w ∈ lw_tbl, w.before args s = true) : ∀ w ∈ xTb, w.before args s = true := by
  have at9 : ∀ {i : Nat} {w : Cond}, xTb[i]? = some w → 4 ≤ i → w.before args s = true := fun {i w} h hi => by
    refine hts w (List.mem_of_getElem? (i := i - 4) ?_)
    have h1 : (xwx ++ lw_tbl)[i]? = some w := h
    rw [List.getElem?_append_right (by show 4 ≤ i; exact hi)] at h1
    exact h1
  have h778 : (Cond.instantiable "java/lang/StringBuilder" 4).before args s = true := at9 xSB_new (by decide)
  intro w hw
  rcases List.mem_append.mp hw with h | h
  · rcases List.mem_cons.mp h with rfl | h
    · exact xsel_sub (y := ⟨"java/lang/AbstractStringBuilder", "ensureCapacityInternal", "(I)V"⟩) ⟨by decide, by decide⟩ h778 (at9 xtq_0.1.1 (by decide)) (at9 xtq_0.1.2 (by decide)) (at9 xtq_0.2 (by decide))
    · rcases List.mem_cons.mp h with rfl | h
      · exact xsel_sub (y := ⟨"java/lang/AbstractStringBuilder", "newCapacity", "(I)I"⟩) ⟨by decide, by decide⟩ h778 (at9 xtq_1.1.1 (by decide)) (at9 xtq_1.1.2 (by decide)) (at9 xtq_1.2 (by decide))
      · rcases List.mem_cons.mp h with rfl | h
        · exact xsel_sub (y := ⟨"java/lang/AbstractStringBuilder", "putStringAt", "(ILjava/lang/String;)V"⟩) ⟨by decide, by decide⟩ h778 (at9 xtq_2.1.1 (by decide)) (at9 xtq_2.1.2 (by decide)) (at9 xtq_2.2 (by decide))
        · rw [List.mem_singleton.mp h]
          exact xsel_sub (y := ⟨"java/lang/AbstractStringBuilder", "inflateIfNeededFor", "(Ljava/lang/String;)V"⟩) ⟨by decide, by decide⟩ h778 (at9 xtq_3.1.1 (by decide)) (at9 xtq_3.1.2 (by decide)) (at9 xtq_3.2 (by decide))
  · exact hts w h
theorem xget0_all {α : Type} {d : α} {P : α → Prop} (hd : P d) : ∀ {l : List α}, (∀ x ∈ l, P x) → ∀ i, P (xget0 d l i)
  | [], _, _ => hd
  | a :: _, h, 0 => h a List.mem_cons_self
  | _ :: r, h, i + 1 => xget0_all hd (l := r) (fun x hx => h x (List.mem_cons_of_mem _ hx)) i
section XST
variable {args : Array Value} {s : State}
theorem xref_of {k o a : Nat} (hk : k < 60) (h : (xtm k o).eval args s none [] s = some (.ref a)) : xad0 args s k o = a := by
  unfold xad0
  have : Nat.beq k 60 = false := by
    cases hb : Nat.beq k 60 with
    | false => rfl
    | true => have := Nat.eq_of_beq_eq_true hb; omega
  rw [this]
  simp only
  rw [h]
theorem xfield_of {t : Term} {a : Nat} {cell : Cell} {o n d : String} {v : Value} (ht : t.eval args s none [] s = some (.ref a)) (hc : s.heap[a]? = some cell) (hv : (Term.field t o n d).eval args s none [] s = some v) :
    (∃ (cf : ClassId) (kf : Class) (i : Nat) (fd : Field), s.fieldFound? o n d = some (cf, kf, i, fd) ∧ fd.isStatic = false ∧ cell.slots[fd.slot]? = some v) ∧ cell.vm ≠ .unknown := by
  cases hfo : s.fieldFound? o n d with
  | none =>
    rw [va_fe ht] at hv
    simp [State.fieldOf?, State.fieldNamed?, hfo] at hv
  | some x =>
    obtain ⟨cf, k, fi, f⟩ := x
    obtain ⟨g1, cell', g2, g3, g4, -, g6⟩ := Term.field_spec hfo ht hv
    cases hc.symm.trans g2
    exact ⟨⟨cf, k, fi, f, rfl, g1, g6⟩, g3⟩
theorem xOb_of {A : Nat → Prop} {M : xM} {ad : xA} {k o : Nat} {t : Term} (hA : ∀ a : Nat, a < s.heap.size → ¬ A a) (ht : t.eval args s none [] s = some (.ref (ad k o))) (hex : (Cond.exactly t (xcl k)).before args s = true) (hne : xfd k ≠ [])
    (hf : ∀ (f : Nat) (d : Nat × Nat × Nat), (xfd k)[f]? = some d → (Term.field t (xTf k f).1 (xTf k f).2.1 (xTf k f).2.2.1).eval args s none [] s = some (xfv ad M k o f d)) : xOb s A ad M s.heap k o := by
  obtain ⟨a, c, cell, k', q1, q2, q3, q4, q5, q6, -⟩ := Cond.exactly_spec (args := args) (first := s) (o := none) (s := s) (idx := []) hex
  obtain rfl : ad k o = a := by
    have h := ht.symm.trans q1
    injection h with h
    injection h
  refine ⟨cell, q3, q5, ?_, fun h => absurd h (hA _ (Array.getElem?_eq_some_iff.mp q3).1), by rw [q6]; exact q2, fun f d hd => (xfield_of ht q3 (hf f d hd)).1⟩
  cases hx : xfd k with
  | nil => exact absurd hx hne
  | cons d r => exact (xfield_of ht q3 (hf 0 d (by rw [hx]; rfl))).2
theorem xlen_of {t : Term} {a N : Nat} {cell : Cell} (hN : N < 2 ^ 31) (ht : t.eval args s none [] s = some (.ref a)) (hc : s.heap[a]? = some cell) (h : (Term.length t).eval args s none [] s = some (.int (Int32.ofNat N))) : cell.slots.size = N := by
  simp only [Term.eval, Option.bind_eq_bind, ht, Option.bind_some, Option.bind_eq_some_iff] at h
  obtain ⟨c2, h1, h2⟩ := h
  obtain ⟨h3, -⟩ := State.arrayAt?_spec h1
  cases hc.symm.trans h3
  split at h2
  · rename_i hlt
    have h4 : cell.slots.size.toInt32 = Int32.ofNat N := by
      injection h2 with h2
      injection h2
    have e1 : (Int32.ofNat cell.slots.size).toNatClampNeg = cell.slots.size := Int32.toNatClampNeg_ofNat_of_lt hlt
    have e2 : (Int32.ofNat N).toNatClampNeg = N := Int32.toNatClampNeg_ofNat_of_lt hN
    rw [← e1, ← e2]
    exact congrArg Int32.toNatClampNeg h4
  · cases h2
theorem xAr_of {A : Nat → Prop} {M : xM} {ad : xA} {k o N : Nat} {t : Term} {ty : FieldType} (hA : ∀ a : Nat, a < s.heap.size → ¬ A a) (ht : t.eval args s none [] s = some (.ref (ad k o))) (hN : N < 2 ^ 31) (harr : (Cond.arrayOf t ty).before args s = true)
    (hlen : (Term.length t).eval args s none [] s = some (.int (Int32.ofNat N))) (hl : xlen k o M = N) (hel : ∀ j : Nat, j < N → (Term.elem t (.int (Int32.ofNat j))).eval args s none [] s = some (xav ad M k o j)) : xAr s A ad M s.heap k o ty := by
  obtain ⟨t', ht', cell, h1, h2, h3, h4, h5, h6, h7⟩ := va_Tof (f := fun j => xav ad M k o j) (A := A) hN harr hlen hel hA
  obtain rfl : ad k o = t' := by
    have h := ht.symm.trans ht'
    injection h with h
    injection h
  exact ⟨cell, h1, h2, h3, fun h => absurd h h7, by rw [hl]; exact xlen_of hN ht h1 hlen, fun j hj => h6 j (by rw [← hl]; exact hj)⟩
theorem xel_at {t : Term} {n : Nat} {f : Nat → Term} {j : Nat} (hj : j < n) : Cond.eq (.elem t (.int (Int32.ofNat j))) (f j) ∈ xel t n f := List.mem_map.mpr ⟨j, List.mem_range.mpr hj, rfl⟩
theorem xex_ref {t : Term} {C : String} (hex : (Cond.exactly t C).before args s = true) : ∃ a : Nat, t.eval args s none [] s = some (.ref a) ∧ a < s.heap.size := by
  obtain ⟨a, c, cell, k', q1, q2, q3, -⟩ := Cond.exactly_spec (args := args) (first := s) (o := none) (s := s) (idx := []) hex
  exact ⟨a, q1, (Array.getElem?_eq_some_iff.mp q3).1⟩
theorem xar_ref {t : Term} {n : Int32} (h : (Cond.eq (.length t) (.int n)).before args s = true) : ∃ a : Nat, t.eval args s none [] s = some (.ref a) ∧ a < s.heap.size := by
  obtain ⟨a, cell, h1, h2, -⟩ := Term.length_spec (va_eqt h)
  exact ⟨a, h1, (Array.getElem?_eq_some_iff.mp (State.arrayAt?_spec h2).1).1⟩
theorem xc0_cs {k : Nat} (h : xc0 k ≠ 0) : k = 41 ∨ k = 42 ∨ k = 43 ∨ k = 46 ∨ k = 47 ∨ k = 48 ∨ k = 52 := by
  unfold xc0 at h
  split at h <;> simp_all
/-- the constants are where their terms say -/
theorem xad0_ok (hn : ∀ w ∈ xNw, w.before args s = true) {b : Nat} (hb : args = #[.ref b]) (hbl : b < s.heap.size) {k o : Nat} (ho : o < xc0 k) : (xtm k o).eval args s none [] s = some (.ref (xad0 args s k o)) ∧ xad0 args s k o < s.heap.size := by
  have key : ∀ (hk : k < 60), (∃ a : Nat, (xtm k o).eval args s none [] s = some (.ref a) ∧ a < s.heap.size) → (xtm k o).eval args s none [] s = some (.ref (xad0 args s k o)) ∧ xad0 args s k o < s.heap.size := fun hk ⟨a, h1, h2⟩ => by
    rw [xref_of hk h1]
    exact ⟨h1, h2⟩
  rcases xc0_cs (k := k) (by omega) with rfl | rfl | rfl | rfl | rfl | rfl | rfl
  · refine key (by decide) ⟨b, ?_, hbl⟩
    subst hb
    rfl
  · exact key (by decide) (xex_ref (hn _ (xn42 ho _ List.mem_cons_self)))
  · exact key (by decide) (xex_ref (hn _ (xn43 ho _ (List.mem_cons_self))))
  · exact key (by decide) (xex_ref (hn _ (xn46 ho _ (List.mem_cons_self))))
  · exact key (by decide) (xar_ref (hn _ (xn46 ho (.eq (.length (xtm 47 o)) (.int (Int32.ofNat (xnth xlen46 o)))) (by simp [xw46]))))
  · have : o = 0 := by have : o < 1 := ho; omega
    subst this
    exact key (by decide) (xar_ref (n := Int32.ofNat 100) (hn _ (xNw_sub xn48 _ (by simp [xwar]))))
  · have : o = 0 := by have : o < 1 := ho; omega
    subst this
    exact key (by decide) (xar_ref (n := Int32.ofNat 100) (hn _ (xNw_sub xn52 _ (by simp [xwar]))))
theorem xlen46_lt : xlen46.all (fun n => Nat.blt n 60000) = true := by decide +kernel
theorem xnth_all {P : Nat → Prop} (h0 : P 0) : ∀ {l : List Nat}, (∀ x ∈ l, P x) → ∀ i, P (xnth l i)
  | [], _, _ => h0
  | a :: _, h, 0 => h a List.mem_cons_self
  | _ :: r, h, i + 1 => xnth_all h0 (l := r) (fun x hx => h x (List.mem_cons_of_mem _ hx)) i
theorem xlen46_le (o : Nat) : xnth xlen46 o < 60000 := xnth_all (P := fun n => n < 60000) (by decide) (fun x hx => Nat.le_of_ble_eq_true (List.all_eq_true.mp xlen46_lt x hx)) o
theorem xbyt_all : xbyt.all (fun l => l.all (fun x => fits .byte (.int x))) = true ∧ (xdg1.all (fun x => fits .byte (.int x)) && xdg10.all (fun x => fits .byte (.int x))) = true := by decide +kernel
theorem xWd0 {L : Nat} {xs : Nat → Int32} (hn : ∀ w ∈ xNw, w.before args s = true) {b : Nat} (hb : args = #[.ref b]) (hbl : b < s.heap.size) (hX : va_X b L xs s s.heap) {A : Nat → Prop} (hA : ∀ a : Nat, a < s.heap.size → ¬ A a) : xWd s A (xad0 args s) (xM0 L xs) s.heap := by
  intro k o hk ho
  have ho : o < xc0 k := ho
  have hev := fun {k o : Nat} (ho : o < xc0 k) => (xad0_ok hn hb hbl (k := k) (o := o) ho).1
  have ht := hev ho
  rcases xc0_cs (k := k) (by omega) with rfl | rfl | rfl | rfl | rfl | rfl | rfl
  · refine ⟨fun h => absurd rfl h, fun ty hty => ?_⟩
    have : o = 0 := by have : o < 1 := ho; omega
    subst this
    obtain rfl : FieldType.int = ty := by injection hty
    obtain ⟨scr, h1, h2, h3, h4, h5⟩ := hX
    have e : xad0 args s 41 0 = b := xref_of (by decide) (by subst hb; rfl)
    exact ⟨scr, by rw [e]; exact h1, h2, h3, fun h => absurd h (hA _ (by rw [e]; exact hbl)), h4, fun j hj => h5 j hj⟩
  · exact ⟨fun h => absurd rfl h, fun ty hty => by cases hty⟩
  · exact ⟨fun h => absurd rfl h, fun ty hty => by cases hty⟩
  · refine ⟨fun _ => xOb_of hA ht (hn _ (xn46 ho _ List.mem_cons_self)) (by decide) (fun f d hd => ?_), fun ty hty => by cases hty⟩
    match f, hd with
    | 0, hd =>
      cases hd
      exact hev (k := 47) ho
    | 1, hd =>
      cases hd
      exact va_eqt (hn _ (xn46 ho (.eq (.field (xtm 46 o) "java/lang/String" "coder" "B") (.int 0)) (by simp [xw46])))
    | f + 2, hd => cases hd
  · refine ⟨fun h => absurd rfl h, fun ty hty => ?_⟩
    obtain rfl : FieldType.byte = ty := by injection hty
    have hl := xlen46_le o
    refine xAr_of hA ht (N := xnth xlen46 o) (by omega) (hn _ (xn46 ho (.arrayOf (xtm 47 o) .byte) (by simp [xw46]))) (va_eqt (hn _ (xn46 ho (.eq (.length (xtm 47 o)) (.int (Int32.ofNat (xnth xlen46 o)))) (by simp [xw46])))) rfl (fun j hj => ?_)
    exact va_eqt (hn _ (xn46 ho _ (List.mem_append_right _ (xel_at hj))))
  · refine ⟨fun h => absurd rfl h, fun ty hty => ?_⟩
    have : o = 0 := by have : o < 1 := ho; omega
    subst this
    obtain rfl : FieldType.byte = ty := by injection hty
    refine xAr_of hA ht (N := 100) (by decide) (hn _ (xNw_sub xn48 _ (List.mem_append_left _ List.mem_cons_self))) (va_eqt (hn _ (xNw_sub xn48 (.eq (.length (xtm 48 0)) (.int (Int32.ofNat 100))) (by simp [xwar])))) rfl (fun j hj => ?_)
    exact va_eqt (hn _ (xNw_sub xn48 _ (List.mem_append_right _ (xel_at hj))))
  · refine ⟨fun h => absurd rfl h, fun ty hty => ?_⟩
    have : o = 0 := by have : o < 1 := ho; omega
    subst this
    obtain rfl : FieldType.byte = ty := by injection hty
    refine xAr_of hA ht (N := 100) (by decide) (hn _ (xNw_sub xn52 _ (List.mem_append_left _ List.mem_cons_self))) (va_eqt (hn _ (xNw_sub xn52 (.eq (.length (xtm 52 0)) (.int (Int32.ofNat 100))) (by simp [xwar])))) rfl (fun j hj => ?_)
    exact va_eqt (hn _ (xNw_sub xn52 _ (List.mem_append_right _ (xel_at hj))))
end XST
end
section
section XST2
variable {args : Array Value} {s : State}
theorem xmut0 {k o : Nat} (ho : o < xc0 k) : xcst k o = true := by
  unfold xcst
  rcases xc0_cs (k := k) (by omega) with rfl | rfl | rfl | rfl | rfl | rfl | rfl
  · rfl
  · rfl
  · rfl
  · have ho : o < 13 := ho
    show (!Nat.ble 13 o) = true
    cases hb : Nat.ble 13 o with
    | false => rfl
    | true => have := Nat.le_of_ble_eq_true hb; omega
  · have ho : o < 13 := ho
    show (!Nat.ble 13 o) = true
    cases hb : Nat.ble 13 o with
    | false => rfl
    | true => have := Nat.le_of_ble_eq_true hb; omega
  · rfl
  · rfl
theorem xAp0 {L : Nat} {xs : Nat → Int32} (hn : ∀ w ∈ xNw, w.before args s = true) {b : Nat} (hb : args = #[.ref b]) (hbl : b < s.heap.size) {A : Nat → Prop} (hA : ∀ a : Nat, a < s.heap.size → ¬ A a) : xAp A (xad0 args s) (xM0 L xs) := by
  refine ⟨fun k o hk ho => ?_, fun k o k' o' hk hk' ho ho' _ _ hc _ _ => ?_, fun o o' ho ho' e => ?_⟩
  · have ho : o < xc0 k := ho
    rw [xmut0 ho]
    exact ⟨fun h => absurd h (hA _ (xad0_ok hn hb hbl ho).2), fun h => by cases h⟩
  · have ho : o < xc0 k := ho
    rw [xmut0 ho] at hc
    cases hc
  · have ho : o < 5 := ho
    have ho' : o' < 5 := ho'
    by_cases hij : o = o'
    · exact hij
    · have h1 := List.all_eq_true.mp (List.all_eq_true.mp xdis_all o (List.mem_range.mpr ho)) o' (List.mem_range.mpr ho')
      have e1 := (xad0_ok hn hb hbl (k := 42) ho).1
      have e2 := (xad0_ok hn hb hbl (k := 42) ho').1
      rcases (Bool.or_eq_true _ _).mp h1 with h | h
      · exact absurd (Nat.eq_of_beq_eq_true h) hij
      · rcases (Bool.or_eq_true _ _).mp h with h | h
        · exact absurd e (va_neR (hn _ (xdis_ok _ (List.contains_iff_mem.mp h))) e1 e2)
        · exact absurd e.symm (va_neR (hn _ (xdis_ok _ (List.contains_iff_mem.mp h))) e2 e1)
theorem xWT0 {L : Nat} {xs : Nat → Int32} : xWT (xM0 L xs) := by
  refine ⟨fun k o f t tk tw hk ho hd ht hf => ?_, fun k o tk tw j hk ho hae hj hf => ?_⟩
  · have ho : o < xc0 k := ho
    show xtg t tw o _ < xc0 tk
    rcases xc0_cs (k := k) (by omega) with rfl | rfl | rfl | rfl | rfl | rfl | rfl
    · cases hd
    · cases hd
    · cases hd
    · have ho : o < 13 := ho
      match f, hd with
      | 0, hd => cases hd; show o < 13; exact ho
      | 1, hd => cases hd; omega
      | f + 2, hd => cases hd
    · cases hd
    · cases hd
    · cases hd
  · have ho : o < xc0 k := ho
    show j + tw < xc0 tk
    rcases xc0_cs (k := k) (by omega) with rfl | rfl | rfl | rfl | rfl | rfl | rfl
    · cases hae
    · cases hae
    · cases hae
    · cases hae
    · cases hae
    · cases hae
    · cases hae
theorem xBt0 {L : Nat} {xs : Nat → Int32} (hL : L ≤ 260) : xBt (xM0 L xs) := by
  refine ⟨fun k o j ht ho => ?_, fun k o hy hk ho => ?_⟩
  · have ho : o < xc0 k := ho
    have f0 : fits .byte (.int 0) = true := by decide
    rcases xc0_cs (k := k) (by omega) with rfl | rfl | rfl | rfl | rfl | rfl | rfl
    · cases ht
    · cases ht
    · cases ht
    · cases ht
    · show fits .byte (.int (xget0 0 (xget0 [] xbyt o) j)) = true
      refine xget0_all (P := fun x => fits .byte (.int x) = true) f0 (fun x hx => ?_) j
      have h1 := xget0_all (d := ([] : List Int32)) (P := fun l => ∀ x ∈ l, fits .byte (.int x) = true) (fun x hx => nomatch hx) (l := xbyt) (fun l hl x hx => List.all_eq_true.mp (List.all_eq_true.mp xbyt_all.1 l hl) x hx) o
      exact h1 x hx
    · show fits .byte (.int (xget0 0 xdg1 j)) = true
      exact xget0_all (P := fun x => fits .byte (.int x) = true) f0 (fun x hx => List.all_eq_true.mp (and_l xbyt_all.2) x hx) j
    · show fits .byte (.int (xget0 0 xdg10 j)) = true
      exact xget0_all (P := fun x => fits .byte (.int x) = true) f0 (fun x hx => List.all_eq_true.mp (and_r xbyt_all.2) x hx) j
  · have ho : o < xc0 k := ho
    rcases xc0_cs (k := k) (by omega) with rfl | rfl | rfl | rfl | rfl | rfl | rfl
    · show L ≤ 65536
      omega
    · cases hy
    · cases hy
    · cases hy
    · have := xlen46_le o
      show xnth xlen46 o ≤ 65536
      omega
    · cases hy
    · cases hy
theorem xK0 {L : Nat} {xs : Nat → Int32} : xK (xM0 L xs) := ⟨Nat.le_refl 5, Nat.le_refl 1, Nat.zero_le _, Nat.zero_le _, Nat.le_refl 13, Nat.le_refl 13, Nat.le_refl 1, Nat.le_refl 1⟩
theorem xnc_ev (hn : ∀ w ∈ xNw, w.before args s = true) : ∀ q ∈ xstt, (Term.static q.1 q.2.1 q.2.2.1) = xtm q.2.2.2.1 (match q.2.2.2.2 with
  | .ref o => o
  | _ => 0) ∨ q.2.2.2.1 = 0 ∨ q.2.2.2.1 = 51 := by
  intro q hq
  have h : xstt.all (fun q => decide ((Term.static q.1 q.2.1 q.2.2.1) = xtm q.2.2.2.1 (match q.2.2.2.2 with
    | .ref o => o
    | _ => 0)) || (Nat.beq q.2.2.2.1 0 || Nat.beq q.2.2.2.1 51)) = true := by decide +kernel
  rcases (Bool.or_eq_true _ _).mp (List.all_eq_true.mp h q hq) with h | h
  · exact Or.inl (of_decide_eq_true h)
  · rcases (Bool.or_eq_true _ _).mp h with h | h
    · exact Or.inr (Or.inl (Nat.eq_of_beq_eq_true h))
    · exact Or.inr (Or.inr (Nat.eq_of_beq_eq_true h))
theorem xstt_0 : xstt.all (fun q => match q.2.2.2 with
  | (51, .ref o) => Nat.beq o 0 && decide ((Term.static q.1 q.2.1 q.2.2.1) = xfmt)
  | (0, .int x) => decide (x = 1) && decide ((Term.static q.1 q.2.1 q.2.2.1) = Term.static "java/lang/String" "COMPACT_STRINGS" "Z")
  | (k, .ref o) => Nat.blt o (xc0 k) && Nat.blt k 60
  | _ => false) = true := by decide +kernel
theorem xfmt_ev (hn : ∀ w ∈ xNw, w.before args s = true) : xfmt.eval args s none [] s = some (xenc (xad0 args s) (51, .ref 0)) := by
  have h := hn _ (List.mem_of_getElem? xnc_1)
  unfold xenc
  show _ = some (match xad0 args s 60 0 with
    | 0 => Value.null
    | n + 1 => .ref n)
  have e : xad0 args s 60 0 = (match xfmt.eval args s none [] s with
    | some (.ref a) => a + 1
    | _ => 0) := rfl
  rw [e]
  cases hv : xfmt.eval args s none [] s with
  | none => simp [Cond.before, Cond.holds, Cond.value, hv] at h
  | some v =>
    simp only [Cond.before, Cond.holds, Cond.value, hv] at h
    cases v with
    | ref a => rfl
    | null => rfl
    | _ => simp [Value.isRef] at h
theorem xCs0 (hw : ∀ w ∈ xTb, w.before args s = true) (hn : ∀ w ∈ xNw, w.before args s = true) {b : Nat} (hb : args = #[.ref b]) (hbl : b < s.heap.size) {A : Nat → Prop} (hA : ∀ a : Nat, a < s.heap.size → ¬ A a) : xCs A (xad0 args s) s := by
  refine ⟨fun q hq => ?_, fun q hq => ?_, fun q hq => ?_, va_AO.of (A := args) (hw _ (xts_6 _ List.mem_cons_self)), va_AO.of (A := args) (hw _ (xts_6 _ (List.mem_cons_of_mem _ List.mem_cons_self))), va_Nw.of rfl (A := args) (hw _ (xts_7 _ List.mem_cons_self)), fun q hq => va_Nw.of rfl (A := args) (hw _ (xts_n2 q hq)), fun q hq => va_Nw.of rfl (A := args) (hw _ (xts_n3 q hq))⟩
  · refine vk_R.of (A := args) (hw _ (xts_1 q hq)) ?_
    have h18 : q.2 < 13 := Nat.le_of_ble_eq_true (List.all_eq_true.mp xlds_lt q hq)
    have ev : (xtm 46 q.2).eval args s none [] s = some (.ref (xad0 args s 46 q.2)) := (xad0_ok hn hb hbl (k := 46) h18).1
    have h1 := List.all_eq_true.mp xlds_spl q hq
    rcases (Bool.or_eq_true _ _).mp h1 with h | h
    · have e1 : xcn q.1.1 = (xget0 ("", 0) xstm q.2).1 := by simpa using and_l (and_r h)
      have e2 : q.1.2 = (xget0 ("", 0) xstm q.2).2 := Nat.eq_of_beq_eq_true (and_r (and_r h))
      rw [e1, e2]
      exact ev
    · rcases (Bool.or_eq_true _ _).mp h with h | h
      · have h2 := hn _ (xse_ok q (List.contains_iff_mem.mp h))
        cases hv : (Term.string (xcn q.1.1) q.1.2).eval args s none [] s with
        | none => simp [Cond.before, Cond.holds, Cond.value, hv, ev] at h2
        | some v =>
          have h3 := va_eqv h2 hv
          rw [ev] at h3
          exact h3.symm
      · exact va_eqv (hn _ (xsf_ok q (List.contains_iff_mem.mp h))) ev
  · refine va_Zof (hw _ (xts_3 q hq)) (hw _ (xts_4 q hq)) ?_ hA
    have h0 := List.all_eq_true.mp xstt_0 q hq
    have hk := xnc_ev hn q hq
    obtain ⟨c, n, d, k, v⟩ := q
    show (Term.static c n d).eval args s none [] s = some (xenc (xad0 args s) (k, v))
    simp only at h0 hk
    split at h0
    · rename_i o e
      cases e
      obtain rfl := Nat.eq_of_beq_eq_true (and_l h0)
      rw [of_decide_eq_true (and_r h0)]
      exact xfmt_ev hn
    · rename_i x e
      cases e
      have e1 : x = 1 := of_decide_eq_true (and_l h0)
      show (Term.static c n d).eval args s none [] s = some (.int x)
      rw [of_decide_eq_true (and_r h0), e1]
      exact va_eqi (hn _ (List.mem_of_getElem? xnc_0))
    · rename_i k2 o hne e
      cases e
      have hlt : o < xc0 k := Nat.le_of_ble_eq_true (and_l h0)
      have h51 : k ≠ 51 := fun e => by
        subst e
        exact absurd hlt (Nat.not_lt_zero _)
      have hk0 : k ≠ 0 := fun e => by
        subst e
        exact absurd hlt (Nat.not_lt_zero _)
      rcases hk with hk | hk | hk
      · rw [xenc_ref h51, hk]
        exact (xad0_ok hn hb hbl hlt).1
      · exact absurd hk hk0
      · exact absurd hk h51
    · cases h0
  · exact va_Nw.of rfl (A := args) (hw _ (xts_5 q hq))
theorem xCe0 (hw : ∀ w ∈ xTb, w.before args s = true) (hn : ∀ w ∈ xNw, w.before args s = true) {A : Nat → Prop} (hA : ∀ a : Nat, a < s.heap.size → ¬ A a) : xCe A s := by
  refine ⟨⟨fun q hq => ?_, vx_Zqof (hw _ (xts_9 _ List.mem_cons_self)) (hw _ (xts_10 _ List.mem_cons_self)) (hn _ (List.mem_of_getElem? xnc_2)) hA, vx_Zqof (hw _ (xts_9 _ (List.mem_cons_of_mem _ List.mem_cons_self))) (hw _ (xts_10 _ List.mem_cons_self)) (hn _ (List.mem_of_getElem? xnc_3)) hA, fun E E' h1 h2 h3 => ?_, fun E hE w hw9 hx => ?_⟩, fun E hE => va_Nw.of rfl (A := args) (hw _ (xts_8 E (xE4 hE)))⟩
  · obtain ⟨a, h1, -⟩ := xex_ref (hn _ (xnc_tx q hq))
    exact ⟨a, vk_R.of (A := args) (hw _ (xts_2 q hq)) h1⟩
  · exact absurd h1 (Nat.not_lt_zero _)
  · have h1 := List.all_eq_true.mp (List.all_eq_true.mp xts_11 E hE) w hw9
    rw [hx] at h1
    have hm : w ∈ xTb := of_decide_eq_true h1
    exact va_Nw.of (by unfold xdc at hx; split at hx <;> first | rfl | cases hx) (A := args) (hw _ hm)
end XST2
end
section
/-! the methods and their blocks, as functions over a store; what each does up to the next call, mark or end -/
noncomputable abbrev xE_ : xP := xEv xtab xml
noncomputable def m_P_init (a1 : Nat) (M : xM) : xR := xE_ T_P_init T_P_init [(2, .ref a1)] [] M
noncomputable def m_H_init (a1 : Nat) (M : xM) : xR := xE_ T_H_init T_H_init [(17, .ref a1), xJ] [] M
noncomputable def b_H_init_9 (v0 : Nat) (v1 : Int32) (M : xM) : xR := xE_ T_H_init (T_H_init.drop 9) [(17, .ref v0), (0, .int v1)] [] M
noncomputable def m_I_init (a1 : Nat) (M : xM) : xR := xE_ T_I_init T_I_init [(19, .ref a1)] [] M
noncomputable def m_T_init (a1 : Nat) (M : xM) : xR := xE_ T_T_init T_T_init [(21, .ref a1)] [] M
noncomputable def m_K_init (a1 : Nat) (M : xM) : xR := xE_ T_K_init T_K_init [(24, .ref a1)] [] M
noncomputable def m_R_init (a1 : Nat) (M : xM) : xR := xE_ T_R_init T_R_init [(22, .ref a1), xJ] [] M
noncomputable def b_R_init_9 (v0 : Nat) (v1 : Int32) (M : xM) : xR := xE_ T_R_init (T_R_init.drop 9) [(22, .ref v0), (0, .int v1)] [] M
noncomputable def m_D_init (a1 : Nat) (M : xM) : xR := xE_ T_D_init T_D_init [(10, .ref a1)] [] M
noncomputable def m_S_init (a1 : Nat) (M : xM) : xR := xE_ T_S_init T_S_init [(15, .ref a1)] [] M
noncomputable def m_JS_coder (a1 : Nat) (M : xM) : xR := xE_ T_JS_coder T_JS_coder [(46, .ref a1)] [] M
noncomputable def m_JS_length (a1 : Nat) (M : xM) : xR := xE_ T_JS_length T_JS_length [(46, .ref a1)] [] M
noncomputable def m_JS_isLatin1 (a1 : Nat) (M : xM) : xR := xE_ T_JS_isLatin1 T_JS_isLatin1 [(46, .ref a1)] [] M
noncomputable def m_JPreconditions_checkIndex (a1 : Int32) (a2 : Int32) (a3 : Nat) (M : xM) : xR := xE_ T_JPreconditions_checkIndex T_JPreconditions_checkIndex [(0, .int a1), (0, .int a2), (51, .ref a3)] [] M
noncomputable def m_JS_checkIndex (a1 : Int32) (a2 : Int32) (M : xM) : xR := xE_ T_JS_checkIndex T_JS_checkIndex [(0, .int a1), (0, .int a2)] [] M
noncomputable def m_JL_charAt (a1 : Nat) (a2 : Int32) (M : xM) : xR := xE_ T_JL_charAt T_JL_charAt [(47, .ref a1), (0, .int a2)] [] M
noncomputable def m_JS_charAt (a1 : Nat) (a2 : Int32) (M : xM) : xR := xE_ T_JS_charAt T_JS_charAt [(46, .ref a1), (0, .int a2)] [] M
noncomputable def m_I_putByte (a1 : Nat) (a2 : Int32) (M : xM) : xR := xE_ T_I_putByte T_I_putByte [(19, .ref a1), (0, .int a2)] [] M
noncomputable def m_I_putText (a1 : Nat) (a2 : Nat) (M : xM) : xR := xE_ T_I_putText T_I_putText [(19, .ref a1), (46, .ref a2), xJ] [] M
noncomputable def b_I_putText_3 (v0 : Nat) (v1 : Nat) (v2 : Int32) (M : xM) : xR := xE_ T_I_putText (T_I_putText.drop 3) [(19, .ref v0), (46, .ref v1), (0, .int v2)] [] M
noncomputable def m_T_isSeparator (a1 : Int32) (M : xM) : xR := xE_ T_T_isSeparator T_T_isSeparator [(0, .int a1)] [] M
noncomputable def m_C_isLetter (a1 : Int32) (M : xM) : xR := xE_ T_C_isLetter T_C_isLetter [(0, .int a1)] [] M
noncomputable def m_T_scanWord (a1 : Nat) (M : xM) : xR := xE_ T_T_scanWord T_T_scanWord [(21, .ref a1)] [] M
noncomputable def b_T_scanWord_1 (v0 : Nat) (M : xM) : xR := xE_ T_T_scanWord (T_T_scanWord.drop 1) [(21, .ref v0)] [] M
noncomputable def m_C_isDigit (a1 : Int32) (M : xM) : xR := xE_ T_C_isDigit T_C_isDigit [(0, .int a1)] [] M
noncomputable def m_T_scanNumber (a1 : Nat) (M : xM) : xR := xE_ T_T_scanNumber T_T_scanNumber [(21, .ref a1)] [] M
noncomputable def b_T_scanNumber_1 (v0 : Nat) (M : xM) : xR := xE_ T_T_scanNumber (T_T_scanNumber.drop 1) [(21, .ref v0)] [] M
noncomputable def m_T_advance (a1 : Nat) (M : xM) : xR := xE_ T_T_advance T_T_advance [(21, .ref a1)] [] M
noncomputable def b_T_advance_5 (v0 : Nat) (M : xM) : xR := xE_ T_T_advance (T_T_advance.drop 5) [(21, .ref v0)] [] M
noncomputable def m_T_open (a1 : Nat) (M : xM) : xR := xE_ T_T_open T_T_open [(21, .ref a1)] [] M
noncomputable def m_C_packed (a1 : Nat) (M : xM) : xR := xE_ T_C_packed T_C_packed [(46, .ref a1), xJ, xJ, xJ] [] M
noncomputable def b_C_packed_5 (v0 : Nat) (v1 : Int64) (v3 : Int32) (M : xM) : xR := xE_ T_C_packed (T_C_packed.drop 5) [(46, .ref v0), (0, .long v1), xJ, (0, .int v3)] [] M
noncomputable def m_T_isAt (a1 : Nat) (a2 : Nat) (M : xM) : xR := xE_ T_T_isAt T_T_isAt [(21, .ref a1), (46, .ref a2)] [] M
noncomputable def m_T_fail (a1 : Nat) (a2 : Int32) (M : xM) : xR := xE_ T_T_fail T_T_fail [(21, .ref a1), (0, .int a2)] [] M
noncomputable def m_T_takeOpening (a1 : Nat) (a2 : Nat) (a3 : Int32) (M : xM) : xR := xE_ T_T_takeOpening T_T_takeOpening [(21, .ref a1), (46, .ref a2), (0, .int a3)] [] M
noncomputable def m_T_takeNumber (a1 : Nat) (a2 : Int32) (a3 : Int32) (M : xM) : xR := xE_ T_T_takeNumber T_T_takeNumber [(21, .ref a1), (0, .int a2), (0, .int a3)] [] M
noncomputable def m_T_takeSemicolon (a1 : Nat) (M : xM) : xR := xE_ T_T_takeSemicolon T_T_takeSemicolon [(21, .ref a1)] [] M
noncomputable def m_U_readHead (a1 : Nat) (a2 : Nat) (M : xM) : xR := xE_ T_U_readHead T_U_readHead [(21, .ref a1), (2, .ref a2)] [] M
noncomputable def m_P_resourceNamed (a1 : Nat) (a2 : Int64) (M : xM) : xR := xE_ T_P_resourceNamed T_P_resourceNamed [(2, .ref a1), (0, .long a2), xJ, xJ] [] M
noncomputable def b_P_resourceNamed_3 (v0 : Nat) (v1 : Int64) (v3 : Int32) (M : xM) : xR := xE_ T_P_resourceNamed (T_P_resourceNamed.drop 3) [(2, .ref v0), (0, .long v1), xJ, (0, .int v3)] [] M
noncomputable def m_T_takeNewName (a1 : Nat) (a2 : Int32) (M : xM) : xR := xE_ T_T_takeNewName T_T_takeNewName [(21, .ref a1), (0, .int a2)] [] M
noncomputable def m_U_readResource (a1 : Nat) (a2 : Nat) (M : xM) : xR := xE_ T_U_readResource T_U_readResource [(21, .ref a1), (2, .ref a2), xJ] [] M
noncomputable def m_P_taskNamed (a1 : Nat) (a2 : Int64) (M : xM) : xR := xE_ T_P_taskNamed T_P_taskNamed [(2, .ref a1), (0, .long a2), xJ, xJ] [] M
noncomputable def b_P_taskNamed_3 (v0 : Nat) (v1 : Int64) (v3 : Int32) (M : xM) : xR := xE_ T_P_taskNamed (T_P_taskNamed.drop 3) [(2, .ref v0), (0, .long v1), xJ, (0, .int v3)] [] M
noncomputable def m_U_readDemands (a1 : Nat) (a2 : Nat) (a3 : Int32) (M : xM) : xR := xE_ T_U_readDemands T_U_readDemands [(21, .ref a1), (2, .ref a2), (0, .int a3), xJ] [] M
noncomputable def b_U_readDemands_3 (v0 : Nat) (v1 : Nat) (v2 : Int32) (v3 : Int32) (M : xM) : xR := xE_ T_U_readDemands (T_U_readDemands.drop 3) [(21, .ref v0), (2, .ref v1), (0, .int v2), (0, .int v3)] [] M
noncomputable def m_T_isAtKnownName (a1 : Nat) (a2 : Int32) (M : xM) : xR := xE_ T_T_isAtKnownName T_T_isAtKnownName [(21, .ref a1), (0, .int a2)] [] M
noncomputable def m_C_contains (a1 : Int32) (a2 : Int32) (M : xM) : xR := xE_ T_C_contains T_C_contains [(0, .int a1), (0, .int a2)] [] M
noncomputable def m_P_isLinked (a1 : Nat) (a2 : Int32) (a3 : Int32) (M : xM) : xR := xE_ T_P_isLinked T_P_isLinked [(2, .ref a1), (0, .int a2), (0, .int a3)] [] M
noncomputable def m_U_readLinks (a1 : Nat) (a2 : Nat) (a3 : Int32) (M : xM) : xR := xE_ T_U_readLinks T_U_readLinks [(21, .ref a1), (2, .ref a2), (0, .int a3), xJ, xJ] [] M
noncomputable def b_U_readLinks_11 (v0 : Nat) (v1 : Nat) (v2 : Int32) (v3 : Int32) (M : xM) : xR := xE_ T_U_readLinks (T_U_readLinks.drop 11) [(21, .ref v0), (2, .ref v1), (0, .int v2), (0, .int v3), xJ] [] M
noncomputable def m_U_readTask (a1 : Nat) (a2 : Nat) (M : xM) : xR := xE_ T_U_readTask T_U_readTask [(21, .ref a1), (2, .ref a2), xJ] [] M
noncomputable def m_U_read (a1 : Nat) (a2 : Nat) (M : xM) : xR := xE_ T_U_read T_U_read [(21, .ref a1), (2, .ref a2), xJ, xJ] [] M
noncomputable def b_U_read_23 (v0 : Nat) (v1 : Nat) (v2 : Int32) (v3 : Int32) (M : xM) : xR := xE_ T_U_read (T_U_read.drop 23) [(21, .ref v0), (2, .ref v1), (0, .int v2), (0, .int v3)] [] M
noncomputable def b_U_read_51 (v0 : Nat) (v1 : Nat) (v2 : Int32) (v3 : Int32) (M : xM) : xR := xE_ T_U_read (T_U_read.drop 51) [(21, .ref v0), (2, .ref v1), (0, .int v2), (0, .int v3)] [] M
noncomputable def m_C_init (a1 : Nat) (M : xM) : xR := xE_ T_C_init T_C_init [(1, .ref a1), xJ, xJ] [] M
noncomputable def b_C_init_41 (v0 : Nat) (v1 : Int32) (M : xM) : xR := xE_ T_C_init (T_C_init.drop 41) [(1, .ref v0), (0, .int v1), xJ] [] M
noncomputable def m_L_pick (a1 : Nat) (a2 : Int32) (a3 : Int32) (M : xM) : xR := xE_ T_L_pick T_L_pick [(41, .ref a1), (0, .int a2), (0, .int a3)] [] M
noncomputable def m_JM_max (a1 : Int32) (a2 : Int32) (M : xM) : xR := xE_ T_JM_max T_JM_max [(0, .int a1), (0, .int a2)] [] M
noncomputable def m_JP_newLength (a1 : Int32) (a2 : Int32) (a3 : Int32) (M : xM) : xR := xE_ T_JP_newLength T_JP_newLength [(0, .int a1), (0, .int a2), (0, .int a3), xJ] [] M
noncomputable def m_JA_newCapacity (a1 : Nat) (a2 : Int32) (M : xM) : xR := xE_ T_JA_newCapacity T_JA_newCapacity [(50, .ref a1), (0, .int a2), xJ, xJ, xJ, xJ] [] M
noncomputable def m_JM_min (a1 : Int32) (a2 : Int32) (M : xM) : xR := xE_ T_JM_min T_JM_min [(0, .int a1), (0, .int a2)] [] M
noncomputable def m_JR_copyOf (a1 : Nat) (a2 : Int32) (M : xM) : xR := xE_ T_JR_copyOf T_JR_copyOf [(49, .ref a1), (0, .int a2), xJ] [] M
noncomputable def m_JA_ensureCapacityInternal (a1 : Nat) (a2 : Int32) (M : xM) : xR := xE_ T_JA_ensureCapacityInternal T_JA_ensureCapacityInternal [(50, .ref a1), (0, .int a2), xJ] [] M
noncomputable def m_JA_inflateIfNeededFor (a1 : Nat) (a2 : Nat) (M : xM) : xR := xE_ T_JA_inflateIfNeededFor T_JA_inflateIfNeededFor [(50, .ref a1), (46, .ref a2)] [] M
noncomputable def m_JS_getBytes (a1 : Nat) (a2 : Nat) (a3 : Int32) (a4 : Int32) (M : xM) : xR := xE_ T_JS_getBytes T_JS_getBytes [(46, .ref a1), (49, .ref a2), (0, .int a3), (0, .int a4)] [] M
noncomputable def m_JA_putStringAt (a1 : Nat) (a2 : Int32) (a3 : Nat) (M : xM) : xR := xE_ T_JA_putStringAt T_JA_putStringAt [(50, .ref a1), (0, .int a2), (46, .ref a3)] [] M
noncomputable def m_JA_append_0 (a1 : Nat) (a2 : Nat) (M : xM) : xR := xE_ T_JA_append_0 T_JA_append_0 [(50, .ref a1), (46, .ref a2), xJ] [] M
noncomputable def m_JB_append_0 (a1 : Nat) (a2 : Nat) (M : xM) : xR := xE_ T_JB_append_0 T_JB_append_0 [(50, .ref a1), (46, .ref a2)] [] M
noncomputable def m_JB_append_1 (a1 : Nat) (a2 : Nat) (M : xM) : xR := xE_ T_JB_append_1 T_JB_append_1 [(50, .ref a1), (46, .ref a2)] [] M
noncomputable def m_JA_init (a1 : Nat) (a2 : Nat) (M : xM) : xR := xE_ T_JA_init T_JA_init [(50, .ref a1), (46, .ref a2), xJ, xJ, xJ] [] M
noncomputable def m_JB_init (a1 : Nat) (a2 : Nat) (M : xM) : xR := xE_ T_JB_init T_JB_init [(50, .ref a1), (46, .ref a2)] [] M
noncomputable def m_JI_stringSize (a1 : Int32) (M : xM) : xR := xE_ T_JI_stringSize T_JI_stringSize [(0, .int a1), xJ, xJ, xJ] [] M
noncomputable def b_JI_stringSize_14 (v0 : Int32) (v1 : Int32) (v2 : Int32) (v3 : Int32) (M : xM) : xR := xE_ T_JI_stringSize (T_JI_stringSize.drop 14) [(0, .int v0), (0, .int v1), (0, .int v2), (0, .int v3)] [] M
noncomputable def m_JA_isLatin1 (a1 : Nat) (M : xM) : xR := xE_ T_JA_isLatin1 T_JA_isLatin1 [(50, .ref a1)] [] M
noncomputable def m_JI_getChars (a1 : Int32) (a2 : Int32) (a3 : Nat) (M : xM) : xR := xE_ T_JI_getChars T_JI_getChars [(0, .int a1), (0, .int a2), (49, .ref a3), xJ, xJ, xJ, xJ] [] M
noncomputable def b_JI_getChars_14 (v0 : Int32) (v2 : Nat) (v5 : Int32) (v6 : Int32) (M : xM) : xR := xE_ T_JI_getChars (T_JI_getChars.drop 14) [(0, .int v0), xJ, (49, .ref v2), xJ, xJ, (0, .int v5), (0, .int v6)] [] M
noncomputable def m_JA_append_1 (a1 : Nat) (a2 : Int32) (M : xM) : xR := xE_ T_JA_append_1 T_JA_append_1 [(50, .ref a1), (0, .int a2), xJ, xJ] [] M
noncomputable def m_JB_append_2 (a1 : Nat) (a2 : Int32) (M : xM) : xR := xE_ T_JB_append_2 T_JB_append_2 [(50, .ref a1), (0, .int a2)] [] M
noncomputable def m_JL_canEncode (a1 : Int32) (M : xM) : xR := xE_ T_JL_canEncode T_JL_canEncode [(0, .int a1)] [] M
noncomputable def m_JA_append_2 (a1 : Nat) (a2 : Int32) (M : xM) : xR := xE_ T_JA_append_2 T_JA_append_2 [(50, .ref a1), (0, .int a2)] [] M
noncomputable def m_JB_append_3 (a1 : Nat) (a2 : Int32) (M : xM) : xR := xE_ T_JB_append_3 T_JB_append_3 [(50, .ref a1), (0, .int a2)] [] M
noncomputable def m_JA_getValue (a1 : Nat) (M : xM) : xR := xE_ T_JA_getValue T_JA_getValue [(50, .ref a1)] [] M
noncomputable def m_JA_length (a1 : Nat) (M : xM) : xR := xE_ T_JA_length T_JA_length [(50, .ref a1)] [] M
noncomputable def m_JB_length (a1 : Nat) (M : xM) : xR := xE_ T_JB_length T_JB_length [(50, .ref a1)] [] M
noncomputable def m_JR_checkLength (a1 : Int32) (a2 : Int32) (M : xM) : xR := xE_ T_JR_checkLength T_JR_checkLength [(0, .int a1), (0, .int a2)] [] M
noncomputable def m_JR_copyOfRangeByte (a1 : Nat) (a2 : Int32) (a3 : Int32) (M : xM) : xR := xE_ T_JR_copyOfRangeByte T_JR_copyOfRangeByte [(49, .ref a1), (0, .int a2), (0, .int a3), xJ, xJ] [] M
noncomputable def m_JR_copyOfRange (a1 : Nat) (a2 : Int32) (a3 : Int32) (M : xM) : xR := xE_ T_JR_copyOfRange T_JR_copyOfRange [(49, .ref a1), (0, .int a2), (0, .int a3)] [] M
noncomputable def m_JS_init_0 (a1 : Nat) (a2 : Nat) (M : xM) : xR := xE_ T_JS_init_0 T_JS_init_0 [(46, .ref a1), (50, .ref a2), (0, .null), xJ, xJ] [] M
noncomputable def m_JS_init_1 (a1 : Nat) (a2 : Nat) (M : xM) : xR := xE_ T_JS_init_1 T_JS_init_1 [(46, .ref a1), (50, .ref a2)] [] M
noncomputable def m_JB_toString (a1 : Nat) (M : xM) : xR := xE_ T_JB_toString T_JB_toString [(50, .ref a1)] [] M
noncomputable def m_L_setup (a1 : Nat) (a2 : Int32) (a3 : Int32) (M : xM) : xR := xE_ T_L_setup T_L_setup [(41, .ref a1), (0, .int a2), (0, .int a3), xJ, xJ, xJ, xJ, xJ] [] M
noncomputable def b_L_setup_15 (v0 : Nat) (v1 : Int32) (v2 : Int32) (v3 : Nat) (v4 : Int32) (M : xM) : xR := xE_ T_L_setup (T_L_setup.drop 15) [(41, .ref v0), (0, .int v1), (0, .int v2), (50, .ref v3), (0, .int v4), xJ, xJ, xJ] [] M
noncomputable def b_L_setup_45 (v0 : Nat) (v1 : Int32) (v2 : Int32) (v3 : Nat) (v4 : Int32) (M : xM) : xR := xE_ T_L_setup (T_L_setup.drop 45) [(41, .ref v0), (0, .int v1), (0, .int v2), (50, .ref v3), (0, .int v4), xJ, xJ, xJ] [] M
noncomputable def b_L_setup_75 (v0 : Nat) (v1 : Int32) (v2 : Int32) (v3 : Nat) (v4 : Int32) (v5 : Int32) (v6 : Int32) (M : xM) : xR := xE_ T_L_setup (T_L_setup.drop 75) [(41, .ref v0), (0, .int v1), (0, .int v2), (50, .ref v3), (0, .int v4), (0, .int v5), (0, .int v6), xJ] [] M
noncomputable def m_C_truncate (a1 : Nat) (a2 : Int32) (M : xM) : xR := xE_ T_C_truncate T_C_truncate [(1, .ref a1), (0, .int a2)] [] M
noncomputable def m_L_word (a1 : Nat) (a2 : Int32) (M : xM) : xR := xE_ T_L_word T_L_word [(46, .ref a1), (0, .int a2), xJ, xJ] [] M
noncomputable def b_L_word_5 (v0 : Nat) (v1 : Int32) (v2 : Int32) (v3 : Int32) (M : xM) : xR := xE_ T_L_word (T_L_word.drop 5) [(46, .ref v0), (0, .int v1), (0, .int v2), (0, .int v3)] [] M
noncomputable def m_I_putBytes (a1 : Nat) (a2 : Int32) (M : xM) : xR := xE_ T_I_putBytes T_I_putBytes [(19, .ref a1), (0, .int a2)] [] M
noncomputable def m_C_append (a1 : Nat) (a2 : Int32) (a3 : Int32) (a4 : Int32) (a5 : Int32) (a6 : Int32) (M : xM) : xR := xE_ T_C_append T_C_append [(1, .ref a1), (0, .int a2), (0, .int a3), (0, .int a4), (0, .int a5), (0, .int a6), xJ] [] M
noncomputable def m_L_say (a1 : Nat) (a2 : Nat) (M : xM) : xR := xE_ T_L_say T_L_say [(1, .ref a1), (46, .ref a2), xJ] [] M
noncomputable def b_L_say_7 (v0 : Nat) (v1 : Nat) (v2 : Int32) (M : xM) : xR := xE_ T_L_say (T_L_say.drop 7) [(1, .ref v0), (46, .ref v1), (0, .int v2)] [] M
noncomputable def m_P_copyFrom (a1 : Nat) (a2 : Nat) (M : xM) : xR := xE_ T_P_copyFrom T_P_copyFrom [(2, .ref a1), (2, .ref a2)] [] M
noncomputable def m_C_load (a1 : Nat) (M : xM) : xR := xE_ T_C_load T_C_load [(1, .ref a1), xJ, xJ] [] M
noncomputable def b_C_load_22 (v0 : Nat) (v2 : Int32) (M : xM) : xR := xE_ T_C_load (T_C_load.drop 22) [(1, .ref v0), xJ, (0, .int v2)] [] M
noncomputable def m_C_taskCount (a1 : Nat) (M : xM) : xR := xE_ T_C_taskCount T_C_taskCount [(1, .ref a1)] [] M
noncomputable def m_P_hasTask (a1 : Nat) (a2 : Int32) (M : xM) : xR := xE_ T_P_hasTask T_P_hasTask [(2, .ref a1), (0, .int a2)] [] M
noncomputable def m_C_requireTask (a1 : Nat) (a2 : Int32) (M : xM) : xR := xE_ T_C_requireTask T_C_requireTask [(1, .ref a1), (0, .int a2)] [] M
noncomputable def m_C_release (a1 : Nat) (a2 : Int32) (M : xM) : xR := xE_ T_C_release T_C_release [(1, .ref a1), (0, .int a2)] [] M
noncomputable def m_C_hasLink (a1 : Nat) (a2 : Int32) (a3 : Int32) (M : xM) : xR := xE_ T_C_hasLink T_C_hasLink [(1, .ref a1), (0, .int a2), (0, .int a3)] [] M
noncomputable def m_C_duration (a1 : Nat) (a2 : Int32) (M : xM) : xR := xE_ T_C_duration T_C_duration [(1, .ref a1), (0, .int a2)] [] M
noncomputable def m_Q_early_7 (a1 : Nat) (a2 : Int32) (M : xM) : xR := xE_ T_Q_early_7 T_Q_early_7 [(27, .ref a1), (0, .int a2), xJ, xJ] [] M
noncomputable def b_Q_early_7_8 (v0 : Nat) (v1 : Int32) (v2 : Int32) (v3 : Int32) (M : xM) : xR := xE_ T_Q_early_7 (T_Q_early_7.drop 8) [(27, .ref v0), (0, .int v1), (0, .int v2), (0, .int v3)] [] M
noncomputable def m_Q_early_6 (a1 : Nat) (a2 : Int32) (M : xM) : xR := xE_ T_Q_early_6 T_Q_early_6 [(27, .ref a1), (0, .int a2), xJ, xJ] [] M
noncomputable def b_Q_early_6_8 (v0 : Nat) (v1 : Int32) (v2 : Int32) (v3 : Int32) (M : xM) : xR := xE_ T_Q_early_6 (T_Q_early_6.drop 8) [(27, .ref v0), (0, .int v1), (0, .int v2), (0, .int v3)] [] M
noncomputable def m_Q_early_5 (a1 : Nat) (a2 : Int32) (M : xM) : xR := xE_ T_Q_early_5 T_Q_early_5 [(27, .ref a1), (0, .int a2), xJ, xJ] [] M
noncomputable def b_Q_early_5_8 (v0 : Nat) (v1 : Int32) (v2 : Int32) (v3 : Int32) (M : xM) : xR := xE_ T_Q_early_5 (T_Q_early_5.drop 8) [(27, .ref v0), (0, .int v1), (0, .int v2), (0, .int v3)] [] M
noncomputable def m_Q_early_4 (a1 : Nat) (a2 : Int32) (M : xM) : xR := xE_ T_Q_early_4 T_Q_early_4 [(27, .ref a1), (0, .int a2), xJ, xJ] [] M
noncomputable def b_Q_early_4_8 (v0 : Nat) (v1 : Int32) (v2 : Int32) (v3 : Int32) (M : xM) : xR := xE_ T_Q_early_4 (T_Q_early_4.drop 8) [(27, .ref v0), (0, .int v1), (0, .int v2), (0, .int v3)] [] M
noncomputable def m_Q_early_3 (a1 : Nat) (a2 : Int32) (M : xM) : xR := xE_ T_Q_early_3 T_Q_early_3 [(27, .ref a1), (0, .int a2), xJ, xJ] [] M
noncomputable def b_Q_early_3_8 (v0 : Nat) (v1 : Int32) (v2 : Int32) (v3 : Int32) (M : xM) : xR := xE_ T_Q_early_3 (T_Q_early_3.drop 8) [(27, .ref v0), (0, .int v1), (0, .int v2), (0, .int v3)] [] M
noncomputable def m_Q_early_2 (a1 : Nat) (a2 : Int32) (M : xM) : xR := xE_ T_Q_early_2 T_Q_early_2 [(27, .ref a1), (0, .int a2), xJ, xJ] [] M
noncomputable def b_Q_early_2_8 (v0 : Nat) (v1 : Int32) (v2 : Int32) (v3 : Int32) (M : xM) : xR := xE_ T_Q_early_2 (T_Q_early_2.drop 8) [(27, .ref v0), (0, .int v1), (0, .int v2), (0, .int v3)] [] M
noncomputable def m_Q_early_1 (a1 : Nat) (a2 : Int32) (M : xM) : xR := xE_ T_Q_early_1 T_Q_early_1 [(27, .ref a1), (0, .int a2), xJ, xJ] [] M
noncomputable def b_Q_early_1_8 (v0 : Nat) (v1 : Int32) (v2 : Int32) (v3 : Int32) (M : xM) : xR := xE_ T_Q_early_1 (T_Q_early_1.drop 8) [(27, .ref v0), (0, .int v1), (0, .int v2), (0, .int v3)] [] M
noncomputable def m_Q_early_0 (a1 : Nat) (a2 : Int32) (M : xM) : xR := xE_ T_Q_early_0 T_Q_early_0 [(27, .ref a1), (0, .int a2), xJ, xJ] [] M
noncomputable def b_Q_early_0_8 (v0 : Nat) (v1 : Int32) (v2 : Int32) (v3 : Int32) (M : xM) : xR := xE_ T_Q_early_0 (T_Q_early_0.drop 8) [(27, .ref v0), (0, .int v1), (0, .int v2), (0, .int v3)] [] M
noncomputable def m_Q_init (a1 : Nat) (a2 : Nat) (M : xM) : xR := xE_ T_Q_init T_Q_init [(27, .ref a1), (1, .ref a2), xJ] [] M
noncomputable def b_Q_init_16 (v0 : Nat) (v1 : Nat) (v2 : Int32) (M : xM) : xR := xE_ T_Q_init (T_Q_init.drop 16) [(27, .ref v0), (1, .ref v1), (0, .int v2)] [] M
noncomputable def m_C_rule (a1 : Nat) (M : xM) : xR := xE_ T_C_rule T_C_rule [(1, .ref a1)] [] M
noncomputable def m_Q_ready (a1 : Nat) (a2 : Int32) (M : xM) : xR := xE_ T_Q_ready T_Q_ready [(27, .ref a1), (0, .int a2), xJ, xJ] [] M
noncomputable def b_Q_ready_8 (v0 : Nat) (v1 : Int32) (v2 : Int32) (v3 : Int32) (M : xM) : xR := xE_ T_Q_ready (T_Q_ready.drop 8) [(27, .ref v0), (0, .int v1), (0, .int v2), (0, .int v3)] [] M
noncomputable def m_Q_late_7 (a1 : Nat) (a2 : Int32) (M : xM) : xR := xE_ T_Q_late_7 T_Q_late_7 [(27, .ref a1), (0, .int a2), xJ, xJ] [] M
noncomputable def b_Q_late_7_6 (v0 : Nat) (v1 : Int32) (v2 : Int32) (v3 : Int32) (M : xM) : xR := xE_ T_Q_late_7 (T_Q_late_7.drop 6) [(27, .ref v0), (0, .int v1), (0, .int v2), (0, .int v3)] [] M
noncomputable def m_Q_late_6 (a1 : Nat) (a2 : Int32) (M : xM) : xR := xE_ T_Q_late_6 T_Q_late_6 [(27, .ref a1), (0, .int a2), xJ, xJ] [] M
noncomputable def b_Q_late_6_6 (v0 : Nat) (v1 : Int32) (v2 : Int32) (v3 : Int32) (M : xM) : xR := xE_ T_Q_late_6 (T_Q_late_6.drop 6) [(27, .ref v0), (0, .int v1), (0, .int v2), (0, .int v3)] [] M
noncomputable def m_Q_late_5 (a1 : Nat) (a2 : Int32) (M : xM) : xR := xE_ T_Q_late_5 T_Q_late_5 [(27, .ref a1), (0, .int a2), xJ, xJ] [] M
noncomputable def b_Q_late_5_6 (v0 : Nat) (v1 : Int32) (v2 : Int32) (v3 : Int32) (M : xM) : xR := xE_ T_Q_late_5 (T_Q_late_5.drop 6) [(27, .ref v0), (0, .int v1), (0, .int v2), (0, .int v3)] [] M
noncomputable def m_Q_late_4 (a1 : Nat) (a2 : Int32) (M : xM) : xR := xE_ T_Q_late_4 T_Q_late_4 [(27, .ref a1), (0, .int a2), xJ, xJ] [] M
noncomputable def b_Q_late_4_6 (v0 : Nat) (v1 : Int32) (v2 : Int32) (v3 : Int32) (M : xM) : xR := xE_ T_Q_late_4 (T_Q_late_4.drop 6) [(27, .ref v0), (0, .int v1), (0, .int v2), (0, .int v3)] [] M
noncomputable def m_Q_late_3 (a1 : Nat) (a2 : Int32) (M : xM) : xR := xE_ T_Q_late_3 T_Q_late_3 [(27, .ref a1), (0, .int a2), xJ, xJ] [] M
noncomputable def b_Q_late_3_6 (v0 : Nat) (v1 : Int32) (v2 : Int32) (v3 : Int32) (M : xM) : xR := xE_ T_Q_late_3 (T_Q_late_3.drop 6) [(27, .ref v0), (0, .int v1), (0, .int v2), (0, .int v3)] [] M
noncomputable def m_Q_late_2 (a1 : Nat) (a2 : Int32) (M : xM) : xR := xE_ T_Q_late_2 T_Q_late_2 [(27, .ref a1), (0, .int a2), xJ, xJ] [] M
noncomputable def b_Q_late_2_6 (v0 : Nat) (v1 : Int32) (v2 : Int32) (v3 : Int32) (M : xM) : xR := xE_ T_Q_late_2 (T_Q_late_2.drop 6) [(27, .ref v0), (0, .int v1), (0, .int v2), (0, .int v3)] [] M
noncomputable def m_Q_late_1 (a1 : Nat) (a2 : Int32) (M : xM) : xR := xE_ T_Q_late_1 T_Q_late_1 [(27, .ref a1), (0, .int a2), xJ, xJ] [] M
noncomputable def b_Q_late_1_6 (v0 : Nat) (v1 : Int32) (v2 : Int32) (v3 : Int32) (M : xM) : xR := xE_ T_Q_late_1 (T_Q_late_1.drop 6) [(27, .ref v0), (0, .int v1), (0, .int v2), (0, .int v3)] [] M
noncomputable def m_Q_late_0 (a1 : Nat) (a2 : Int32) (M : xM) : xR := xE_ T_Q_late_0 T_Q_late_0 [(27, .ref a1), (0, .int a2), xJ, xJ] [] M
noncomputable def b_Q_late_0_6 (v0 : Nat) (v1 : Int32) (v2 : Int32) (v3 : Int32) (M : xM) : xR := xE_ T_Q_late_0 (T_Q_late_0.drop 6) [(27, .ref v0), (0, .int v1), (0, .int v2), (0, .int v3)] [] M
noncomputable def m_Q_after_7 (a1 : Nat) (a2 : Int32) (a3 : Nat) (M : xM) : xR := xE_ T_Q_after_7 T_Q_after_7 [(27, .ref a1), (0, .int a2), (29, .ref a3), xJ, xJ] [] M
noncomputable def b_Q_after_7_5 (v0 : Nat) (v1 : Int32) (v2 : Nat) (v3 : Int32) (v4 : Int32) (M : xM) : xR := xE_ T_Q_after_7 (T_Q_after_7.drop 5) [(27, .ref v0), (0, .int v1), (29, .ref v2), (0, .int v3), (0, .int v4)] [] M
noncomputable def m_Q_after_6 (a1 : Nat) (a2 : Int32) (a3 : Nat) (M : xM) : xR := xE_ T_Q_after_6 T_Q_after_6 [(27, .ref a1), (0, .int a2), (29, .ref a3), xJ, xJ] [] M
noncomputable def b_Q_after_6_5 (v0 : Nat) (v1 : Int32) (v2 : Nat) (v3 : Int32) (v4 : Int32) (M : xM) : xR := xE_ T_Q_after_6 (T_Q_after_6.drop 5) [(27, .ref v0), (0, .int v1), (29, .ref v2), (0, .int v3), (0, .int v4)] [] M
noncomputable def m_Q_after_5 (a1 : Nat) (a2 : Int32) (a3 : Nat) (M : xM) : xR := xE_ T_Q_after_5 T_Q_after_5 [(27, .ref a1), (0, .int a2), (29, .ref a3), xJ, xJ] [] M
noncomputable def b_Q_after_5_5 (v0 : Nat) (v1 : Int32) (v2 : Nat) (v3 : Int32) (v4 : Int32) (M : xM) : xR := xE_ T_Q_after_5 (T_Q_after_5.drop 5) [(27, .ref v0), (0, .int v1), (29, .ref v2), (0, .int v3), (0, .int v4)] [] M
noncomputable def m_Q_after_4 (a1 : Nat) (a2 : Int32) (a3 : Nat) (M : xM) : xR := xE_ T_Q_after_4 T_Q_after_4 [(27, .ref a1), (0, .int a2), (29, .ref a3), xJ, xJ] [] M
noncomputable def b_Q_after_4_5 (v0 : Nat) (v1 : Int32) (v2 : Nat) (v3 : Int32) (v4 : Int32) (M : xM) : xR := xE_ T_Q_after_4 (T_Q_after_4.drop 5) [(27, .ref v0), (0, .int v1), (29, .ref v2), (0, .int v3), (0, .int v4)] [] M
noncomputable def m_Q_after_3 (a1 : Nat) (a2 : Int32) (a3 : Nat) (M : xM) : xR := xE_ T_Q_after_3 T_Q_after_3 [(27, .ref a1), (0, .int a2), (29, .ref a3), xJ, xJ] [] M
noncomputable def b_Q_after_3_5 (v0 : Nat) (v1 : Int32) (v2 : Nat) (v3 : Int32) (v4 : Int32) (M : xM) : xR := xE_ T_Q_after_3 (T_Q_after_3.drop 5) [(27, .ref v0), (0, .int v1), (29, .ref v2), (0, .int v3), (0, .int v4)] [] M
noncomputable def m_Q_after_2 (a1 : Nat) (a2 : Int32) (a3 : Nat) (M : xM) : xR := xE_ T_Q_after_2 T_Q_after_2 [(27, .ref a1), (0, .int a2), (29, .ref a3), xJ, xJ] [] M
noncomputable def b_Q_after_2_5 (v0 : Nat) (v1 : Int32) (v2 : Nat) (v3 : Int32) (v4 : Int32) (M : xM) : xR := xE_ T_Q_after_2 (T_Q_after_2.drop 5) [(27, .ref v0), (0, .int v1), (29, .ref v2), (0, .int v3), (0, .int v4)] [] M
noncomputable def m_Q_after_1 (a1 : Nat) (a2 : Int32) (a3 : Nat) (M : xM) : xR := xE_ T_Q_after_1 T_Q_after_1 [(27, .ref a1), (0, .int a2), (29, .ref a3), xJ, xJ] [] M
noncomputable def b_Q_after_1_5 (v0 : Nat) (v1 : Int32) (v2 : Nat) (v3 : Int32) (v4 : Int32) (M : xM) : xR := xE_ T_Q_after_1 (T_Q_after_1.drop 5) [(27, .ref v0), (0, .int v1), (29, .ref v2), (0, .int v3), (0, .int v4)] [] M
noncomputable def m_Q_after_0 (a1 : Nat) (a2 : Int32) (a3 : Nat) (M : xM) : xR := xE_ T_Q_after_0 T_Q_after_0 [(27, .ref a1), (0, .int a2), (29, .ref a3), xJ, xJ] [] M
noncomputable def b_Q_after_0_5 (v0 : Nat) (v1 : Int32) (v2 : Nat) (v3 : Int32) (v4 : Int32) (M : xM) : xR := xE_ T_Q_after_0 (T_Q_after_0.drop 5) [(27, .ref v0), (0, .int v1), (29, .ref v2), (0, .int v3), (0, .int v4)] [] M
noncomputable def m_Q_isAhead (a1 : Nat) (a2 : Int32) (a3 : Int32) (a4 : Int32) (M : xM) : xR := xE_ T_Q_isAhead T_Q_isAhead [(27, .ref a1), (0, .int a2), (0, .int a3), (0, .int a4)] [] M
noncomputable def m_C_resourceCount (a1 : Nat) (M : xM) : xR := xE_ T_C_resourceCount T_C_resourceCount [(1, .ref a1)] [] M
noncomputable def m_Q_isOn (a1 : Nat) (a2 : Int32) (a3 : Int32) (M : xM) : xR := xE_ T_Q_isOn T_Q_isOn [(27, .ref a1), (0, .int a2), (0, .int a3)] [] M
noncomputable def m_P_hasResource (a1 : Nat) (a2 : Int32) (M : xM) : xR := xE_ T_P_hasResource T_P_hasResource [(2, .ref a1), (0, .int a2)] [] M
noncomputable def m_C_requireResource (a1 : Nat) (a2 : Int32) (M : xM) : xR := xE_ T_C_requireResource T_C_requireResource [(1, .ref a1), (0, .int a2)] [] M
noncomputable def m_P_demandOf (a1 : Nat) (a2 : Int32) (a3 : Int32) (M : xM) : xR := xE_ T_P_demandOf T_P_demandOf [(2, .ref a1), (0, .int a2), (0, .int a3)] [] M
noncomputable def m_C_demand (a1 : Nat) (a2 : Int32) (a3 : Int32) (M : xM) : xR := xE_ T_C_demand T_C_demand [(1, .ref a1), (0, .int a2), (0, .int a3)] [] M
noncomputable def m_Q_usage (a1 : Nat) (a2 : Int32) (a3 : Int32) (M : xM) : xR := xE_ T_Q_usage T_Q_usage [(27, .ref a1), (0, .int a2), (0, .int a3), xJ, xJ] [] M
noncomputable def b_Q_usage_5 (v0 : Nat) (v1 : Int32) (v2 : Int32) (v3 : Int32) (v4 : Int32) (M : xM) : xR := xE_ T_Q_usage (T_Q_usage.drop 5) [(27, .ref v0), (0, .int v1), (0, .int v2), (0, .int v3), (0, .int v4)] [] M
noncomputable def m_C_capacity (a1 : Nat) (a2 : Int32) (M : xM) : xR := xE_ T_C_capacity T_C_capacity [(1, .ref a1), (0, .int a2)] [] M
noncomputable def m_Q_fits (a1 : Nat) (a2 : Int32) (a3 : Int32) (M : xM) : xR := xE_ T_Q_fits T_Q_fits [(27, .ref a1), (0, .int a2), (0, .int a3), xJ, xJ] [] M
noncomputable def b_Q_fits_3 (v0 : Nat) (v1 : Int32) (v2 : Int32) (v3 : Int32) (M : xM) : xR := xE_ T_Q_fits (T_Q_fits.drop 3) [(27, .ref v0), (0, .int v1), (0, .int v2), (0, .int v3), xJ] [] M
noncomputable def b_Q_fits_14 (v0 : Nat) (v1 : Int32) (v2 : Int32) (v3 : Int32) (v4 : Int32) (M : xM) : xR := xE_ T_Q_fits (T_Q_fits.drop 14) [(27, .ref v0), (0, .int v1), (0, .int v2), (0, .int v3), (0, .int v4)] [] M
noncomputable def m_Q_build (a1 : Nat) (a2 : Int32) (M : xM) : xR := xE_ T_Q_build T_Q_build [(27, .ref a1), (0, .int a2), xJ, xJ, xJ, xJ] [] M
noncomputable def b_Q_build_5 (v0 : Nat) (v1 : Int32) (v2 : Int32) (v3 : Int32) (M : xM) : xR := xE_ T_Q_build (T_Q_build.drop 5) [(27, .ref v0), (0, .int v1), (0, .int v2), (0, .int v3), xJ, xJ] [] M
noncomputable def b_Q_build_19 (v0 : Nat) (v1 : Int32) (v2 : Int32) (v3 : Int32) (M : xM) : xR := xE_ T_Q_build (T_Q_build.drop 19) [(27, .ref v0), (0, .int v1), (0, .int v2), (0, .int v3), xJ, xJ] [] M
noncomputable def b_Q_build_28 (v0 : Nat) (v1 : Int32) (v2 : Int32) (v3 : Int32) (v4 : Int32) (v5 : Int32) (M : xM) : xR := xE_ T_Q_build (T_Q_build.drop 28) [(27, .ref v0), (0, .int v1), (0, .int v2), (0, .int v3), (0, .int v4), (0, .int v5)] [] M
noncomputable def b_Q_build_58 (v0 : Nat) (v1 : Int32) (v2 : Int32) (v3 : Int32) (v4 : Int32) (v5 : Int32) (M : xM) : xR := xE_ T_Q_build (T_Q_build.drop 58) [(27, .ref v0), (0, .int v1), (0, .int v2), (0, .int v3), (0, .int v4), (0, .int v5)] [] M
noncomputable def m_P_isReady (a1 : Nat) (a2 : Int32) (a3 : Int32) (M : xM) : xR := xE_ T_P_isReady T_P_isReady [(2, .ref a1), (0, .int a2), (0, .int a3)] [] M
noncomputable def m_D_sortTasks (a1 : Nat) (a2 : Nat) (M : xM) : xR := xE_ T_D_sortTasks T_D_sortTasks [(10, .ref a1), (2, .ref a2), xJ, xJ, xJ] [] M
noncomputable def b_D_sortTasks_5 (v0 : Nat) (v1 : Nat) (v2 : Int32) (v3 : Int32) (M : xM) : xR := xE_ T_D_sortTasks (T_D_sortTasks.drop 5) [(10, .ref v0), (2, .ref v1), (0, .int v2), (0, .int v3), xJ] [] M
noncomputable def b_D_sortTasks_12 (v0 : Nat) (v1 : Nat) (v2 : Int32) (v3 : Int32) (v4 : Int32) (M : xM) : xR := xE_ T_D_sortTasks (T_D_sortTasks.drop 12) [(10, .ref v0), (2, .ref v1), (0, .int v2), (0, .int v3), (0, .int v4)] [] M
noncomputable def m_D_findEarliest (a1 : Nat) (a2 : Nat) (a3 : Int32) (M : xM) : xR := xE_ T_D_findEarliest T_D_findEarliest [(10, .ref a1), (2, .ref a2), (0, .int a3), xJ, xJ, xJ] [] M
noncomputable def b_D_findEarliest_10 (v0 : Nat) (v1 : Nat) (v2 : Int32) (v3 : Int32) (v4 : Int32) (v5 : Int32) (M : xM) : xR := xE_ T_D_findEarliest (T_D_findEarliest.drop 10) [(10, .ref v0), (2, .ref v1), (0, .int v2), (0, .int v3), (0, .int v4), (0, .int v5)] [] M
noncomputable def m_D_findLatest (a1 : Nat) (a2 : Nat) (a3 : Int32) (M : xM) : xR := xE_ T_D_findLatest T_D_findLatest [(10, .ref a1), (2, .ref a2), (0, .int a3), xJ, xJ] [] M
noncomputable def b_D_findLatest_6 (v0 : Nat) (v1 : Nat) (v2 : Int32) (v3 : Int32) (v4 : Int32) (M : xM) : xR := xE_ T_D_findLatest (T_D_findLatest.drop 6) [(10, .ref v0), (2, .ref v1), (0, .int v2), (0, .int v3), (0, .int v4)] [] M
noncomputable def m_D_compute (a1 : Nat) (a2 : Nat) (M : xM) : xR := xE_ T_D_compute T_D_compute [(10, .ref a1), (2, .ref a2), xJ] [] M
noncomputable def b_D_compute_9 (v0 : Nat) (v1 : Nat) (v2 : Int32) (M : xM) : xR := xE_ T_D_compute (T_D_compute.drop 9) [(10, .ref v0), (2, .ref v1), (0, .int v2)] [] M
noncomputable def b_D_compute_28 (v0 : Nat) (v1 : Nat) (v2 : Int32) (M : xM) : xR := xE_ T_D_compute (T_D_compute.drop 28) [(10, .ref v0), (2, .ref v1), (0, .int v2)] [] M
noncomputable def m_D_countFollowers (a1 : Nat) (a2 : Nat) (a3 : Int32) (M : xM) : xR := xE_ T_D_countFollowers T_D_countFollowers [(10, .ref a1), (2, .ref a2), (0, .int a3), xJ, xJ] [] M
noncomputable def b_D_countFollowers_5 (v0 : Nat) (v1 : Nat) (v2 : Int32) (v3 : Int32) (v4 : Int32) (M : xM) : xR := xE_ T_D_countFollowers (T_D_countFollowers.drop 5) [(10, .ref v0), (2, .ref v1), (0, .int v2), (0, .int v3), (0, .int v4)] [] M
noncomputable def m_S_rankOf (a1 : Nat) (a2 : Nat) (a3 : Int32) (M : xM) : xR := xE_ T_S_rankOf T_S_rankOf [(15, .ref a1), (2, .ref a2), (0, .int a3)] [] M
noncomputable def m_S_bestReady (a1 : Nat) (a2 : Nat) (M : xM) : xR := xE_ T_S_bestReady T_S_bestReady [(15, .ref a1), (2, .ref a2), xJ, xJ, xJ, xJ] [] M
noncomputable def b_S_bestReady_7 (v0 : Nat) (v1 : Nat) (v2 : Int32) (v3 : Int32) (v4 : Int32) (M : xM) : xR := xE_ T_S_bestReady (T_S_bestReady.drop 7) [(15, .ref v0), (2, .ref v1), (0, .int v2), (0, .int v3), (0, .int v4), xJ] [] M
noncomputable def m_S_predecessorsFinish (a1 : Nat) (a2 : Nat) (a3 : Int32) (M : xM) : xR := xE_ T_S_predecessorsFinish T_S_predecessorsFinish [(15, .ref a1), (2, .ref a2), (0, .int a3), xJ, xJ] [] M
noncomputable def b_S_predecessorsFinish_5 (v0 : Nat) (v1 : Nat) (v2 : Int32) (v3 : Int32) (v4 : Int32) (M : xM) : xR := xE_ T_S_predecessorsFinish (T_S_predecessorsFinish.drop 5) [(15, .ref v0), (2, .ref v1), (0, .int v2), (0, .int v3), (0, .int v4)] [] M
noncomputable def m_P_runsOn (a1 : Nat) (a2 : Int32) (a3 : Int32) (a4 : Int32) (M : xM) : xR := xE_ T_P_runsOn T_P_runsOn [(2, .ref a1), (0, .int a2), (0, .int a3), (0, .int a4)] [] M
noncomputable def m_P_loadOn (a1 : Nat) (k2 : Nat) (a2 : Nat) (a3 : Int32) (a4 : Int32) (a5 : Int32) (M : xM) : xR := xE_ T_P_loadOn T_P_loadOn [(2, .ref a1), (k2, .ref a2), (0, .int a3), (0, .int a4), (0, .int a5), xJ, xJ] [] M
noncomputable def b_P_loadOn_5 (v0 : Nat) (k1 : Nat) (v1 : Nat) (v2 : Int32) (v3 : Int32) (v4 : Int32) (v5 : Int32) (v6 : Int32) (M : xM) : xR := xE_ T_P_loadOn (T_P_loadOn.drop 5) [(2, .ref v0), (k1, .ref v1), (0, .int v2), (0, .int v3), (0, .int v4), (0, .int v5), (0, .int v6)] [] M
noncomputable def m_S_hasRoomOn (a1 : Nat) (a2 : Nat) (a3 : Int32) (a4 : Int32) (M : xM) : xR := xE_ T_S_hasRoomOn T_S_hasRoomOn [(15, .ref a1), (2, .ref a2), (0, .int a3), (0, .int a4), xJ, xJ, xJ] [] M
noncomputable def b_S_hasRoomOn_12 (v0 : Nat) (v1 : Nat) (v2 : Int32) (v3 : Int32) (v4 : Int32) (v5 : Int32) (M : xM) : xR := xE_ T_S_hasRoomOn (T_S_hasRoomOn.drop 12) [(15, .ref v0), (2, .ref v1), (0, .int v2), (0, .int v3), (0, .int v4), (0, .int v5), xJ] [] M
noncomputable def m_S_firstFreeDay (a1 : Nat) (a2 : Nat) (a3 : Int32) (M : xM) : xR := xE_ T_S_firstFreeDay T_S_firstFreeDay [(15, .ref a1), (2, .ref a2), (0, .int a3), xJ, xJ] [] M
noncomputable def b_S_firstFreeDay_13 (v0 : Nat) (v1 : Nat) (v2 : Int32) (v3 : Int32) (v4 : Int32) (M : xM) : xR := xE_ T_S_firstFreeDay (T_S_firstFreeDay.drop 13) [(15, .ref v0), (2, .ref v1), (0, .int v2), (0, .int v3), (0, .int v4)] [] M
noncomputable def m_S_build (a1 : Nat) (a2 : Nat) (M : xM) : xR := xE_ T_S_build T_S_build [(15, .ref a1), (2, .ref a2), xJ, xJ] [] M
noncomputable def b_S_build_13 (v0 : Nat) (v1 : Nat) (v2 : Int32) (M : xM) : xR := xE_ T_S_build (T_S_build.drop 13) [(15, .ref v0), (2, .ref v1), (0, .int v2), xJ] [] M
noncomputable def m_C_currentSchedule (a1 : Nat) (M : xM) : xR := xE_ T_C_currentSchedule T_C_currentSchedule [(1, .ref a1)] [] M
noncomputable def m_C_makespan (a1 : Nat) (M : xM) : xR := xE_ T_C_makespan T_C_makespan [(1, .ref a1)] [] M
noncomputable def m_C_currentDates (a1 : Nat) (M : xM) : xR := xE_ T_C_currentDates T_C_currentDates [(1, .ref a1)] [] M
noncomputable def m_C_projectLength (a1 : Nat) (M : xM) : xR := xE_ T_C_projectLength T_C_projectLength [(1, .ref a1)] [] M
noncomputable def m_S_countBrokenLinks (a1 : Nat) (a2 : Nat) (M : xM) : xR := xE_ T_S_countBrokenLinks T_S_countBrokenLinks [(15, .ref a1), (2, .ref a2), xJ, xJ, xJ] [] M
noncomputable def b_S_countBrokenLinks_5 (v0 : Nat) (v1 : Nat) (v2 : Int32) (v3 : Int32) (M : xM) : xR := xE_ T_S_countBrokenLinks (T_S_countBrokenLinks.drop 5) [(15, .ref v0), (2, .ref v1), (0, .int v2), (0, .int v3), xJ] [] M
noncomputable def b_S_countBrokenLinks_12 (v0 : Nat) (v1 : Nat) (v2 : Int32) (v3 : Int32) (v4 : Int32) (M : xM) : xR := xE_ T_S_countBrokenLinks (T_S_countBrokenLinks.drop 12) [(15, .ref v0), (2, .ref v1), (0, .int v2), (0, .int v3), (0, .int v4)] [] M
noncomputable def m_S_usageOn (a1 : Nat) (a2 : Nat) (a3 : Int32) (a4 : Int32) (M : xM) : xR := xE_ T_S_usageOn T_S_usageOn [(15, .ref a1), (2, .ref a2), (0, .int a3), (0, .int a4)] [] M
noncomputable def m_S_peakOf (a1 : Nat) (a2 : Nat) (a3 : Int32) (M : xM) : xR := xE_ T_S_peakOf T_S_peakOf [(15, .ref a1), (2, .ref a2), (0, .int a3), xJ, xJ] [] M
noncomputable def b_S_peakOf_5 (v0 : Nat) (v1 : Nat) (v2 : Int32) (v3 : Int32) (v4 : Int32) (M : xM) : xR := xE_ T_S_peakOf (T_S_peakOf.drop 5) [(15, .ref v0), (2, .ref v1), (0, .int v2), (0, .int v3), (0, .int v4)] [] M
noncomputable def m_S_countOverusedResources (a1 : Nat) (a2 : Nat) (M : xM) : xR := xE_ T_S_countOverusedResources T_S_countOverusedResources [(15, .ref a1), (2, .ref a2), xJ, xJ] [] M
noncomputable def b_S_countOverusedResources_5 (v0 : Nat) (v1 : Nat) (v2 : Int32) (v3 : Int32) (M : xM) : xR := xE_ T_S_countOverusedResources (T_S_countOverusedResources.drop 5) [(15, .ref v0), (2, .ref v1), (0, .int v2), (0, .int v3)] [] M
noncomputable def m_P_workFor (a1 : Nat) (a2 : Int32) (M : xM) : xR := xE_ T_P_workFor T_P_workFor [(2, .ref a1), (0, .int a2), xJ, xJ] [] M
noncomputable def b_P_workFor_5 (v0 : Nat) (v1 : Int32) (v2 : Int32) (v3 : Int32) (M : xM) : xR := xE_ T_P_workFor (T_P_workFor.drop 5) [(2, .ref v0), (0, .int v1), (0, .int v2), (0, .int v3)] [] M
noncomputable def m_P_daysOfWork (a1 : Nat) (a2 : Int32) (M : xM) : xR := xE_ T_P_daysOfWork T_P_daysOfWork [(2, .ref a1), (0, .int a2), xJ] [] M
noncomputable def m_D_leastMakespan (a1 : Nat) (a2 : Nat) (M : xM) : xR := xE_ T_D_leastMakespan T_D_leastMakespan [(10, .ref a1), (2, .ref a2), xJ, xJ] [] M
noncomputable def b_D_leastMakespan_6 (v1 : Nat) (v2 : Int32) (v3 : Int32) (M : xM) : xR := xE_ T_D_leastMakespan (T_D_leastMakespan.drop 6) [xJ, (2, .ref v1), (0, .int v2), (0, .int v3)] [] M
noncomputable def m_C_inconsistencies (a1 : Nat) (M : xM) : xR := xE_ T_C_inconsistencies T_C_inconsistencies [(1, .ref a1), xJ, xJ] [] M
noncomputable def m_C_startDay (a1 : Nat) (a2 : Int32) (M : xM) : xR := xE_ T_C_startDay T_C_startDay [(1, .ref a1), (0, .int a2)] [] M
noncomputable def m_C_finishDay (a1 : Nat) (a2 : Int32) (M : xM) : xR := xE_ T_C_finishDay T_C_finishDay [(1, .ref a1), (0, .int a2)] [] M
noncomputable def m_C_earliestStart (a1 : Nat) (a2 : Int32) (M : xM) : xR := xE_ T_C_earliestStart T_C_earliestStart [(1, .ref a1), (0, .int a2)] [] M
noncomputable def m_C_latestStart (a1 : Nat) (a2 : Int32) (M : xM) : xR := xE_ T_C_latestStart T_C_latestStart [(1, .ref a1), (0, .int a2)] [] M
noncomputable def m_C_delay (a1 : Nat) (a2 : Int32) (M : xM) : xR := xE_ T_C_delay T_C_delay [(1, .ref a1), (0, .int a2), xJ] [] M
noncomputable def m_D_slackOf (a1 : Nat) (a2 : Int32) (M : xM) : xR := xE_ T_D_slackOf T_D_slackOf [(10, .ref a1), (0, .int a2)] [] M
noncomputable def m_C_slack (a1 : Nat) (a2 : Int32) (M : xM) : xR := xE_ T_C_slack T_C_slack [(1, .ref a1), (0, .int a2)] [] M
noncomputable def m_C_requireDay (a1 : Int32) (M : xM) : xR := xE_ T_C_requireDay T_C_requireDay [(0, .int a1)] [] M
noncomputable def m_C_usage (a1 : Nat) (a2 : Int32) (a3 : Int32) (M : xM) : xR := xE_ T_C_usage T_C_usage [(1, .ref a1), (0, .int a2), (0, .int a3)] [] M
noncomputable def m_C_peakUsage (a1 : Nat) (a2 : Int32) (M : xM) : xR := xE_ T_C_peakUsage T_C_peakUsage [(1, .ref a1), (0, .int a2)] [] M
noncomputable def m_C_lowerBound (a1 : Nat) (M : xM) : xR := xE_ T_C_lowerBound T_C_lowerBound [(1, .ref a1)] [] M
noncomputable def m_Q_agrees (a1 : Nat) (M : xM) : xR := xE_ T_Q_agrees T_Q_agrees [(27, .ref a1), xJ, xJ, xJ, xJ, xJ] [] M
noncomputable def b_Q_agrees_30 (v0 : Nat) (v1 : Int32) (v2 : Int32) (M : xM) : xR := xE_ T_Q_agrees (T_Q_agrees.drop 30) [(27, .ref v0), (0, .int v1), (0, .int v2), xJ, xJ, xJ] [] M
noncomputable def b_Q_agrees_148 (v0 : Nat) (v1 : Int32) (v2 : Int32) (M : xM) : xR := xE_ T_Q_agrees (T_Q_agrees.drop 148) [(27, .ref v0), (0, .int v1), (0, .int v2), xJ, xJ, xJ] [] M
noncomputable def b_Q_agrees_115 (v0 : Nat) (v1 : Int32) (v2 : Int32) (v3 : Int32) (M : xM) : xR := xE_ T_Q_agrees (T_Q_agrees.drop 115) [(27, .ref v0), (0, .int v1), (0, .int v2), (0, .int v3), xJ, xJ] [] M
noncomputable def b_Q_agrees_158 (v0 : Nat) (v1 : Int32) (v2 : Int32) (v3 : Int32) (v4 : Int32) (M : xM) : xR := xE_ T_Q_agrees (T_Q_agrees.drop 158) [(27, .ref v0), (0, .int v1), (0, .int v2), (0, .int v3), (0, .int v4), xJ] [] M
noncomputable def m_C_requireRule (a1 : Int32) (M : xM) : xR := xE_ T_C_requireRule T_C_requireRule [(0, .int a1)] [] M
noncomputable def m_C_lengthWithRule (a1 : Nat) (a2 : Int32) (M : xM) : xR := xE_ T_C_lengthWithRule T_C_lengthWithRule [(1, .ref a1), (0, .int a2)] [] M
noncomputable def m_C_makespanWith (a1 : Nat) (a2 : Int32) (M : xM) : xR := xE_ T_C_makespanWith T_C_makespanWith [(1, .ref a1), (0, .int a2)] [] M
noncomputable def m_C_requireDuration (a1 : Int32) (M : xM) : xR := xE_ T_C_requireDuration T_C_requireDuration [(0, .int a1)] [] M
noncomputable def m_H_remember (a1 : Nat) (a2 : Nat) (M : xM) : xR := xE_ T_H_remember T_H_remember [(17, .ref a1), (2, .ref a2)] [] M
noncomputable def m_P_changeDuration (a1 : Nat) (a2 : Int32) (a3 : Int32) (M : xM) : xR := xE_ T_P_changeDuration T_P_changeDuration [(2, .ref a1), (0, .int a2), (0, .int a3)] [] M
noncomputable def m_C_setDuration (a1 : Nat) (a2 : Int32) (a3 : Int32) (M : xM) : xR := xE_ T_C_setDuration T_C_setDuration [(1, .ref a1), (0, .int a2), (0, .int a3), xJ] [] M
noncomputable def m_P_changeDemand (a1 : Nat) (a2 : Int32) (a3 : Int32) (a4 : Int32) (M : xM) : xR := xE_ T_P_changeDemand T_P_changeDemand [(2, .ref a1), (0, .int a2), (0, .int a3), (0, .int a4)] [] M
noncomputable def m_C_setDemand (a1 : Nat) (a2 : Int32) (a3 : Int32) (a4 : Int32) (M : xM) : xR := xE_ T_C_setDemand T_C_setDemand [(1, .ref a1), (0, .int a2), (0, .int a3), (0, .int a4), xJ] [] M
noncomputable def m_P_changeRelease (a1 : Nat) (a2 : Int32) (a3 : Int32) (M : xM) : xR := xE_ T_P_changeRelease T_P_changeRelease [(2, .ref a1), (0, .int a2), (0, .int a3)] [] M
noncomputable def m_C_setRelease (a1 : Nat) (a2 : Int32) (a3 : Int32) (M : xM) : xR := xE_ T_C_setRelease T_C_setRelease [(1, .ref a1), (0, .int a2), (0, .int a3), xJ] [] M
noncomputable def m_P_predecessorsOf (a1 : Nat) (a2 : Int32) (M : xM) : xR := xE_ T_P_predecessorsOf T_P_predecessorsOf [(2, .ref a1), (0, .int a2), xJ, xJ] [] M
noncomputable def b_P_predecessorsOf_5 (v0 : Nat) (v1 : Int32) (v2 : Int32) (v3 : Int32) (M : xM) : xR := xE_ T_P_predecessorsOf (T_P_predecessorsOf.drop 5) [(2, .ref v0), (0, .int v1), (0, .int v2), (0, .int v3)] [] M
noncomputable def m_P_cycleLength (a1 : Nat) (a2 : Int32) (a3 : Int32) (M : xM) : xR := xE_ T_P_cycleLength T_P_cycleLength [(2, .ref a1), (0, .int a2), (0, .int a3), xJ, xJ] [] M
noncomputable def b_P_cycleLength_7 (v0 : Nat) (v2 : Int32) (v3 : Int32) (v4 : Int32) (M : xM) : xR := xE_ T_P_cycleLength (T_P_cycleLength.drop 7) [(2, .ref v0), xJ, (0, .int v2), (0, .int v3), (0, .int v4)] [] M
noncomputable def m_C_closedCycleLength (a1 : Nat) (a2 : Int32) (a3 : Int32) (M : xM) : xR := xE_ T_C_closedCycleLength T_C_closedCycleLength [(1, .ref a1), (0, .int a2), (0, .int a3)] [] M
noncomputable def m_P_canLink (a1 : Nat) (a2 : Int32) (a3 : Int32) (M : xM) : xR := xE_ T_P_canLink T_P_canLink [(2, .ref a1), (0, .int a2), (0, .int a3)] [] M
noncomputable def m_P_link (a1 : Nat) (a2 : Int32) (a3 : Int32) (M : xM) : xR := xE_ T_P_link T_P_link [(2, .ref a1), (0, .int a2), (0, .int a3)] [] M
noncomputable def m_JI_bitCount (a1 : Int32) (M : xM) : xR := xE_ T_JI_bitCount T_JI_bitCount [(0, .int a1)] [] M
noncomputable def m_P_countLinks (a1 : Nat) (M : xM) : xR := xE_ T_P_countLinks T_P_countLinks [(2, .ref a1), xJ, xJ] [] M
noncomputable def b_P_countLinks_5 (v0 : Nat) (v1 : Int32) (v2 : Int32) (M : xM) : xR := xE_ T_P_countLinks (T_P_countLinks.drop 5) [(2, .ref v0), (0, .int v1), (0, .int v2)] [] M
noncomputable def m_C_addLink (a1 : Nat) (a2 : Int32) (a3 : Int32) (M : xM) : xR := xE_ T_C_addLink T_C_addLink [(1, .ref a1), (0, .int a2), (0, .int a3)] [] M
noncomputable def m_P_unlink (a1 : Nat) (a2 : Int32) (a3 : Int32) (M : xM) : xR := xE_ T_P_unlink T_P_unlink [(2, .ref a1), (0, .int a2), (0, .int a3)] [] M
noncomputable def m_C_removeLink (a1 : Nat) (a2 : Int32) (a3 : Int32) (M : xM) : xR := xE_ T_C_removeLink T_C_removeLink [(1, .ref a1), (0, .int a2), (0, .int a3)] [] M
noncomputable def m_P_greatestDemand (a1 : Nat) (a2 : Int32) (M : xM) : xR := xE_ T_P_greatestDemand T_P_greatestDemand [(2, .ref a1), (0, .int a2), xJ, xJ] [] M
noncomputable def b_P_greatestDemand_5 (v0 : Nat) (v1 : Int32) (v2 : Int32) (v3 : Int32) (M : xM) : xR := xE_ T_P_greatestDemand (T_P_greatestDemand.drop 5) [(2, .ref v0), (0, .int v1), (0, .int v2), (0, .int v3)] [] M
noncomputable def m_P_changeCapacity (a1 : Nat) (a2 : Int32) (a3 : Int32) (M : xM) : xR := xE_ T_P_changeCapacity T_P_changeCapacity [(2, .ref a1), (0, .int a2), (0, .int a3)] [] M
noncomputable def m_C_setCapacity (a1 : Nat) (a2 : Int32) (a3 : Int32) (M : xM) : xR := xE_ T_C_setCapacity T_C_setCapacity [(1, .ref a1), (0, .int a2), (0, .int a3), xJ] [] M
noncomputable def m_P_moveTask (a1 : Nat) (a2 : Int32) (a3 : Int32) (M : xM) : xR := xE_ T_P_moveTask T_P_moveTask [(2, .ref a1), (0, .int a2), (0, .int a3), xJ] [] M
noncomputable def b_P_moveTask_35 (v0 : Nat) (v1 : Int32) (v2 : Int32) (v3 : Int32) (M : xM) : xR := xE_ T_P_moveTask (T_P_moveTask.drop 35) [(2, .ref v0), (0, .int v1), (0, .int v2), (0, .int v3)] [] M
noncomputable def m_P_withoutBit (a1 : Int32) (a2 : Int32) (M : xM) : xR := xE_ T_P_withoutBit T_P_withoutBit [(0, .int a1), (0, .int a2), xJ] [] M
noncomputable def m_P_removeTask (a1 : Nat) (a2 : Int32) (M : xM) : xR := xE_ T_P_removeTask T_P_removeTask [(2, .ref a1), (0, .int a2), xJ] [] M
noncomputable def b_P_removeTask_19 (v0 : Nat) (v1 : Int32) (v2 : Int32) (M : xM) : xR := xE_ T_P_removeTask (T_P_removeTask.drop 19) [(2, .ref v0), (0, .int v1), (0, .int v2)] [] M
noncomputable def b_P_removeTask_34 (v0 : Nat) (v1 : Int32) (v2 : Int32) (M : xM) : xR := xE_ T_P_removeTask (T_P_removeTask.drop 34) [(2, .ref v0), (0, .int v1), (0, .int v2)] [] M
noncomputable def m_C_dropTask (a1 : Nat) (a2 : Int32) (M : xM) : xR := xE_ T_C_dropTask T_C_dropTask [(1, .ref a1), (0, .int a2)] [] M
noncomputable def m_P_changeRule (a1 : Nat) (a2 : Int32) (M : xM) : xR := xE_ T_P_changeRule T_P_changeRule [(2, .ref a1), (0, .int a2)] [] M
noncomputable def m_C_setRule (a1 : Nat) (a2 : Int32) (M : xM) : xR := xE_ T_C_setRule T_C_setRule [(1, .ref a1), (0, .int a2), xJ] [] M
noncomputable def m_L_act (a1 : Nat) (a2 : Int32) (M : xM) : xR := xE_ T_L_act T_L_act [(1, .ref a1), (0, .int a2), xJ, xJ, xJ, xJ, xJ] [] M
noncomputable def b_L_act_94 (v0 : Nat) (v1 : Int32) (v4 : Int32) (v5 : Int32) (v6 : Int32) (M : xM) : xR := xE_ T_L_act (T_L_act.drop 94) [(1, .ref v0), (0, .int v1), xJ, xJ, (0, .int v4), (0, .int v5), (0, .int v6)] [] M
noncomputable def m_L_law (a1 : Nat) (M : xM) : xR := xE_ T_L_law T_L_law [(41, .ref a1), xJ, xJ, xJ, xJ, xJ, xJ, xJ] [] M
noncomputable def b_L_law_34 (v0 : Nat) (v1 : Nat) (v4 : Int32) (M : xM) : xR := xE_ T_L_law (T_L_law.drop 34) [(41, .ref v0), (1, .ref v1), xJ, xJ, (0, .int v4), xJ, xJ, xJ] [] M
set_option maxRecDepth 100000 in
theorem e_m_P_init (a1 : Nat) (M : xM) : m_P_init a1 M = (if 3 = Int32.ofNat 3 then (if (gn M 101 3 0) = a1 then (if 3 = Int32.ofNat 3 then (if (gn (xnew M 3 3) 101 4 0) = a1 then (if 12 = Int32.ofNat 12 then (if (gn (xnew (xst (xnew M 3 3) 202 a1 3 (.ref 1)) 4 3) 101 5 0) = a1 then (if 12 = Int32.ofNat 12 then (if (gn (xnew (xst (xnew (xst (xnew M 3 3) 202 a1 3 (.ref 1)) 4 3) 202 a1 4 (.ref 1)) 5 12) 101 6 0) = a1 then (if 12 = Int32.ofNat 12 then (if (gn (xnew (xst (xnew (xst (xnew (xst (xnew M 3 3) 202 a1 3 (.ref 1)) 4 3) 202 a1 4 (.ref 1)) 5 12) 202 a1 5 (.ref 1)) 6 12) 101 7 0) = a1 then (if 12 = Int32.ofNat 12 then (if (gn (xnew (xst (xnew (xst (xnew (xst (xnew (xst (xnew M 3 3) 202 a1 3 (.ref 1)) 4 3) 202 a1 4 (.ref 1)) 5 12) 202 a1 5 (.ref 1)) 6 12) 202 a1 6 (.ref 1)) 7 12) 101 8 0) = a1 then (if 36 = Int32.ofNat 36 then (if (gn (xnew (xst (xnew (xst (xnew (xst (xnew (xst (xnew (xst (xnew M 3 3) 202 a1 3 (.ref 1)) 4 3) 202 a1 4 (.ref 1)) 5 12) 202 a1 5 (.ref 1)) 6 12) 202 a1 6 (.ref 1)) 7 12) 202 a1 7 (.ref 1)) 8 12) 101 9 0) = a1 then (some (.inl none, (xst (xnew (xst (xnew (xst (xnew (xst (xnew (xst (xnew (xst (xnew (xst (xnew M 3 3) 202 a1 3 (.ref 1)) 4 3) 202 a1 4 (.ref 1)) 5 12) 202 a1 5 (.ref 1)) 6 12) 202 a1 6 (.ref 1)) 7 12) 202 a1 7 (.ref 1)) 8 12) 202 a1 8 (.ref 1)) 9 36) 202 a1 9 (.ref 1)))) else none) else none) else none) else none) else none) else none) else none) else none) else none) else none) else none) else none) else none) else none) := (xEv_unf 400 xtab xml _ _ _ _ M).trans rfl
set_option maxRecDepth 100000 in
theorem e_m_H_init (a1 : Nat) (M : xM) : m_H_init a1 M = (if 6 = Int32.ofNat 6 then (if (gn M 101 18 0) = a1 then (b_H_init_9 a1 0 (xst (xnew M 18 6) 217 a1 0 (.ref 1))) else none) else none) := (xEv_unf 400 xtab xml _ _ _ _ M).trans rfl
set_option maxRecDepth 100000 in
theorem e_b_H_init_9 (v0 : Nat) (v1 : Int32) (M : xM) : b_H_init_9 v0 v1 M = (if v1 < 6 then (if (gn M 217 v0 0) = 1 then (xbV (xret (m_P_init (gn M 101 2 0) (xnew M 2 10))) (fun M1 => (xck v1 6 (if (gn M 101 2 0) = (ix v1 + 1) then (b_H_init_9 v0 (v1 + 1) (xst M1 218 v0 (ix v1) (.ref 1))) else none)))) else none) else (some (.inl none, M))) := (xEv_unf 400 xtab xml _ _ _ _ M).trans rfl
set_option maxRecDepth 100000 in
theorem e_m_I_init (a1 : Nat) (M : xM) : m_I_init a1 M = (if 600 = Int32.ofNat 600 then (if (gn M 101 20 0) = a1 then (some (.inl none, (xst (xnew M 20 600) 219 a1 0 (.ref 1)))) else none) else none) := (xEv_unf 400 xtab xml _ _ _ _ M).trans rfl
set_option maxRecDepth 100000 in
theorem e_m_T_init (a1 : Nat) (M : xM) : m_T_init a1 M = (xbV (xret (m_I_init (gn M 101 19 0) (xnew M 19 2))) (fun M1 => (if (gn M 101 19 0) = a1 then (some (.inl none, (xst (xst (xst (xst M1 221 a1 0 (.ref 1)) 21 a1 3 (.ref 4)) 221 a1 3 (.ref 1)) 21 a1 9 (.int (-1))))) else none))) := (xEv_unf 400 xtab xml _ _ _ _ M).trans rfl
set_option maxRecDepth 100000 in
theorem e_m_K_init (a1 : Nat) (M : xM) : m_K_init a1 M = (some (.inl none, (xst (xst M 24 a1 0 (.ref 0)) 224 a1 0 (.ref 1)))) := (xEv_unf 400 xtab xml _ _ _ _ M).trans rfl
set_option maxRecDepth 100000 in
theorem e_m_R_init (a1 : Nat) (M : xM) : m_R_init a1 M = (if 30 = Int32.ofNat 30 then (if (gn M 101 23 0) = a1 then (b_R_init_9 a1 0 (xst (xnew M 23 30) 222 a1 0 (.ref 1))) else none) else none) := (xEv_unf 400 xtab xml _ _ _ _ M).trans rfl
set_option maxRecDepth 100000 in
theorem e_b_R_init_9 (v0 : Nat) (v1 : Int32) (M : xM) : b_R_init_9 v0 v1 M = (if v1 < 30 then (if (gn M 222 v0 0) = 1 then (xbV (xret (m_K_init (gn M 101 24 0) (xnew M 24 5))) (fun M1 => (xck v1 30 (if (gn M 101 24 0) = (ix v1 + 0) then (b_R_init_9 v0 (v1 + 1) (xst M1 223 v0 (ix v1) (.ref 1))) else none)))) else none) else (some (.inl none, M))) := (xEv_unf 400 xtab xml _ _ _ _ M).trans rfl
set_option maxRecDepth 100000 in
theorem e_m_D_init (a1 : Nat) (M : xM) : m_D_init a1 M = (if 12 = Int32.ofNat 12 then (if (gn M 101 11 0) = a1 then (if 12 = Int32.ofNat 12 then (if (gn (xnew M 11 12) 101 12 0) = a1 then (if 12 = Int32.ofNat 12 then (if (gn (xnew (xst (xnew M 11 12) 210 a1 0 (.ref 1)) 12 12) 101 13 0) = a1 then (if 12 = Int32.ofNat 12 then (if (gn (xnew (xst (xnew (xst (xnew M 11 12) 210 a1 0 (.ref 1)) 12 12) 210 a1 1 (.ref 1)) 13 12) 101 14 0) = a1 then (some (.inl none, (xst (xnew (xst (xnew (xst (xnew (xst (xnew M 11 12) 210 a1 0 (.ref 1)) 12 12) 210 a1 1 (.ref 1)) 13 12) 210 a1 2 (.ref 1)) 14 12) 210 a1 3 (.ref 1)))) else none) else none) else none) else none) else none) else none) else none) else none) := (xEv_unf 400 xtab xml _ _ _ _ M).trans rfl
set_option maxRecDepth 100000 in
theorem e_m_S_init (a1 : Nat) (M : xM) : m_S_init a1 M = (xbV (xret (m_D_init (gn M 101 10 0) (xnew M 10 5))) (fun M1 => (if (gn M 101 10 0) = a1 then (if 12 = Int32.ofNat 12 then (if (gn M1 101 16 0) = a1 then (some (.inl none, (xst (xnew (xst M1 215 a1 0 (.ref 1)) 16 12) 215 a1 1 (.ref 1)))) else none) else none) else none))) := (xEv_unf 400 xtab xml _ _ _ _ M).trans rfl
set_option maxRecDepth 100000 in
theorem e_m_JS_coder (a1 : Nat) (M : xM) : m_JS_coder a1 M = (if (1 : Int32) = 0 then (some (.inl (some (0, .int (xnar 3 1))), M)) else (some (.inl (some (0, .int (xnar 3 (gi M 46 a1 1)))), M))) := (xEv_unf 400 xtab xml _ _ _ _ M).trans rfl
set_option maxRecDepth 100000 in
theorem e_m_JS_length (a1 : Nat) (M : xM) : m_JS_length a1 M = (if (gn M 246 a1 0) = 1 then (xbI (xret (m_JS_coder a1 M)) (fun r2 M1 => (some (.inl (some (0, .int ((Int32.ofNat (gn M 157 a1 0)) >>> (r2 &&& 31) : Int32))), M1)))) else none) := (xEv_unf 400 xtab xml _ _ _ _ M).trans rfl
set_option maxRecDepth 100000 in
theorem e_m_JS_isLatin1 (a1 : Nat) (M : xM) : m_JS_isLatin1 a1 M = (if (1 : Int32) = 0 then (some (.inl (some (0, .int (xnar 1 0))), M)) else (if (gi M 46 a1 1) = 0 then (some (.inl (some (0, .int (xnar 1 1))), M)) else (some (.inl (some (0, .int (xnar 1 0))), M)))) := (xEv_unf 400 xtab xml _ _ _ _ M).trans rfl
set_option maxRecDepth 100000 in
theorem e_m_JS_checkIndex (a1 : Int32) (a2 : Int32) (M : xM) : m_JS_checkIndex a1 a2 M = (xbI (xret (m_JPreconditions_checkIndex a1 a2 0 M)) (fun r2 M1 => (some (.inl none, M1)))) := (xEv_unf 400 xtab xml _ _ _ _ M).trans rfl
set_option maxRecDepth 100000 in
theorem e_m_JL_charAt (a1 : Nat) (a2 : Int32) (M : xM) : m_JL_charAt a1 a2 M = (xbV (xret (m_JS_checkIndex a2 (Int32.ofNat (gn M 157 a1 0)) M)) (fun M1 => (xck a2 (gn M1 157 a1 0) (some (.inl (some (0, .int (xnar 2 (((Int32.toUInt32 ((gi M1 47 a1 (ix a2)) &&& (255 : Int32))) % 65536).toInt32)))), M1))))) := (xEv_unf 400 xtab xml _ _ _ _ M).trans rfl
set_option maxRecDepth 100000 in
theorem e_m_JS_charAt (a1 : Nat) (a2 : Int32) (M : xM) : m_JS_charAt a1 a2 M = (xbI (xret (m_JS_isLatin1 a1 M)) (fun r2 M1 => (if r2 = 0 then (if (gn M1 246 a1 0) = 1 then none else none) else (if (gn M1 246 a1 0) = 1 then (xbI (xret (m_JL_charAt a1 a2 M1)) (fun r4 M3 => (some (.inl (some (0, .int (xnar 2 r4))), M3)))) else none)))) := (xEv_unf 400 xtab xml _ _ _ _ M).trans rfl
set_option maxRecDepth 100000 in
theorem e_m_I_putByte (a1 : Nat) (a2 : Int32) (M : xM) : m_I_putByte a1 a2 M = (if (gi M 19 a1 1) < 600 then (xck (gi M 19 a1 1) 600 (some (.inl none, (xst (xst M 20 a1 (ix (gi M 19 a1 1)) (.int (Int32.toInt8 ((Int32.toInt8 a2).toInt32)).toInt32)) 19 a1 1 (.int ((gi M 19 a1 1) + 1)))))) else (some (.inl none, M))) := (xEv_unf 400 xtab xml _ _ _ _ M).trans rfl
set_option maxRecDepth 100000 in
theorem e_m_I_putText (a1 : Nat) (a2 : Nat) (M : xM) : m_I_putText a1 a2 M = (b_I_putText_3 a1 a2 0 M) := (xEv_unf 400 xtab xml _ _ _ _ M).trans rfl
set_option maxRecDepth 100000 in
theorem e_b_I_putText_3 (v0 : Nat) (v1 : Nat) (v2 : Int32) (M : xM) : b_I_putText_3 v0 v1 v2 M = (xbI (xret (m_JS_length v1 M)) (fun r2 M1 => (if v2 < r2 then (xbI (xret (m_JS_charAt v1 v2 M1)) (fun r4 M3 => (xbV (m_I_putByte v0 r4 M3) (fun M5 => (b_I_putText_3 v0 v1 (v2 + 1) M5))))) else (some (.inl none, M1))))) := (xEv_unf 400 xtab xml _ _ _ _ M).trans rfl
set_option maxRecDepth 100000 in
theorem e_m_T_isSeparator (a1 : Int32) (M : xM) : m_T_isSeparator a1 M = (if a1 = 32 then (some (.inl (some (0, .int (xnar 1 1))), M)) else (if a1 = 10 then (some (.inl (some (0, .int (xnar 1 1))), M)) else (some (.inl (some (0, .int (xnar 1 0))), M)))) := (xEv_unf 400 xtab xml _ _ _ _ M).trans rfl
set_option maxRecDepth 100000 in
theorem e_m_C_isLetter (a1 : Int32) (M : xM) : m_C_isLetter a1 M = (if a1 < 97 then (some (.inl (some (0, .int (xnar 1 0))), M)) else (if 122 < a1 then (some (.inl (some (0, .int (xnar 1 0))), M)) else (some (.inl (some (0, .int (xnar 1 1))), M)))) := (xEv_unf 400 xtab xml _ _ _ _ M).trans rfl
set_option maxRecDepth 100000 in
theorem e_m_T_scanWord (a1 : Nat) (M : xM) : m_T_scanWord a1 M = (b_T_scanWord_1 a1 M) := (xEv_eq xtab xml _ _ _ _ M).trans rfl
set_option maxRecDepth 100000 in
theorem e_b_T_scanWord_1 (v0 : Nat) (M : xM) : b_T_scanWord_1 v0 M = (if (gi M 21 v0 2) < (gi M 19 v0 1) then (xck (gi M 21 v0 2) 600 (xbI (xret (m_C_isLetter (gi M 20 v0 (ix (gi M 21 v0 2))) M)) (fun r2 M1 => (if r2 = 0 then (if 8 < ((gi (xst M1 21 v0 3 (.ref 0)) 21 v0 2) - (gi (xst M1 21 v0 3 (.ref 0)) 21 v0 1)) then (some (.inl none, (xst (xst (xst M1 21 v0 3 (.ref 0)) 21 v0 3 (.ref 3)) 21 v0 4 (.long 0)))) else (some (.inl none, (xst M1 21 v0 3 (.ref 0))))) else (if ((gi M1 21 v0 2) - (gi M1 21 v0 1)) < 8 then (xck (gi M1 21 v0 2) 600 (b_T_scanWord_1 v0 (xst (xst M1 21 v0 4 (.long ((gl M1 21 v0 4) ||| ((Int32.toInt64 (gi M1 20 v0 (ix (gi M1 21 v0 2)))) <<< ((Int32.toInt64 ((8 : Int32) * ((gi M1 21 v0 2) - (gi M1 21 v0 1)))) &&& 63) : Int64)))) 21 v0 2 (.int ((gi (xst M1 21 v0 4 (.long ((gl M1 21 v0 4) ||| ((Int32.toInt64 (gi M1 20 v0 (ix (gi M1 21 v0 2)))) <<< ((Int32.toInt64 ((8 : Int32) * ((gi M1 21 v0 2) - (gi M1 21 v0 1)))) &&& 63) : Int64)))) 21 v0 2) + 1))))) else (b_T_scanWord_1 v0 (xst M1 21 v0 2 (.int ((gi M1 21 v0 2) + 1))))))))) else (if 8 < ((gi (xst M 21 v0 3 (.ref 0)) 21 v0 2) - (gi (xst M 21 v0 3 (.ref 0)) 21 v0 1)) then (some (.inl none, (xst (xst (xst M 21 v0 3 (.ref 0)) 21 v0 3 (.ref 3)) 21 v0 4 (.long 0)))) else (some (.inl none, (xst M 21 v0 3 (.ref 0)))))) := (xEv_unf 400 xtab xml _ _ _ _ M).trans rfl
set_option maxRecDepth 100000 in
theorem e_m_C_isDigit (a1 : Int32) (M : xM) : m_C_isDigit a1 M = (if a1 < 48 then (some (.inl (some (0, .int (xnar 1 0))), M)) else (if 57 < a1 then (some (.inl (some (0, .int (xnar 1 0))), M)) else (some (.inl (some (0, .int (xnar 1 1))), M)))) := (xEv_unf 400 xtab xml _ _ _ _ M).trans rfl
set_option maxRecDepth 100000 in
theorem e_m_T_scanNumber (a1 : Nat) (M : xM) : m_T_scanNumber a1 M = (b_T_scanNumber_1 a1 M) := (xEv_eq xtab xml _ _ _ _ M).trans rfl
set_option maxRecDepth 100000 in
theorem e_b_T_scanNumber_1 (v0 : Nat) (M : xM) : b_T_scanNumber_1 v0 M = (if (gi M 21 v0 2) < (gi M 19 v0 1) then (xck (gi M 21 v0 2) 600 (xbI (xret (m_C_isDigit (gi M 20 v0 (ix (gi M 21 v0 2))) M)) (fun r2 M1 => (if r2 = 0 then (if 3 < ((gi M1 21 v0 2) - (gi M1 21 v0 1)) then (some (.inl none, (xst M1 21 v0 3 (.ref 3)))) else (some (.inl none, (xst M1 21 v0 3 (.ref 1))))) else (if ((gi M1 21 v0 2) - (gi M1 21 v0 1)) < 3 then (xck (gi M1 21 v0 2) 600 (b_T_scanNumber_1 v0 (xst (xst M1 21 v0 5 (.int ((((gi M1 21 v0 5) * (10 : Int32)) + (gi M1 20 v0 (ix (gi M1 21 v0 2)))) - (48 : Int32)))) 21 v0 2 (.int ((gi (xst M1 21 v0 5 (.int ((((gi M1 21 v0 5) * (10 : Int32)) + (gi M1 20 v0 (ix (gi M1 21 v0 2)))) - (48 : Int32)))) 21 v0 2) + 1))))) else (b_T_scanNumber_1 v0 (xst M1 21 v0 2 (.int ((gi M1 21 v0 2) + 1))))))))) else (if 3 < ((gi M 21 v0 2) - (gi M 21 v0 1)) then (some (.inl none, (xst M 21 v0 3 (.ref 3)))) else (some (.inl none, (xst M 21 v0 3 (.ref 1)))))) := (xEv_unf 400 xtab xml _ _ _ _ M).trans rfl
set_option maxRecDepth 100000 in
theorem e_m_T_advance (a1 : Nat) (M : xM) : m_T_advance a1 M = (b_T_advance_5 a1 (xst M 21 a1 1 (.int (gi M 21 a1 2)))) := (xEv_unf 400 xtab xml _ _ _ _ M).trans rfl
set_option maxRecDepth 100000 in
theorem e_b_T_advance_5 (v0 : Nat) (M : xM) : b_T_advance_5 v0 M = (if (gi M 21 v0 1) < (gi M 19 v0 1) then (xck (gi M 21 v0 1) 600 (xbI (m_T_isSeparator (gi M 20 v0 (ix (gi M 21 v0 1))) M) (fun r8 M7 => (if r8 = 0 then (if (gi (xst (xst (xst M7 21 v0 2 (.int (gi M7 21 v0 1))) 21 v0 4 (.long 0)) 21 v0 5 (.int 0)) 21 v0 1) < (gi M7 19 v0 1) then (xck (gi (xst (xst (xst M7 21 v0 2 (.int (gi M7 21 v0 1))) 21 v0 4 (.long 0)) 21 v0 5 (.int 0)) 21 v0 1) 600 (xbI (xret (m_C_isLetter (gi M7 20 v0 (ix (gi (xst (xst (xst M7 21 v0 2 (.int (gi M7 21 v0 1))) 21 v0 4 (.long 0)) 21 v0 5 (.int 0)) 21 v0 1))) (xst (xst (xst M7 21 v0 2 (.int (gi M7 21 v0 1))) 21 v0 4 (.long 0)) 21 v0 5 (.int 0)))) (fun r10 M9 => (if r10 = 0 then (xck (gi M9 21 v0 1) 600 (xbI (xret (m_C_isDigit (gi M9 20 v0 (ix (gi M9 21 v0 1))) M9)) (fun r12 M11 => (if r12 = 0 then (xck (gi M11 21 v0 1) 600 (if (gi M11 20 v0 (ix (gi M11 21 v0 1))) = 59 then (some (.inl none, (xst (xst M11 21 v0 3 (.ref 2)) 21 v0 2 (.int ((gi (xst M11 21 v0 3 (.ref 2)) 21 v0 1) + 1))))) else (some (.inl none, (xst (xst M11 21 v0 3 (.ref 3)) 21 v0 2 (.int ((gi (xst M11 21 v0 3 (.ref 3)) 21 v0 1) + 1))))))) else (xbV (m_T_scanNumber v0 M11) (fun M13 => (some (.inl none, M13)))))))) else (xbV (m_T_scanWord v0 M9) (fun M14 => (some (.inl none, M14)))))))) else (some (.inl none, (xst (xst (xst (xst M7 21 v0 2 (.int (gi M7 21 v0 1))) 21 v0 4 (.long 0)) 21 v0 5 (.int 0)) 21 v0 3 (.ref 4))))) else (b_T_advance_5 v0 (xst M7 21 v0 1 (.int ((gi M7 21 v0 1) + 1)))))))) else (if (gi (xst (xst (xst M 21 v0 2 (.int (gi M 21 v0 1))) 21 v0 4 (.long 0)) 21 v0 5 (.int 0)) 21 v0 1) < (gi M 19 v0 1) then (xck (gi (xst (xst (xst M 21 v0 2 (.int (gi M 21 v0 1))) 21 v0 4 (.long 0)) 21 v0 5 (.int 0)) 21 v0 1) 600 (xbI (xret (m_C_isLetter (gi M 20 v0 (ix (gi (xst (xst (xst M 21 v0 2 (.int (gi M 21 v0 1))) 21 v0 4 (.long 0)) 21 v0 5 (.int 0)) 21 v0 1))) (xst (xst (xst M 21 v0 2 (.int (gi M 21 v0 1))) 21 v0 4 (.long 0)) 21 v0 5 (.int 0)))) (fun r2 M1 => (if r2 = 0 then (xck (gi M1 21 v0 1) 600 (xbI (xret (m_C_isDigit (gi M1 20 v0 (ix (gi M1 21 v0 1))) M1)) (fun r4 M3 => (if r4 = 0 then (xck (gi M3 21 v0 1) 600 (if (gi M3 20 v0 (ix (gi M3 21 v0 1))) = 59 then (some (.inl none, (xst (xst M3 21 v0 3 (.ref 2)) 21 v0 2 (.int ((gi (xst M3 21 v0 3 (.ref 2)) 21 v0 1) + 1))))) else (some (.inl none, (xst (xst M3 21 v0 3 (.ref 3)) 21 v0 2 (.int ((gi (xst M3 21 v0 3 (.ref 3)) 21 v0 1) + 1))))))) else (xbV (m_T_scanNumber v0 M3) (fun M5 => (some (.inl none, M5)))))))) else (xbV (m_T_scanWord v0 M1) (fun M6 => (some (.inl none, M6)))))))) else (some (.inl none, (xst (xst (xst (xst M 21 v0 2 (.int (gi M 21 v0 1))) 21 v0 4 (.long 0)) 21 v0 5 (.int 0)) 21 v0 3 (.ref 4)))))) := (xEv_unf 400 xtab xml _ _ _ _ M).trans rfl
set_option maxRecDepth 100000 in
theorem e_m_T_open (a1 : Nat) (M : xM) : m_T_open a1 M = (xbV (m_T_advance a1 (xst (xst (xst M 21 a1 8 (.int 0)) 21 a1 9 (.int (-1))) 21 a1 2 (.int 0))) (fun M1 => (some (.inl none, M1)))) := (xEv_unf 400 xtab xml _ _ _ _ M).trans rfl
set_option maxRecDepth 100000 in
theorem e_m_C_packed (a1 : Nat) (M : xM) : m_C_packed a1 M = (b_C_packed_5 a1 0 0 M) := (xEv_unf 400 xtab xml _ _ _ _ M).trans rfl
set_option maxRecDepth 100000 in
theorem e_b_C_packed_5 (v0 : Nat) (v1 : Int64) (v3 : Int32) (M : xM) : b_C_packed_5 v0 v1 v3 M = (xbI (xret (m_JS_length v0 M)) (fun r2 M1 => (if v3 < r2 then (xbI (xret (m_JS_charAt v0 v3 M1)) (fun r4 M3 => (b_C_packed_5 v0 (v1 ||| ((Int32.toInt64 r4) <<< ((Int32.toInt64 ((8 : Int32) * v3)) &&& 63) : Int64)) (v3 + 1) M3))) else (some (.inl (some (0, .long v1)), M1))))) := (xEv_unf 400 xtab xml _ _ _ _ M).trans rfl
set_option maxRecDepth 100000 in
theorem e_m_T_isAt (a1 : Nat) (a2 : Nat) (M : xM) : m_T_isAt a1 a2 M = (if (gn M 21 a1 3) = 0 then (xbL (xret (m_C_packed a2 M)) (fun r2 M1 => (if (lg_cmp (gl M 21 a1 4) r2) = 0 then (some (.inl (some (0, .int (xnar 1 1))), M1)) else (some (.inl (some (0, .int (xnar 1 0))), M1))))) else (some (.inl (some (0, .int (xnar 1 0))), M))) := (xEv_unf 400 xtab xml _ _ _ _ M).trans rfl
set_option maxRecDepth 100000 in
theorem e_m_T_fail (a1 : Nat) (a2 : Int32) (M : xM) : m_T_fail a1 a2 M = (some (.inl (some (0, .int (xnar 1 0))), (xst (xst M 21 a1 8 (.int a2)) 21 a1 9 (.int (gi (xst M 21 a1 8 (.int a2)) 21 a1 1))))) := (xEv_unf 400 xtab xml _ _ _ _ M).trans rfl
set_option maxRecDepth 100000 in
theorem e_m_T_takeOpening (a1 : Nat) (a2 : Nat) (a3 : Int32) (M : xM) : m_T_takeOpening a1 a2 a3 M = (xbI (m_T_isAt a1 a2 M) (fun r2 M1 => (if r2 = 0 then (xbI (m_T_fail a1 1 M1) (fun r7 M6 => (some (.inl (some (0, .int (xnar 1 r7))), M6)))) else (if a3 = 0 then (xbI (m_T_fail a1 5 M1) (fun r5 M4 => (some (.inl (some (0, .int (xnar 1 r5))), M4)))) else (xbV (m_T_advance a1 M1) (fun M3 => (some (.inl (some (0, .int (xnar 1 1))), M3)))))))) := (xEv_unf 400 xtab xml _ _ _ _ M).trans rfl
set_option maxRecDepth 100000 in
theorem e_m_T_takeNumber (a1 : Nat) (a2 : Int32) (a3 : Int32) (M : xM) : m_T_takeNumber a1 a2 a3 M = (if (gn M 21 a1 3) = 1 then (if (gi M 21 a1 5) < a2 then (xbI (m_T_fail a1 2 M) (fun r2 M1 => (some (.inl (some (0, .int (xnar 1 r2))), M1)))) else (if a3 < (gi M 21 a1 5) then (xbI (m_T_fail a1 2 M) (fun r5 M4 => (some (.inl (some (0, .int (xnar 1 r5))), M4)))) else (xbV (m_T_advance a1 (xst M 21 a1 7 (.int (gi M 21 a1 5)))) (fun M3 => (some (.inl (some (0, .int (xnar 1 1))), M3)))))) else (xbI (m_T_fail a1 1 M) (fun r7 M6 => (some (.inl (some (0, .int (xnar 1 r7))), M6))))) := (xEv_unf 400 xtab xml _ _ _ _ M).trans rfl
set_option maxRecDepth 100000 in
theorem e_m_T_takeSemicolon (a1 : Nat) (M : xM) : m_T_takeSemicolon a1 M = (if (gn M 21 a1 3) = 2 then (xbV (m_T_advance a1 M) (fun M1 => (some (.inl (some (0, .int (xnar 1 1))), M1)))) else (xbI (m_T_fail a1 1 M) (fun r3 M2 => (some (.inl (some (0, .int (xnar 1 r3))), M2))))) := (xEv_unf 400 xtab xml _ _ _ _ M).trans rfl
set_option maxRecDepth 100000 in
theorem e_m_U_readHead (a1 : Nat) (a2 : Nat) (M : xM) : m_U_readHead a1 a2 M = (xbI (m_T_takeOpening a1 4 1 M) (fun r2 M1 => (if r2 = 0 then (some (.inl (some (0, .int (xnar 1 0))), M1)) else (xbI (m_T_takeNumber a1 0 3 M1) (fun r4 M3 => (if r4 = 0 then (some (.inl (some (0, .int (xnar 1 0))), M3)) else (xbI (m_T_takeSemicolon a1 (xst M3 2 a2 0 (.int (gi M3 21 a1 7)))) (fun r6 M5 => (some (.inl (some (0, .int (xnar 1 r6))), M5)))))))))) := (xEv_unf 400 xtab xml _ _ _ _ M).trans rfl
set_option maxRecDepth 100000 in
theorem e_m_P_resourceNamed (a1 : Nat) (a2 : Int64) (M : xM) : m_P_resourceNamed a1 a2 M = (b_P_resourceNamed_3 a1 a2 0 M) := (xEv_unf 400 xtab xml _ _ _ _ M).trans rfl
set_option maxRecDepth 100000 in
theorem e_b_P_resourceNamed_3 (v0 : Nat) (v1 : Int64) (v3 : Int32) (M : xM) : b_P_resourceNamed_3 v0 v1 v3 M = (if v3 < (gi M 2 v0 1) then (xck v3 3 (if (lg_cmp (gl M 3 v0 (ix v3)) v1) = 0 then (some (.inl (some (0, .int v3)), M)) else (b_P_resourceNamed_3 v0 v1 (v3 + 1) M))) else (some (.inl (some (0, .int (-1))), M))) := (xEv_unf 400 xtab xml _ _ _ _ M).trans rfl
set_option maxRecDepth 100000 in
theorem e_m_T_takeNewName (a1 : Nat) (a2 : Int32) (M : xM) : m_T_takeNewName a1 a2 M = (if (gn M 21 a1 3) = 0 then (if 6 < ((gi M 21 a1 2) - (gi M 21 a1 1)) then (xbI (m_T_fail a1 3 M) (fun r2 M1 => (some (.inl (some (0, .int (xnar 1 r2))), M1)))) else (if a2 = (-1) then (xbV (m_T_advance a1 (xst M 21 a1 6 (.long (gl M 21 a1 4)))) (fun M3 => (some (.inl (some (0, .int (xnar 1 1))), M3)))) else (xbI (m_T_fail a1 3 M) (fun r5 M4 => (some (.inl (some (0, .int (xnar 1 r5))), M4)))))) else (xbI (m_T_fail a1 1 M) (fun r7 M6 => (some (.inl (some (0, .int (xnar 1 r7))), M6))))) := (xEv_unf 400 xtab xml _ _ _ _ M).trans rfl
set_option maxRecDepth 100000 in
theorem e_m_U_readResource (a1 : Nat) (a2 : Nat) (M : xM) : m_U_readResource a1 a2 M = (if (gi M 2 a2 1) < 3 then (xbI (m_T_takeOpening a1 5 1 M) (fun r12 M11 => (if r12 = 0 then (some (.inl (some (0, .int (xnar 1 0))), M11)) else (xbI (m_P_resourceNamed a2 (gl M11 21 a1 4) M11) (fun r14 M13 => (xbI (m_T_takeNewName a1 r14 M13) (fun r16 M15 => (if r16 = 0 then (some (.inl (some (0, .int (xnar 1 0))), M15)) else (xbI (m_T_takeNumber a1 1 9 M15) (fun r18 M17 => (if r18 = 0 then (some (.inl (some (0, .int (xnar 1 0))), M17)) else (xck (gi M 2 a2 1) 3 (xck (gi M 2 a2 1) 3 (xbI (m_T_takeSemicolon a1 (xst (xst (xst M17 3 a2 (ix (gi M 2 a2 1)) (.long (gl M17 21 a1 6))) 4 a2 (ix (gi M 2 a2 1)) (.int (gi M17 21 a1 7))) 2 a2 1 (.int ((gi M17 2 a2 1) + 1)))) (fun r20 M19 => (some (.inl (some (0, .int (xnar 1 r20))), M19))))))))))))))))) else (xbI (m_T_takeOpening a1 5 0 M) (fun r2 M1 => (if r2 = 0 then (some (.inl (some (0, .int (xnar 1 0))), M1)) else (xbI (m_P_resourceNamed a2 (gl M1 21 a1 4) M1) (fun r4 M3 => (xbI (m_T_takeNewName a1 r4 M3) (fun r6 M5 => (if r6 = 0 then (some (.inl (some (0, .int (xnar 1 0))), M5)) else (xbI (m_T_takeNumber a1 1 9 M5) (fun r8 M7 => (if r8 = 0 then (some (.inl (some (0, .int (xnar 1 0))), M7)) else (xck (gi M 2 a2 1) 3 (xck (gi M 2 a2 1) 3 (xbI (m_T_takeSemicolon a1 (xst (xst (xst M7 3 a2 (ix (gi M 2 a2 1)) (.long (gl M7 21 a1 6))) 4 a2 (ix (gi M 2 a2 1)) (.int (gi M7 21 a1 7))) 2 a2 1 (.int ((gi M7 2 a2 1) + 1)))) (fun r10 M9 => (some (.inl (some (0, .int (xnar 1 r10))), M9)))))))))))))))))) := (xEv_unf 400 xtab xml _ _ _ _ M).trans rfl
set_option maxRecDepth 100000 in
theorem e_m_P_taskNamed (a1 : Nat) (a2 : Int64) (M : xM) : m_P_taskNamed a1 a2 M = (b_P_taskNamed_3 a1 a2 0 M) := (xEv_unf 400 xtab xml _ _ _ _ M).trans rfl
set_option maxRecDepth 100000 in
theorem e_b_P_taskNamed_3 (v0 : Nat) (v1 : Int64) (v3 : Int32) (M : xM) : b_P_taskNamed_3 v0 v1 v3 M = (if v3 < (gi M 2 v0 2) then (xck v3 12 (if (lg_cmp (gl M 5 v0 (ix v3)) v1) = 0 then (some (.inl (some (0, .int v3)), M)) else (b_P_taskNamed_3 v0 v1 (v3 + 1) M))) else (some (.inl (some (0, .int (-1))), M))) := (xEv_unf 400 xtab xml _ _ _ _ M).trans rfl
set_option maxRecDepth 100000 in
theorem e_m_U_readDemands (a1 : Nat) (a2 : Nat) (a3 : Int32) (M : xM) : m_U_readDemands a1 a2 a3 M = (b_U_readDemands_3 a1 a2 a3 0 M) := (xEv_unf 400 xtab xml _ _ _ _ M).trans rfl
set_option maxRecDepth 100000 in
theorem e_b_U_readDemands_3 (v0 : Nat) (v1 : Nat) (v2 : Int32) (v3 : Int32) (M : xM) : b_U_readDemands_3 v0 v1 v2 v3 M = (if v3 < (gi M 2 v1 1) then (xck v3 3 (xbI (m_T_takeNumber v0 0 (gi M 4 v1 (ix v3)) M) (fun r2 M1 => (if r2 = 0 then (some (.inl (some (0, .int (xnar 1 0))), M1)) else (xck ((v2 * (3 : Int32)) + v3) 36 (b_U_readDemands_3 v0 v1 v2 (v3 + 1) (xst M1 9 v1 (ix ((v2 * (3 : Int32)) + v3)) (.int (gi M1 21 v0 7))))))))) else (some (.inl (some (0, .int (xnar 1 1))), M))) := (xEv_unf 400 xtab xml _ _ _ _ M).trans rfl
set_option maxRecDepth 100000 in
theorem e_m_T_isAtKnownName (a1 : Nat) (a2 : Int32) (M : xM) : m_T_isAtKnownName a1 a2 M = (if (gn M 21 a1 3) = 0 then (if a2 = (-1) then (xbI (m_T_fail a1 3 M) (fun r2 M1 => (if r2 = 0 then (some (.inl (some (0, .int (xnar 1 0))), M1)) else (some (.inl (some (0, .int (xnar 1 1))), M1))))) else (some (.inl (some (0, .int (xnar 1 1))), M))) else (xbI (m_T_fail a1 1 M) (fun r4 M3 => (some (.inl (some (0, .int (xnar 1 r4))), M3))))) := (xEv_unf 400 xtab xml _ _ _ _ M).trans rfl
set_option maxRecDepth 100000 in
theorem e_m_C_contains (a1 : Int32) (a2 : Int32) (M : xM) : m_C_contains a1 a2 M = (if ((a1 >>> (a2 &&& 31) : Int32) &&& (1 : Int32)) = 0 then (some (.inl (some (0, .int (xnar 1 0))), M)) else (some (.inl (some (0, .int (xnar 1 1))), M))) := (xEv_unf 400 xtab xml _ _ _ _ M).trans rfl
set_option maxRecDepth 100000 in
theorem e_m_P_isLinked (a1 : Nat) (a2 : Int32) (a3 : Int32) (M : xM) : m_P_isLinked a1 a2 a3 M = (xck a3 12 (xbI (xret (m_C_contains (gi M 8 a1 (ix a3)) a2 M)) (fun r2 M1 => (some (.inl (some (0, .int (xnar 1 r2))), M1))))) := (xEv_unf 400 xtab xml _ _ _ _ M).trans rfl
set_option maxRecDepth 100000 in
theorem e_m_U_readLinks (a1 : Nat) (a2 : Nat) (a3 : Int32) (M : xM) : m_U_readLinks a1 a2 a3 M = (xbI (m_T_isAt a1 7 M) (fun r2 M1 => (if r2 = 0 then (some (.inl (some (0, .int (xnar 1 1))), M1)) else (xbV (m_T_advance a1 M1) (fun M3 => (b_U_readLinks_11 a1 a2 a3 0 M3)))))) := (xEv_unf 400 xtab xml _ _ _ _ M).trans rfl
set_option maxRecDepth 100000 in
theorem e_b_U_readLinks_11 (v0 : Nat) (v1 : Nat) (v2 : Int32) (v3 : Int32) (M : xM) : b_U_readLinks_11 v0 v1 v2 v3 M = (if v3 = 0 then (xbI (m_P_taskNamed v1 (gl M 21 v0 4) M) (fun r2 M1 => (xbI (m_T_isAtKnownName v0 r2 M1) (fun r4 M3 => (if r4 = 0 then (some (.inl (some (0, .int (xnar 1 0))), M3)) else (xbI (m_P_isLinked v1 r2 v2 M3) (fun r6 M5 => (if r6 = 0 then (xck v2 12 (xck v2 12 (xbV (m_T_advance v0 (xst M5 8 v1 (ix v2) (.int ((gi M5 8 v1 (ix v2)) ||| ((1 : Int32) <<< (r2 &&& 31) : Int32))))) (fun M7 => (b_U_readLinks_11 v0 v1 v2 (v3 + 1) M7))))) else (xbI (m_T_fail v0 4 M5) (fun r9 M8 => (some (.inl (some (0, .int (xnar 1 r9))), M8)))))))))))) else (if 12 < v3 then (some (.inl (some (0, .int (xnar 1 1))), M)) else (if (gn M 21 v0 3) = 0 then (xbI (m_P_taskNamed v1 (gl M 21 v0 4) M) (fun r11 M10 => (xbI (m_T_isAtKnownName v0 r11 M10) (fun r13 M12 => (if r13 = 0 then (some (.inl (some (0, .int (xnar 1 0))), M12)) else (xbI (m_P_isLinked v1 r11 v2 M12) (fun r15 M14 => (if r15 = 0 then (xck v2 12 (xck v2 12 (xbV (m_T_advance v0 (xst M14 8 v1 (ix v2) (.int ((gi M14 8 v1 (ix v2)) ||| ((1 : Int32) <<< (r11 &&& 31) : Int32))))) (fun M16 => (b_U_readLinks_11 v0 v1 v2 (v3 + 1) M16))))) else (xbI (m_T_fail v0 4 M14) (fun r18 M17 => (some (.inl (some (0, .int (xnar 1 r18))), M17)))))))))))) else (some (.inl (some (0, .int (xnar 1 1))), M))))) := (xEv_unf 400 xtab xml _ _ _ _ M).trans rfl
set_option maxRecDepth 100000 in
theorem e_m_U_readTask (a1 : Nat) (a2 : Nat) (M : xM) : m_U_readTask a1 a2 M = (if (gi M 2 a2 2) < 12 then (xbI (m_T_takeOpening a1 6 1 M) (fun r16 M15 => (if r16 = 0 then (some (.inl (some (0, .int (xnar 1 0))), M15)) else (xbI (m_P_taskNamed a2 (gl M15 21 a1 4) M15) (fun r18 M17 => (xbI (m_T_takeNewName a1 r18 M17) (fun r20 M19 => (if r20 = 0 then (some (.inl (some (0, .int (xnar 1 0))), M19)) else (xbI (m_T_takeNumber a1 1 30 M19) (fun r22 M21 => (if r22 = 0 then (some (.inl (some (0, .int (xnar 1 0))), M21)) else (xck (gi M 2 a2 2) 12 (xck (gi M 2 a2 2) 12 (xck (gi M 2 a2 2) 12 (xck (gi M 2 a2 2) 12 (xbI (m_U_readDemands a1 a2 (gi M 2 a2 2) (xst (xst (xst (xst M21 5 a2 (ix (gi M 2 a2 2)) (.long (gl M21 21 a1 6))) 6 a2 (ix (gi M 2 a2 2)) (.int (gi M21 21 a1 7))) 7 a2 (ix (gi M 2 a2 2)) (.int 0)) 8 a2 (ix (gi M 2 a2 2)) (.int 0))) (fun r24 M23 => (if r24 = 0 then (some (.inl (some (0, .int (xnar 1 0))), M23)) else (xbI (m_U_readLinks a1 a2 (gi M 2 a2 2) M23) (fun r26 M25 => (if r26 = 0 then (some (.inl (some (0, .int (xnar 1 0))), M25)) else (xbI (m_T_takeSemicolon a1 (xst M25 2 a2 2 (.int ((gi M25 2 a2 2) + 1)))) (fun r28 M27 => (some (.inl (some (0, .int (xnar 1 r28))), M27))))))))))))))))))))))))) else (xbI (m_T_takeOpening a1 6 0 M) (fun r2 M1 => (if r2 = 0 then (some (.inl (some (0, .int (xnar 1 0))), M1)) else (xbI (m_P_taskNamed a2 (gl M1 21 a1 4) M1) (fun r4 M3 => (xbI (m_T_takeNewName a1 r4 M3) (fun r6 M5 => (if r6 = 0 then (some (.inl (some (0, .int (xnar 1 0))), M5)) else (xbI (m_T_takeNumber a1 1 30 M5) (fun r8 M7 => (if r8 = 0 then (some (.inl (some (0, .int (xnar 1 0))), M7)) else (xck (gi M 2 a2 2) 12 (xck (gi M 2 a2 2) 12 (xck (gi M 2 a2 2) 12 (xck (gi M 2 a2 2) 12 (xbI (m_U_readDemands a1 a2 (gi M 2 a2 2) (xst (xst (xst (xst M7 5 a2 (ix (gi M 2 a2 2)) (.long (gl M7 21 a1 6))) 6 a2 (ix (gi M 2 a2 2)) (.int (gi M7 21 a1 7))) 7 a2 (ix (gi M 2 a2 2)) (.int 0)) 8 a2 (ix (gi M 2 a2 2)) (.int 0))) (fun r10 M9 => (if r10 = 0 then (some (.inl (some (0, .int (xnar 1 0))), M9)) else (xbI (m_U_readLinks a1 a2 (gi M 2 a2 2) M9) (fun r12 M11 => (if r12 = 0 then (some (.inl (some (0, .int (xnar 1 0))), M11)) else (xbI (m_T_takeSemicolon a1 (xst M11 2 a2 2 (.int ((gi M11 2 a2 2) + 1)))) (fun r14 M13 => (some (.inl (some (0, .int (xnar 1 r14))), M13)))))))))))))))))))))))))) := (xEv_unf 400 xtab xml _ _ _ _ M).trans rfl
set_option maxRecDepth 100000 in
theorem e_m_U_read (a1 : Nat) (a2 : Nat) (M : xM) : m_U_read a1 a2 M = (xbV (m_T_open a1 (xst (xst M 2 a2 1 (.int 0)) 2 a2 2 (.int 0))) (fun M1 => (xbI (m_U_readHead a1 a2 M1) (fun r3 M2 => (if r3 = 0 then (b_U_read_23 a1 a2 0 1 M2) else (xbI (m_U_readResource a1 a2 M2) (fun r5 M4 => (if r5 = 0 then (b_U_read_23 a1 a2 0 1 M4) else (b_U_read_23 a1 a2 1 1 M4))))))))) := (xEv_unf 400 xtab xml _ _ _ _ M).trans rfl
set_option maxRecDepth 100000 in
theorem e_b_U_read_23 (v0 : Nat) (v1 : Nat) (v2 : Int32) (v3 : Int32) (M : xM) : b_U_read_23 v0 v1 v2 v3 M = (if 3 < v3 then (if v2 = 0 then (b_U_read_51 v0 v1 0 1 M) else (xbI (m_U_readTask v0 v1 M) (fun r2 M1 => (if r2 = 0 then (b_U_read_51 v0 v1 0 1 M1) else (b_U_read_51 v0 v1 1 1 M1))))) else (if v2 = 0 then (if v2 = 0 then (b_U_read_51 v0 v1 0 1 M) else (xbI (m_U_readTask v0 v1 M) (fun r4 M3 => (if r4 = 0 then (b_U_read_51 v0 v1 0 1 M3) else (b_U_read_51 v0 v1 1 1 M3))))) else (xbI (m_T_isAt v0 5 M) (fun r6 M5 => (if r6 = 0 then (if v2 = 0 then (b_U_read_51 v0 v1 0 1 M5) else (xbI (m_U_readTask v0 v1 M5) (fun r8 M7 => (if r8 = 0 then (b_U_read_51 v0 v1 0 1 M7) else (b_U_read_51 v0 v1 1 1 M7))))) else (xbI (m_U_readResource v0 v1 M5) (fun r10 M9 => (b_U_read_23 v0 v1 r10 (v3 + 1) M9)))))))) := (xEv_unf 400 xtab xml _ _ _ _ M).trans rfl
set_option maxRecDepth 100000 in
theorem e_b_U_read_51 (v0 : Nat) (v1 : Nat) (v2 : Int32) (v3 : Int32) (M : xM) : b_U_read_51 v0 v1 v2 v3 M = (if 12 < v3 then (some (.inl (some (0, .int (xnar 1 v2))), M)) else (if v2 = 0 then (some (.inl (some (0, .int (xnar 1 v2))), M)) else (if (gn M 21 v0 3) = 4 then (some (.inl (some (0, .int (xnar 1 v2))), M)) else (xbI (m_U_readTask v0 v1 M) (fun r2 M1 => (b_U_read_51 v0 v1 r2 (v3 + 1) M1)))))) := (xEv_unf 400 xtab xml _ _ _ _ M).trans rfl
set_option maxRecDepth 100000 in
theorem e_m_C_init (a1 : Nat) (M : xM) : m_C_init a1 M = (xbV (xret (m_P_init (gn M 101 2 0) (xnew M 2 10))) (fun M1 => (if (gn M 101 2 0) = 0 then (xbV (xret (m_H_init (gn M1 101 17 0) (xnew (xst M1 201 a1 1 (.ref 1)) 17 3))) (fun M2 => (if (gn M1 101 17 0) = 0 then (if 2 = Int32.ofNat 2 then (if (gn M2 101 25 0) = 0 then (if 2 = Int32.ofNat 2 then (if (gn (xnew (xst M2 201 a1 2 (.ref 1)) 25 2) 101 26 0) = 0 then (xbV (xret (m_T_init (gn (xnew (xst (xnew (xst M2 201 a1 2 (.ref 1)) 25 2) 201 a1 3 (.ref 1)) 26 2) 101 21 0) (xnew (xst (xnew (xst (xnew (xst M2 201 a1 2 (.ref 1)) 25 2) 201 a1 3 (.ref 1)) 26 2) 201 a1 4 (.ref 1)) 21 10))) (fun M3 => (if (gn (xnew (xst (xnew (xst M2 201 a1 2 (.ref 1)) 25 2) 201 a1 3 (.ref 1)) 26 2) 101 21 0) = 0 then (xbV (xret (m_R_init (gn M3 101 22 0) (xnew (xst M3 201 a1 5 (.ref 1)) 22 2))) (fun M4 => (if (gn M3 101 22 0) = 0 then (xbV (xret (m_S_init (gn M4 101 15 0) (xnew (xst M4 201 a1 6 (.ref 1)) 15 4))) (fun M5 => (if (gn M4 101 15 0) = 0 then (b_C_init_41 a1 0 (xst (xst (xst M5 201 a1 7 (.ref 1)) 1 a1 8 (.ref 0)) 201 a1 8 (.ref 1))) else none))) else none))) else none))) else none) else none) else none) else none) else none))) else none))) := (xEv_unf 400 xtab xml _ _ _ _ M).trans rfl
set_option maxRecDepth 100000 in
theorem e_b_C_init_41 (v0 : Nat) (v1 : Int32) (M : xM) : b_C_init_41 v0 v1 M = (if v1 < 2 then (if (gn M 201 v0 3) = 1 then (xbV (xret (m_P_init (gn M 101 2 0) (xnew M 2 10))) (fun M8 => (xck v1 2 (if (gn M 101 2 0) = (ix v1 + 7) then (b_C_init_41 v0 (v1 + 1) (xst M8 225 0 (ix v1) (.ref 1))) else none)))) else none) else (xbV (xret (m_T_init (gn M 101 21 0) (xnew M 21 10))) (fun M1 => (if (gn M1 221 (gn M 101 21 0) 0) = 1 then (xgd (xgood (xsl 1) M1 && xain (xsl 1) [(19, .ref (gn M 101 21 0)), (46, .ref 1)]) (xbV (xret (m_I_putText (gn M 101 21 0) 1 M1)) (fun M2 => (if (gn M2 221 (gn M 101 21 0) 0) = 1 then (xgd (xgood (xsl 1) M2 && xain (xsl 1) [(19, .ref (gn M 101 21 0)), (46, .ref 2)]) (xbV (xret (m_I_putText (gn M 101 21 0) 2 M2)) (fun M3 => (if (gn M3 221 (gn M 101 21 0) 0) = 1 then (xgd (xgood (xsl 1) M3 && xain (xsl 1) [(19, .ref (gn M 101 21 0)), (46, .ref 3)]) (xbV (xret (m_I_putText (gn M 101 21 0) 3 M3)) (fun M4 => (xbV (xret (m_P_init (gn M4 101 2 0) (xnew M4 2 10))) (fun M5 => (xgd (xgood (xsl 2) M5 && xain (xsl 2) [(21, .ref (gn M 101 21 0)), (2, .ref (gn M4 101 2 0))]) (xbI (xret (m_U_read (gn M 101 21 0) (gn M4 101 2 0) M5)) (fun r7 M6 => (if (gn M4 101 2 0) = 9 then (some (.inl none, (xst M6 201 v0 0 (.ref 1)))) else none))))))))) else none)))) else none)))) else none)))) := (xEv_unf 400 xtab xml _ _ _ _ M).trans rfl
set_option maxRecDepth 100000 in
theorem e_m_JM_max (a1 : Int32) (a2 : Int32) (M : xM) : m_JM_max a1 a2 M = (if a1 < a2 then (some (.inl (some (0, .int a2)), M)) else (some (.inl (some (0, .int a1)), M))) := (xEv_unf 400 xtab xml _ _ _ _ M).trans rfl
set_option maxRecDepth 100000 in
theorem e_m_JP_newLength (a1 : Int32) (a2 : Int32) (a3 : Int32) (M : xM) : m_JP_newLength a1 a2 a3 M = (xbI (xret (m_JM_max a2 a3 M)) (fun r2 M1 => (if (0 : Int32) < (a1 + r2) then (if 2147483639 < (a1 + r2) then none else (some (.inl (some (0, .int (a1 + r2))), M1))) else none))) := (xEv_unf 400 xtab xml _ _ _ _ M).trans rfl
set_option maxRecDepth 100000 in
theorem e_m_JA_newCapacity (a1 : Nat) (a2 : Int32) (M : xM) : m_JA_newCapacity a1 a2 M = (if (gn M 250 a1 0) = 1 then (xbI (xret (m_JP_newLength (Int32.ofNat (gn M 159 (gn M 50 a1 0) 0)) ((a2 <<< ((gi M 50 a1 1) &&& 31) : Int32) - (Int32.ofNat (gn M 159 (gn M 50 a1 0) 0))) ((Int32.ofNat (gn M 159 (gn M 50 a1 0) 0)) + ((2 : Int32) <<< ((gi M 50 a1 1) &&& 31) : Int32)) M)) (fun r2 M1 => (if r2 = 2147483647 then none else (some (.inl (some (0, .int (r2 >>> ((gi M1 50 a1 1) &&& 31) : Int32))), M1))))) else none) := (xEv_unf 400 xtab xml _ _ _ _ M).trans rfl
set_option maxRecDepth 100000 in
theorem e_m_JM_min (a1 : Int32) (a2 : Int32) (M : xM) : m_JM_min a1 a2 M = (if a2 < a1 then (some (.inl (some (0, .int a2)), M)) else (some (.inl (some (0, .int a1)), M))) := (xEv_unf 400 xtab xml _ _ _ _ M).trans rfl
set_option maxRecDepth 100000 in
theorem e_m_JR_copyOf (a1 : Nat) (a2 : Int32) (M : xM) : m_JR_copyOf a1 a2 M = (if a2 = (Int32.ofNat (gn M 159 a1 0)) then none else (if a2 < 0 ∨ 65536 < ix a2 then none else (xbI (xret (m_JM_min (Int32.ofNat (gn (xnewD M 49 (ix a2)) 159 a1 0)) a2 (xnewD M 49 (ix a2)))) (fun r2 M1 => (if (0 : Int32) < 0 ∨ (0 : Int32) < 0 ∨ r2 < 0 ∨ (gn M1 159 a1 0) < ix 0 + ix r2 ∨ (gn M1 159 (gn M 101 49 0) 0) < ix 0 + ix r2 then none else (some (.inl (some (49, .ref (gn M 101 49 0))), (xcpy M1 49 a1 49 (gn M 101 49 0) (ix 0) (ix 0) (ix r2))))))))) := (xEv_unf 400 xtab xml _ _ _ _ M).trans rfl
set_option maxRecDepth 100000 in
theorem e_m_JA_ensureCapacityInternal (a1 : Nat) (a2 : Int32) (M : xM) : m_JA_ensureCapacityInternal a1 a2 M = (if (gn M 250 a1 0) = 1 then (if 0 < (a2 - ((Int32.ofNat (gn M 159 (gn M 50 a1 0) 0)) >>> ((gi M 50 a1 1) &&& 31) : Int32)) then (if (gn M 250 a1 0) = 1 then (xbI (xret (m_JA_newCapacity a1 a2 M)) (fun r2 M1 => (xbR (xret (m_JR_copyOf (gn M 50 a1 0) (r2 <<< ((gi M1 50 a1 1) &&& 31) : Int32) M1)) 49 (fun r4 M3 => (some (.inl none, (xst (xst M3 50 a1 0 (.ref r4)) 250 a1 0 (.ref 1)))))))) else none) else (some (.inl none, M))) else none) := (xEv_unf 400 xtab xml _ _ _ _ M).trans rfl
set_option maxRecDepth 100000 in
theorem e_m_JA_inflateIfNeededFor (a1 : Nat) (a2 : Nat) (M : xM) : m_JA_inflateIfNeededFor a1 a2 M = (if (1 : Int32) = 0 then (some (.inl none, M)) else (xbI (xret (m_JS_coder a2 M)) (fun r2 M1 => (if (gi M 50 a1 1) = r2 then (some (.inl none, M1)) else none)))) := (xEv_unf 400 xtab xml _ _ _ _ M).trans rfl
set_option maxRecDepth 100000 in
theorem e_m_JS_getBytes (a1 : Nat) (a2 : Nat) (a3 : Int32) (a4 : Int32) (M : xM) : m_JS_getBytes a1 a2 a3 a4 M = (xbI (xret (m_JS_coder a1 M)) (fun r2 M1 => (if r2 = a4 then (if (gn M1 246 a1 0) = 1 then (if (gn M1 246 a1 0) = 1 then (if (0 : Int32) < 0 ∨ (a3 <<< (a4 &&& 31) : Int32) < 0 ∨ (Int32.ofNat (gn M1 157 a1 0)) < 0 ∨ (gn M1 157 a1 0) < ix 0 + ix (Int32.ofNat (gn M1 157 a1 0)) ∨ (gn M1 159 a2 0) < ix (a3 <<< (a4 &&& 31) : Int32) + ix (Int32.ofNat (gn M1 157 a1 0)) then none else (some (.inl none, (xcpy M1 47 a1 49 a2 (ix 0) (ix (a3 <<< (a4 &&& 31) : Int32)) (ix (Int32.ofNat (gn M1 157 a1 0))))))) else none) else none) else (if (gn M1 246 a1 0) = 1 then (if (gn M1 246 a1 0) = 1 then none else none) else none)))) := (xEv_unf 400 xtab xml _ _ _ _ M).trans rfl
set_option maxRecDepth 100000 in
theorem e_m_JA_putStringAt (a1 : Nat) (a2 : Int32) (a3 : Nat) (M : xM) : m_JA_putStringAt a1 a2 a3 M = (xbV (xret (m_JA_inflateIfNeededFor a1 a3 M)) (fun M1 => (if (gn M1 250 a1 0) = 1 then (xbV (xret (m_JS_getBytes a3 (gn M1 50 a1 0) a2 (gi M1 50 a1 1) M1)) (fun M2 => (some (.inl none, M2)))) else none))) := (xEv_unf 400 xtab xml _ _ _ _ M).trans rfl
set_option maxRecDepth 100000 in
theorem e_m_JA_append_0 (a1 : Nat) (a2 : Nat) (M : xM) : m_JA_append_0 a1 a2 M = (xbI (xret (m_JS_length a2 M)) (fun r2 M1 => (xbV (xret (m_JA_ensureCapacityInternal a1 ((gi M1 50 a1 2) + r2) M1)) (fun M3 => (xbV (xret (m_JA_putStringAt a1 (gi M3 50 a1 2) a2 M3)) (fun M4 => (some (.inl (some (50, .ref a1)), (xst M4 50 a1 2 (.int ((gi M4 50 a1 2) + r2))))))))))) := (xEv_unf 400 xtab xml _ _ _ _ M).trans rfl
set_option maxRecDepth 100000 in
theorem e_m_JB_append_0 (a1 : Nat) (a2 : Nat) (M : xM) : m_JB_append_0 a1 a2 M = (xbR (xret (m_JA_append_0 a1 a2 M)) 50 (fun r2 M1 => (some (.inl (some (50, .ref a1)), M1)))) := (xEv_unf 400 xtab xml _ _ _ _ M).trans rfl
set_option maxRecDepth 100000 in
theorem e_m_JB_append_1 (a1 : Nat) (a2 : Nat) (M : xM) : m_JB_append_1 a1 a2 M = (xbR (xret (m_JB_append_0 a1 a2 M)) 50 (fun r2 M1 => (some (.inl (some (50, .ref r2)), M1)))) := (xEv_unf 400 xtab xml _ _ _ _ M).trans rfl
set_option maxRecDepth 100000 in
theorem e_m_JA_init (a1 : Nat) (a2 : Nat) (M : xM) : m_JA_init a1 a2 M = (xbI (xret (m_JS_length a2 M)) (fun r2 M1 => (if r2 < 2147483631 then (xbI (xret (m_JS_coder a2 M1)) (fun r8 M7 => (if r8 = 0 then (if r8 = 0 then (if (r2 + 16) < 0 ∨ 65536 < ix (r2 + 16) then none else (xbR (xret (m_JB_append_1 a1 a2 (xst (xst (xnewD (xst M7 50 a1 1 (.int 0)) 49 (ix (r2 + 16))) 50 a1 0 (.ref (gn M7 101 49 0))) 250 a1 0 (.ref 1)))) 50 (fun r10 M9 => (some (.inl none, M9))))) else none) else none))) else (xbI (xret (m_JS_coder a2 M1)) (fun r4 M3 => (if r4 = 0 then (if r4 = 0 then (if 2147483647 < 0 ∨ 65536 < ix 2147483647 then none else (xbR (xret (m_JB_append_1 a1 a2 (xst (xst (xnewD (xst M3 50 a1 1 (.int 0)) 49 (ix 2147483647)) 50 a1 0 (.ref (gn M3 101 49 0))) 250 a1 0 (.ref 1)))) 50 (fun r6 M5 => (some (.inl none, M5))))) else none) else none)))))) := (xEv_unf 400 xtab xml _ _ _ _ M).trans rfl
set_option maxRecDepth 100000 in
theorem e_m_JB_init (a1 : Nat) (a2 : Nat) (M : xM) : m_JB_init a1 a2 M = (xbV (xret (m_JA_init a1 a2 M)) (fun M1 => (some (.inl none, M1)))) := (xEv_unf 400 xtab xml _ _ _ _ M).trans rfl
set_option maxRecDepth 100000 in
theorem e_m_JI_stringSize (a1 : Int32) (M : xM) : m_JI_stringSize a1 M = (if a1 < 0 then (b_JI_stringSize_14 a1 1 (-10) 1 M) else (b_JI_stringSize_14 (-a1) 0 (-10) 1 M)) := (xEv_unf 400 xtab xml _ _ _ _ M).trans rfl
set_option maxRecDepth 100000 in
theorem e_b_JI_stringSize_14 (v0 : Int32) (v1 : Int32) (v2 : Int32) (v3 : Int32) (M : xM) : b_JI_stringSize_14 v0 v1 v2 v3 M = (if v3 < 10 then (if v2 < v0 then (some (.inl (some (0, .int (v3 + v1))), M)) else (b_JI_stringSize_14 v0 v1 ((10 : Int32) * v2) (v3 + 1) M)) else (some (.inl (some (0, .int ((10 : Int32) + v1))), M))) := (xEv_unf 400 xtab xml _ _ _ _ M).trans rfl
set_option maxRecDepth 100000 in
theorem e_m_JA_isLatin1 (a1 : Nat) (M : xM) : m_JA_isLatin1 a1 M = (if (1 : Int32) = 0 then (some (.inl (some (0, .int (xnar 1 0))), M)) else (if (gi M 50 a1 1) = 0 then (some (.inl (some (0, .int (xnar 1 1))), M)) else (some (.inl (some (0, .int (xnar 1 0))), M)))) := (xEv_unf 400 xtab xml _ _ _ _ M).trans rfl
set_option maxRecDepth 100000 in
theorem e_m_JI_getChars (a1 : Int32) (a2 : Int32) (a3 : Nat) (M : xM) : m_JI_getChars a1 a2 a3 M = (if a1 < 0 then (if (1 : Int32) = 0 then (b_JI_getChars_14 (-a1) a3 a2 1 M) else (b_JI_getChars_14 a1 a3 a2 1 M)) else (if (0 : Int32) = 0 then (b_JI_getChars_14 (-a1) a3 a2 0 M) else (b_JI_getChars_14 a1 a3 a2 0 M))) := (xEv_unf 400 xtab xml _ _ _ _ M).trans rfl
set_option maxRecDepth 100000 in
theorem e_b_JI_getChars_14 (v0 : Int32) (v2 : Nat) (v5 : Int32) (v6 : Int32) (M : xM) : b_JI_getChars_14 v0 v2 v5 v6 M = (if (-100) < v0 then (xck (-v0) 100 (xck (v5 + (-1)) (gn M 159 v2 0) (if v0 < (-9) then (xck (-v0) 100 (xck ((v5 + (-1)) + (-1)) (gn M 159 v2 0) (if v6 = 0 then (some (.inl (some (0, .int ((v5 + (-1)) + (-1)))), (xst (xst M 49 v2 (ix (v5 + (-1))) (.int (Int32.toInt8 (gi M 48 0 (ix (-v0)))).toInt32)) 49 v2 (ix ((v5 + (-1)) + (-1))) (.int (Int32.toInt8 (gi M 52 0 (ix (-v0)))).toInt32)))) else (xck (((v5 + (-1)) + (-1)) + (-1)) (gn M 159 v2 0) (some (.inl (some (0, .int (((v5 + (-1)) + (-1)) + (-1)))), (xst (xst (xst M 49 v2 (ix (v5 + (-1))) (.int (Int32.toInt8 (gi M 48 0 (ix (-v0)))).toInt32)) 49 v2 (ix ((v5 + (-1)) + (-1))) (.int (Int32.toInt8 (gi M 52 0 (ix (-v0)))).toInt32)) 49 v2 (ix (((v5 + (-1)) + (-1)) + (-1))) (.int (Int32.toInt8 45).toInt32)))))))) else (if v6 = 0 then (some (.inl (some (0, .int (v5 + (-1)))), (xst M 49 v2 (ix (v5 + (-1))) (.int (Int32.toInt8 (gi M 48 0 (ix (-v0)))).toInt32)))) else (xck ((v5 + (-1)) + (-1)) (gn M 159 v2 0) (some (.inl (some (0, .int ((v5 + (-1)) + (-1)))), (xst (xst M 49 v2 (ix (v5 + (-1))) (.int (Int32.toInt8 (gi M 48 0 (ix (-v0)))).toInt32)) 49 v2 (ix ((v5 + (-1)) + (-1))) (.int (Int32.toInt8 45).toInt32))))))))) else (if 100 = 0 then none else (xck (((v0 / 100) * (100 : Int32)) - v0) 100 (xck (v5 + (-1)) (gn M 159 v2 0) (xck (((v0 / 100) * (100 : Int32)) - v0) 100 (xck ((v5 + (-1)) + (-1)) (gn M 159 v2 0) (b_JI_getChars_14 (v0 / 100) v2 ((v5 + (-1)) + (-1)) v6 (xst (xst M 49 v2 (ix (v5 + (-1))) (.int (Int32.toInt8 (gi M 48 0 (ix (((v0 / 100) * (100 : Int32)) - v0)))).toInt32)) 49 v2 (ix ((v5 + (-1)) + (-1))) (.int (Int32.toInt8 (gi M 52 0 (ix (((v0 / 100) * (100 : Int32)) - v0)))).toInt32))))))))) := (xEv_unf 400 xtab xml _ _ _ _ M).trans rfl
set_option maxRecDepth 100000 in
theorem e_m_JA_append_1 (a1 : Nat) (a2 : Int32) (M : xM) : m_JA_append_1 a1 a2 M = (xbI (xret (m_JI_stringSize a2 M)) (fun r2 M1 => (xbV (xret (m_JA_ensureCapacityInternal a1 ((gi M 50 a1 2) + r2) M1)) (fun M3 => (xbI (xret (m_JA_isLatin1 a1 M3)) (fun r5 M4 => (if r5 = 0 then (if (gn M4 250 a1 0) = 1 then none else none) else (if (gn M4 250 a1 0) = 1 then (xbI (xret (m_JI_getChars a2 ((gi M 50 a1 2) + r2) (gn M4 50 a1 0) M4)) (fun r7 M6 => (some (.inl (some (50, .ref a1)), (xst M6 50 a1 2 (.int ((gi M 50 a1 2) + r2))))))) else none)))))))) := (xEv_unf 400 xtab xml _ _ _ _ M).trans rfl
set_option maxRecDepth 100000 in
theorem e_m_JB_append_2 (a1 : Nat) (a2 : Int32) (M : xM) : m_JB_append_2 a1 a2 M = (xbR (xret (m_JA_append_1 a1 a2 M)) 50 (fun r2 M1 => (some (.inl (some (50, .ref a1)), M1)))) := (xEv_unf 400 xtab xml _ _ _ _ M).trans rfl
set_option maxRecDepth 100000 in
theorem e_m_JL_canEncode (a1 : Int32) (M : xM) : m_JL_canEncode a1 M = (if 255 < a1 then (some (.inl (some (0, .int (xnar 1 0))), M)) else (some (.inl (some (0, .int (xnar 1 1))), M))) := (xEv_unf 400 xtab xml _ _ _ _ M).trans rfl
set_option maxRecDepth 100000 in
theorem e_m_JA_append_2 (a1 : Nat) (a2 : Int32) (M : xM) : m_JA_append_2 a1 a2 M = (xbV (xret (m_JA_ensureCapacityInternal a1 ((gi M 50 a1 2) + 1) M)) (fun M1 => (xbI (xret (m_JA_isLatin1 a1 M1)) (fun r3 M2 => (if r3 = 0 then (xbI (xret (m_JA_isLatin1 a1 M2)) (fun r5 M4 => (if r5 = 0 then (if (gn M4 250 a1 0) = 1 then none else none) else none))) else (xbI (xret (m_JL_canEncode a2 M2)) (fun r7 M6 => (if r7 = 0 then (xbI (xret (m_JA_isLatin1 a1 M6)) (fun r9 M8 => (if r9 = 0 then (if (gn M8 250 a1 0) = 1 then none else none) else none))) else (if (gn M6 250 a1 0) = 1 then (xck (gi M6 50 a1 2) (gn M6 159 (gn M6 50 a1 0) 0) (some (.inl (some (50, .ref a1)), (xst (xst M6 50 a1 2 (.int ((gi M6 50 a1 2) + 1))) 49 (gn M6 50 a1 0) (ix (gi M6 50 a1 2)) (.int (Int32.toInt8 ((Int32.toInt8 a2).toInt32)).toInt32))))) else none))))))))) := (xEv_unf 400 xtab xml _ _ _ _ M).trans rfl
set_option maxRecDepth 100000 in
theorem e_m_JB_append_3 (a1 : Nat) (a2 : Int32) (M : xM) : m_JB_append_3 a1 a2 M = (xbR (xret (m_JA_append_2 a1 a2 M)) 50 (fun r2 M1 => (some (.inl (some (50, .ref a1)), M1)))) := (xEv_unf 400 xtab xml _ _ _ _ M).trans rfl
set_option maxRecDepth 100000 in
theorem e_m_JA_getValue (a1 : Nat) (M : xM) : m_JA_getValue a1 M = (if (gn M 250 a1 0) = 1 then (some (.inl (some (49, .ref (gn M 50 a1 0))), M)) else none) := (xEv_unf 400 xtab xml _ _ _ _ M).trans rfl
set_option maxRecDepth 100000 in
theorem e_m_JA_length (a1 : Nat) (M : xM) : m_JA_length a1 M = (some (.inl (some (0, .int (gi M 50 a1 2))), M)) := (xEv_unf 400 xtab xml _ _ _ _ M).trans rfl
set_option maxRecDepth 100000 in
theorem e_m_JB_length (a1 : Nat) (M : xM) : m_JB_length a1 M = (xbI (xret (m_JA_length a1 M)) (fun r2 M1 => (some (.inl (some (0, .int r2)), M1)))) := (xEv_unf 400 xtab xml _ _ _ _ M).trans rfl
set_option maxRecDepth 100000 in
theorem e_m_JR_checkLength (a1 : Int32) (a2 : Int32) (M : xM) : m_JR_checkLength a1 a2 M = (if a2 < a1 then none else (some (.inl none, M))) := (xEv_unf 400 xtab xml _ _ _ _ M).trans rfl
set_option maxRecDepth 100000 in
theorem e_m_JR_copyOfRangeByte (a1 : Nat) (a2 : Int32) (a3 : Int32) (M : xM) : m_JR_copyOfRangeByte a1 a2 a3 M = (xbV (xret (m_JR_checkLength a2 a3 M)) (fun M1 => (if (a3 - a2) < 0 ∨ 65536 < ix (a3 - a2) then none else (xbI (xret (m_JM_min ((Int32.ofNat (gn (xnewD M1 47 (ix (a3 - a2))) 159 a1 0)) - a2) (a3 - a2) (xnewD M1 47 (ix (a3 - a2))))) (fun r3 M2 => (xgd (Nat.ble 13 (gn M1 101 47 0)) (if a2 < 0 ∨ (0 : Int32) < 0 ∨ r3 < 0 ∨ (gn M2 159 a1 0) < ix a2 + ix r3 ∨ (gn M2 157 (gn M1 101 47 0) 0) < ix 0 + ix r3 then none else (some (.inl (some (47, .ref (gn M1 101 47 0))), (xcpy M2 49 a1 47 (gn M1 101 47 0) (ix a2) (ix 0) (ix r3))))))))))) := (xEv_unf 400 xtab xml _ _ _ _ M).trans rfl
set_option maxRecDepth 100000 in
theorem e_m_JR_copyOfRange (a1 : Nat) (a2 : Int32) (a3 : Int32) (M : xM) : m_JR_copyOfRange a1 a2 a3 M = (if a2 = 0 then (if a3 = (Int32.ofNat (gn M 159 a1 0)) then (xgd (Nat.ble 13 (gn M 101 47 0)) (some (.inl (some (47, .ref (gn M 101 47 0))), (xcpy (xnewD M 47 (gn M 159 a1 0)) 49 a1 47 (gn M 101 47 0) 0 0 (gn M 159 a1 0))))) else (xbR (xret (m_JR_copyOfRangeByte a1 a2 a3 M)) 47 (fun r4 M3 => (some (.inl (some (47, .ref r4)), M3))))) else (xbR (xret (m_JR_copyOfRangeByte a1 a2 a3 M)) 47 (fun r2 M1 => (some (.inl (some (47, .ref r2)), M1))))) := (xEv_unf 400 xtab xml _ _ _ _ M).trans rfl
set_option maxRecDepth 100000 in
theorem e_m_JS_init_0 (n : Nat) (a2 : Nat) (M : xM) : m_JS_init_0 (n + 13) a2 M = (xbR (xret (m_JA_getValue a2 M)) 49 (fun r2 M1 => (xbI (xret (m_JB_length a2 M1)) (fun r4 M3 => (xbI (xret (m_JA_isLatin1 a2 M3)) (fun r6 M5 => (if r6 = 0 then (if (1 : Int32) = 0 then ((if (1 : Int32) = 0 then (xbR (xret (m_JR_copyOfRange r2 0 (r4 <<< (1 &&& 31) : Int32) (xst M5 46 (n + 13) 1 (.int 0)))) 47 (fun r8 M7 => ((if r8 = (n + 13) then (some (.inl none, (xst M7 246 (n + 13) 0 (.ref 1)))) else none)))) else none)) else none) else ((if (0 : Int32) = 0 then (xbR (xret (m_JR_copyOfRange r2 0 r4 (xst M5 46 (n + 13) 1 (.int 0)))) 47 (fun r10 M9 => ((if r10 = (n + 13) then (some (.inl none, (xst M9 246 (n + 13) 0 (.ref 1)))) else none)))) else none))))))))) := (xEv_unf 400 xtab xml _ _ _ _ M).trans rfl
set_option maxRecDepth 100000 in
theorem e_m_JS_init_1 (a1 : Nat) (a2 : Nat) (M : xM) : m_JS_init_1 a1 a2 M = (xbV (xret (m_JS_init_0 a1 a2 M)) (fun M1 => (some (.inl none, M1)))) := (xEv_unf 400 xtab xml _ _ _ _ M).trans rfl
set_option maxRecDepth 100000 in
theorem e_m_JB_toString (a1 : Nat) (M : xM) : m_JB_toString a1 M = (xbV (xret (m_JS_init_1 (gn M 101 46 0) a1 (xnew M 46 4))) (fun M1 => (some (.inl (some (46, .ref (gn M 101 46 0))), M1)))) := (xEv_unf 400 xtab xml _ _ _ _ M).trans rfl
set_option maxRecDepth 100000 in
theorem e_b_L_setup_15 (v0 : Nat) (v1 : Int32) (v2 : Int32) (v3 : Nat) (v4 : Int32) (M : xM) : b_L_setup_15 v0 v1 v2 v3 v4 M = (if v4 < v1 then (xgd (xgood (xsl 4) M && xain (xsl 4) [(50, .ref v3), (46, .ref 9)]) (xbR (xret (m_JB_append_0 v3 9 M)) 50 (fun r2 M1 => (xgd (xgood (xsl 4) M1 && xain (xsl 4) [(50, .ref r2), (0, .int (((Int32.toUInt32 ((97 : Int32) + v4)) % 65536).toInt32))]) (xbR (xret (m_JB_append_3 r2 (((Int32.toUInt32 ((97 : Int32) + v4)) % 65536).toInt32) M1)) 50 (fun r4 M3 => (xgd (xgood (xsl 4) M3 && xain (xsl 4) [(50, .ref r4), (0, .int 32)]) (xbR (xret (m_JB_append_3 r4 32 M3)) 50 (fun r6 M5 => (xbI (xret (m_L_pick v0 ((3 : Int32) + v4) 4 M5)) (fun r8 M7 => (xgd (xgood (xsl 4) M7 && xain (xsl 4) [(50, .ref r6), (0, .int ((1 : Int32) + r8))]) (xbR (xret (m_JB_append_2 r6 ((1 : Int32) + r8) M7)) 50 (fun r10 M9 => (xgd (xgood (xsl 4) M9 && xain (xsl 4) [(50, .ref r10), (0, .int 59)]) (xbR (xret (m_JB_append_3 r10 59 M9)) 50 (fun r12 M11 => (b_L_setup_15 v0 v1 v2 v3 (v4 + 1) M11)))))))))))))))))) else (b_L_setup_45 v0 v1 v2 v3 0 M)) := (xEv_unf 400 xtab xml _ _ _ _ M).trans rfl
set_option maxRecDepth 100000 in
theorem e_b_L_setup_45 (v0 : Nat) (v1 : Int32) (v2 : Int32) (v3 : Nat) (v4 : Int32) (M : xM) : b_L_setup_45 v0 v1 v2 v3 v4 M = (if v4 < v2 then (xbI (xret (m_L_pick v0 ((6 : Int32) + v4) 268435456 M)) (fun r4 M3 => (xgd (xgood (xsl 4) M3 && xain (xsl 4) [(50, .ref v3), (46, .ref 10)]) (xbR (xret (m_JB_append_0 v3 10 M3)) 50 (fun r6 M5 => (xgd (xgood (xsl 4) M5 && xain (xsl 4) [(50, .ref r6), (0, .int (((Int32.toUInt32 ((97 : Int32) + v4)) % 65536).toInt32))]) (xbR (xret (m_JB_append_3 r6 (((Int32.toUInt32 ((97 : Int32) + v4)) % 65536).toInt32) M5)) 50 (fun r8 M7 => (xgd (xgood (xsl 4) M7 && xain (xsl 4) [(50, .ref r8), (0, .int 32)]) (xbR (xret (m_JB_append_3 r8 32 M7)) 50 (fun r10 M9 => (if 7 = 0 then none else (xgd (xgood (xsl 4) M9 && xain (xsl 4) [(50, .ref r10), (0, .int ((1 : Int32) + (r4 - r4 / 7 * 7)))]) (xbR (xret (m_JB_append_2 r10 ((1 : Int32) + (r4 - r4 / 7 * 7)) M9)) 50 (fun r12 M11 => (b_L_setup_75 v0 v1 v2 v3 v4 r4 0 M11)))))))))))))))) else (xgd (xgood (xsl 4) M && xain (xsl 4) [(50, .ref v3)]) (xbR (xret (m_JB_toString v3 M)) 46 (fun r2 M1 => (some (.inl (some (46, .ref r2)), M1)))))) := (xEv_unf 400 xtab xml _ _ _ _ M).trans rfl
set_option maxRecDepth 100000 in
theorem e_b_L_setup_75 (v0 : Nat) (v1 : Int32) (v2 : Int32) (v3 : Nat) (v4 : Int32) (v5 : Int32) (v6 : Int32) (M : xM) : b_L_setup_75 v0 v1 v2 v3 v4 v5 v6 M = (if v6 < v1 then (xgd (xgood (xsl 4) M && xain (xsl 4) [(50, .ref v3), (0, .int 32)]) (xbR (xret (m_JB_append_3 v3 32 M)) 50 (fun r20 M19 => (xbI (xret (m_L_pick v0 ((3 : Int32) + v6) 4 M19)) (fun r22 M21 => (if ((2 : Int32) + r22) = 0 then none else (xgd (xgood (xsl 4) M21 && xain (xsl 4) [(50, .ref r20), (0, .int ((v5 >>> (((3 : Int32) + ((3 : Int32) * v6)) &&& 31) : Int32) - (v5 >>> (((3 : Int32) + ((3 : Int32) * v6)) &&& 31) : Int32) / ((2 : Int32) + r22) * ((2 : Int32) + r22)))]) (xbR (xret (m_JB_append_2 r20 ((v5 >>> (((3 : Int32) + ((3 : Int32) * v6)) &&& 31) : Int32) - (v5 >>> (((3 : Int32) + ((3 : Int32) * v6)) &&& 31) : Int32) / ((2 : Int32) + r22) * ((2 : Int32) + r22)) M21)) 50 (fun r24 M23 => (b_L_setup_75 v0 v1 v2 v3 v4 v5 (v6 + 1) M23)))))))))) else (if 0 < v4 then (if 4096 = 0 then none else (if 4 = 0 then none else (if 0 < ((v5 / 4096) - (v5 / 4096) / 4 * 4) then (if 16384 = 0 then none else (if v4 = 0 then none else (if 262144 = 0 then none else (if v4 = 0 then none else (xgd (xgood (xsl 4) M && xain (xsl 4) [(50, .ref v3), (46, .ref 11)]) (xbR (xret (m_JB_append_0 v3 11 M)) 50 (fun r6 M5 => (xgd (xgood (xsl 4) M5 && xain (xsl 4) [(50, .ref r6), (0, .int (((Int32.toUInt32 ((97 : Int32) + ((v5 / 16384) - (v5 / 16384) / v4 * v4))) % 65536).toInt32))]) (xbR (xret (m_JB_append_3 r6 (((Int32.toUInt32 ((97 : Int32) + ((v5 / 16384) - (v5 / 16384) / v4 * v4))) % 65536).toInt32) M5)) 50 (fun r8 M7 => (if ((v5 / 262144) - (v5 / 262144) / v4 * v4) = ((v5 / 16384) - (v5 / 16384) / v4 * v4) then (xgd (xgood (xsl 4) M7 && xain (xsl 4) [(50, .ref v3), (0, .int 59)]) (xbR (xret (m_JB_append_3 v3 59 M7)) 50 (fun r10 M9 => (b_L_setup_45 v0 v1 v2 v3 (v4 + 1) M9)))) else (if 4194304 = 0 then none else (if 2 = 0 then none else (if ((v5 / 4194304) - (v5 / 4194304) / 2 * 2) = 0 then (xgd (xgood (xsl 4) M7 && xain (xsl 4) [(50, .ref v3), (46, .ref 12)]) (xbR (xret (m_JB_append_0 v3 12 M7)) 50 (fun r14 M13 => (xgd (xgood (xsl 4) M13 && xain (xsl 4) [(50, .ref r14), (0, .int (((Int32.toUInt32 ((97 : Int32) + ((v5 / 262144) - (v5 / 262144) / v4 * v4))) % 65536).toInt32))]) (xbR (xret (m_JB_append_3 r14 (((Int32.toUInt32 ((97 : Int32) + ((v5 / 262144) - (v5 / 262144) / v4 * v4))) % 65536).toInt32) M13)) 50 (fun r16 M15 => (xgd (xgood (xsl 4) M15 && xain (xsl 4) [(50, .ref v3), (0, .int 59)]) (xbR (xret (m_JB_append_3 v3 59 M15)) 50 (fun r18 M17 => (b_L_setup_45 v0 v1 v2 v3 (v4 + 1) M17)))))))))) else (xgd (xgood (xsl 4) M7 && xain (xsl 4) [(50, .ref v3), (0, .int 59)]) (xbR (xret (m_JB_append_3 v3 59 M7)) 50 (fun r12 M11 => (b_L_setup_45 v0 v1 v2 v3 (v4 + 1) M11)))))))))))))))))) else (xgd (xgood (xsl 4) M && xain (xsl 4) [(50, .ref v3), (0, .int 59)]) (xbR (xret (m_JB_append_3 v3 59 M)) 50 (fun r4 M3 => (b_L_setup_45 v0 v1 v2 v3 (v4 + 1) M3))))))) else (xgd (xgood (xsl 4) M && xain (xsl 4) [(50, .ref v3), (0, .int 59)]) (xbR (xret (m_JB_append_3 v3 59 M)) 50 (fun r2 M1 => (b_L_setup_45 v0 v1 v2 v3 (v4 + 1) M1)))))) := (xEv_unf 400 xtab xml _ _ _ _ M).trans rfl
set_option maxRecDepth 100000 in
theorem e_m_C_truncate (a1 : Nat) (a2 : Int32) (M : xM) : m_C_truncate a1 a2 M = (if a2 < 0 then (some (.inr 1, xbump M 1 6)) else (if (gi M 19 0 1) < a2 then (some (.inr 1, xbump M 1 6)) else (some (.inl (some (0, .int a2)), (xst M 19 0 1 (.int a2)))))) := (xEv_unf 400 xtab xml _ _ _ _ M).trans rfl
set_option maxRecDepth 100000 in
theorem e_b_L_word_5 (v0 : Nat) (v1 : Int32) (v2 : Int32) (v3 : Int32) (M : xM) : b_L_word_5 v0 v1 v2 v3 M = (if v3 < (v1 + 4) then (xgd (xgood (xsl 4) M && xain (xsl 4) [(46, .ref v0)]) (xbI (xret (m_JS_length v0 M)) (fun r2 M1 => (if v3 < r2 then (xgd (xgood (xsl 4) M1 && xain (xsl 4) [(46, .ref v0), (0, .int v3)]) (xbI (xret (m_JS_charAt v0 v3 M1)) (fun r4 M3 => (b_L_word_5 v0 v1 ((v2 <<< (8 &&& 31) : Int32) ||| r4) (v3 + 1) M3)))) else (b_L_word_5 v0 v1 ((v2 <<< (8 &&& 31) : Int32) ||| (32 : Int32)) (v3 + 1) M1))))) else (some (.inl (some (0, .int v2)), M))) := (xEv_unf 400 xtab xml _ _ _ _ M).trans rfl
set_option maxRecDepth 100000 in
theorem e_m_I_putBytes (a1 : Nat) (a2 : Int32) (M : xM) : m_I_putBytes a1 a2 M = (xbV (m_I_putByte a1 (((Int32.toUInt32 a2) >>> ((Int32.toUInt32 24) &&& Int32.toUInt32 31)).toInt32) M) (fun M1 => (xbV (m_I_putByte a1 (((Int32.toUInt32 a2) >>> ((Int32.toUInt32 16) &&& Int32.toUInt32 31)).toInt32) M1) (fun M2 => (xbV (m_I_putByte a1 (((Int32.toUInt32 a2) >>> ((Int32.toUInt32 8) &&& Int32.toUInt32 31)).toInt32) M2) (fun M3 => (xbV (m_I_putByte a1 a2 M3) (fun M4 => (some (.inl none, M4)))))))))) := (xEv_unf 400 xtab xml _ _ _ _ M).trans rfl
set_option maxRecDepth 100000 in
theorem e_m_C_append (a1 : Nat) (a2 : Int32) (a3 : Int32) (a4 : Int32) (a5 : Int32) (a6 : Int32) (M : xM) : m_C_append a1 a2 a3 a4 a5 a6 M = (if 600 < ((gi M 19 0 1) + 20) then (some (.inr 0, xbump M 1 6)) else (xbV (m_I_putBytes 0 a2 M) (fun M1 => (xbV (m_I_putBytes 0 a3 M1) (fun M2 => (xbV (m_I_putBytes 0 a4 M2) (fun M3 => (xbV (m_I_putBytes 0 a5 M3) (fun M4 => (xbV (m_I_putBytes 0 a6 M4) (fun M5 => (some (.inl (some (0, .int (gi M5 19 0 1))), M5))))))))))))) := (xEv_unf 400 xtab xml _ _ _ _ M).trans rfl
set_option maxRecDepth 100000 in
theorem e_b_L_say_7 (v0 : Nat) (v1 : Nat) (v2 : Int32) (M : xM) : b_L_say_7 v0 v1 v2 M = (xgd (xgood (xsl 4) M && xain (xsl 4) [(46, .ref v1)]) (xbI (xret (m_JS_length v1 M)) (fun r2 M1 => (if v2 < r2 then (xbI (xret (m_L_word v1 v2 M1)) (fun r10 M9 => (xbI (xret (m_L_word v1 (v2 + 4) M9)) (fun r12 M11 => (xbI (xret (m_L_word v1 (v2 + 8) M11)) (fun r14 M13 => (xbI (xret (m_L_word v1 (v2 + 12) M13)) (fun r16 M15 => (xbI (xret (m_L_word v1 (v2 + 16) M15)) (fun r18 M17 => (xgd (xgood (xsl 0) M17 && xain (xsl 0) [(1, .ref v0), (0, .int r10), (0, .int r12), (0, .int r14), (0, .int r16), (0, .int r18)]) (xbI (xret (m_C_append v0 r10 r12 r14 r16 r18 M17)) (fun r20 M19 => (b_L_say_7 v0 v1 (v2 + 20) M19)))))))))))))) else (xgd (xgood (xsl 4) M1 && xain (xsl 4) [(46, .ref v1)]) (xbI (xret (m_JS_length v1 M1)) (fun r4 M3 => (xgd (xgood (xsl 0) M3 && xain (xsl 0) [(1, .ref v0), (0, .int r4)]) (xbI (xret (m_C_truncate v0 r4 M3)) (fun r6 M5 => (xgd (xgood (xsl 4) M5 && xain (xsl 4) [(46, .ref v1)]) (xbI (xret (m_JS_length v1 M5)) (fun r8 M7 => (if r6 = r8 then (some (.inl (some (0, .int (xnar 1 1))), M7)) else (some (.inl (some (0, .int (xnar 1 0))), M7)))))))))))))))) := (xEv_unf 400 xtab xml _ _ _ _ M).trans rfl
set_option maxRecDepth 100000 in
theorem e_m_P_copyFrom (a1 : Nat) (a2 : Nat) (M : xM) : m_P_copyFrom a1 a2 M = (if (0 : Int32) < 0 ∨ (0 : Int32) < 0 ∨ (3 : Int32) < 0 ∨ 3 < ix 0 + ix 3 ∨ 3 < ix 0 + ix 3 then none else (if (0 : Int32) < 0 ∨ (0 : Int32) < 0 ∨ (3 : Int32) < 0 ∨ 3 < ix 0 + ix 3 ∨ 3 < ix 0 + ix 3 then none else (if (0 : Int32) < 0 ∨ (0 : Int32) < 0 ∨ (12 : Int32) < 0 ∨ 12 < ix 0 + ix 12 ∨ 12 < ix 0 + ix 12 then none else (if (0 : Int32) < 0 ∨ (0 : Int32) < 0 ∨ (12 : Int32) < 0 ∨ 12 < ix 0 + ix 12 ∨ 12 < ix 0 + ix 12 then none else (if (0 : Int32) < 0 ∨ (0 : Int32) < 0 ∨ (12 : Int32) < 0 ∨ 12 < ix 0 + ix 12 ∨ 12 < ix 0 + ix 12 then none else (if (0 : Int32) < 0 ∨ (0 : Int32) < 0 ∨ (12 : Int32) < 0 ∨ 12 < ix 0 + ix 12 ∨ 12 < ix 0 + ix 12 then none else (if (0 : Int32) < 0 ∨ (0 : Int32) < 0 ∨ (36 : Int32) < 0 ∨ 36 < ix 0 + ix 36 ∨ 36 < ix 0 + ix 36 then none else (some (.inl none, (xcpy (xcpy (xcpy (xcpy (xcpy (xcpy (xcpy (xst (xst (xst M 2 a1 0 (.int (gi M 2 a2 0))) 2 a1 1 (.int (gi (xst M 2 a1 0 (.int (gi M 2 a2 0))) 2 a2 1))) 2 a1 2 (.int (gi (xst (xst M 2 a1 0 (.int (gi M 2 a2 0))) 2 a1 1 (.int (gi (xst M 2 a1 0 (.int (gi M 2 a2 0))) 2 a2 1))) 2 a2 2))) 3 a2 3 a1 (ix 0) (ix 0) (ix 3)) 4 a2 4 a1 (ix 0) (ix 0) (ix 3)) 5 a2 5 a1 (ix 0) (ix 0) (ix 12)) 6 a2 6 a1 (ix 0) (ix 0) (ix 12)) 7 a2 7 a1 (ix 0) (ix 0) (ix 12)) 8 a2 8 a1 (ix 0) (ix 0) (ix 12)) 9 a2 9 a1 (ix 0) (ix 0) (ix 36))))))))))) := (xEv_unf 400 xtab xml _ _ _ _ M).trans rfl
set_option maxRecDepth 100000 in
theorem e_m_C_load (a1 : Nat) (M : xM) : m_C_load a1 M = (xbI (m_U_read 0 0 M) (fun r2 M1 => (if r2 = 0 then (some (.inr 1, xbump (xst M1 19 0 1 (.int 0)) 1 6)) else (xbV (m_P_copyFrom 9 0 (xst M1 19 0 1 (.int 0))) (fun M3 => (b_C_load_22 a1 0 M3)))))) := (xEv_unf 400 xtab xml _ _ _ _ M).trans rfl
set_option maxRecDepth 100000 in
theorem e_b_C_load_22 (v0 : Nat) (v2 : Int32) (M : xM) : b_C_load_22 v0 v2 M = (if v2 < 2 then (xck v2 2 (b_C_load_22 v0 (v2 + 1) (xst M 26 0 (ix v2) (.int (0 &&& 1))))) else (some (.inl (some (0, .int (gi M 2 9 2))), (xst M 17 0 2 (.int 0))))) := (xEv_unf 400 xtab xml _ _ _ _ M).trans rfl
set_option maxRecDepth 100000 in
theorem e_m_C_taskCount (a1 : Nat) (M : xM) : m_C_taskCount a1 M = (some (.inl (some (0, .int (gi M 2 9 2))), M)) := (xEv_unf 400 xtab xml _ _ _ _ M).trans rfl
set_option maxRecDepth 100000 in
theorem e_m_P_hasTask (a1 : Nat) (a2 : Int32) (M : xM) : m_P_hasTask a1 a2 M = (if a2 < 0 then (some (.inl (some (0, .int (xnar 1 0))), M)) else (if a2 < (gi M 2 a1 2) then (some (.inl (some (0, .int (xnar 1 1))), M)) else (some (.inl (some (0, .int (xnar 1 0))), M)))) := (xEv_unf 400 xtab xml _ _ _ _ M).trans rfl
set_option maxRecDepth 100000 in
theorem e_m_C_requireTask (a1 : Nat) (a2 : Int32) (M : xM) : m_C_requireTask a1 a2 M = (xbI (m_P_hasTask 9 a2 M) (fun r2 M1 => (if r2 = 0 then (some (.inr 2, xbump M1 1 6)) else (some (.inl none, M1))))) := (xEv_unf 400 xtab xml _ _ _ _ M).trans rfl
set_option maxRecDepth 100000 in
theorem e_m_C_release (a1 : Nat) (a2 : Int32) (M : xM) : m_C_release a1 a2 M = (xbV (m_C_requireTask a1 a2 M) (fun M1 => (xck a2 12 (some (.inl (some (0, .int (gi M1 7 9 (ix a2)))), M1))))) := (xEv_unf 400 xtab xml _ _ _ _ M).trans rfl
set_option maxRecDepth 100000 in
theorem e_m_C_hasLink (a1 : Nat) (a2 : Int32) (a3 : Int32) (M : xM) : m_C_hasLink a1 a2 a3 M = (xbV (m_C_requireTask a1 a2 M) (fun M1 => (xbV (m_C_requireTask a1 a3 M1) (fun M2 => (xbI (m_P_isLinked 9 a2 a3 M2) (fun r4 M3 => (some (.inl (some (0, .int (xnar 1 r4))), M3)))))))) := (xEv_unf 400 xtab xml _ _ _ _ M).trans rfl
set_option maxRecDepth 100000 in
theorem e_m_C_duration (a1 : Nat) (a2 : Int32) (M : xM) : m_C_duration a1 a2 M = (xbV (m_C_requireTask a1 a2 M) (fun M1 => (xck a2 12 (some (.inl (some (0, .int (gi M1 6 9 (ix a2)))), M1))))) := (xEv_unf 400 xtab xml _ _ _ _ M).trans rfl
set_option maxRecDepth 100000 in
theorem e_m_Q_early_7 (a1 : Nat) (a2 : Int32) (M : xM) : m_Q_early_7 a1 a2 M = (if (gn M 227 a1 0) = 1 then (xgd (xgood (xsl 0) M && xain (xsl 0) [(1, .ref 0), (0, .int a2)]) (xbI (xret (m_C_release 0 a2 M)) (fun r2 M1 => (b_Q_early_7_8 a1 a2 r2 0 M1)))) else none) := (xEv_unf 400 xtab xml _ _ _ _ M).trans rfl
set_option maxRecDepth 100000 in
theorem e_b_Q_early_7_8 (v0 : Nat) (v1 : Int32) (v2 : Int32) (v3 : Int32) (M : xM) : b_Q_early_7_8 v0 v1 v2 v3 M = (if v3 < (gi M 27 v0 1) then (if (gn M 227 v0 0) = 1 then (xgd (xgood (xsl 0) M && xain (xsl 0) [(1, .ref 0), (0, .int v3), (0, .int v1)]) (xbI (xret (m_C_hasLink 0 v3 v1 M)) (fun r2 M1 => (if r2 = 0 then (b_Q_early_7_8 v0 v1 v2 (v3 + 1) M1) else none)))) else none) else (some (.inl (some (0, .int v2)), M))) := (xEv_unf 400 xtab xml _ _ _ _ M).trans rfl
set_option maxRecDepth 100000 in
theorem e_m_Q_early_6 (a1 : Nat) (a2 : Int32) (M : xM) : m_Q_early_6 a1 a2 M = (if (gn M 227 a1 0) = 1 then (xgd (xgood (xsl 0) M && xain (xsl 0) [(1, .ref 0), (0, .int a2)]) (xbI (xret (m_C_release 0 a2 M)) (fun r2 M1 => (b_Q_early_6_8 a1 a2 r2 0 M1)))) else none) := (xEv_unf 400 xtab xml _ _ _ _ M).trans rfl
set_option maxRecDepth 100000 in
theorem e_b_Q_early_6_8 (v0 : Nat) (v1 : Int32) (v2 : Int32) (v3 : Int32) (M : xM) : b_Q_early_6_8 v0 v1 v2 v3 M = (if v3 < (gi M 27 v0 1) then (if (gn M 227 v0 0) = 1 then (xgd (xgood (xsl 0) M && xain (xsl 0) [(1, .ref 0), (0, .int v3), (0, .int v1)]) (xbI (xret (m_C_hasLink 0 v3 v1 M)) (fun r2 M1 => (if r2 = 0 then (b_Q_early_6_8 v0 v1 v2 (v3 + 1) M1) else (xbI (xret (m_Q_early_7 v0 v3 M1)) (fun r4 M3 => (if (gn M3 227 v0 0) = 1 then (xgd (xgood (xsl 0) M3 && xain (xsl 0) [(1, .ref 0), (0, .int v3)]) (xbI (xret (m_C_duration 0 v3 M3)) (fun r6 M5 => (xgd (xgood (xsl 4) M5 && xain (xsl 4) [(0, .int v2), (0, .int (r4 + r6))]) (xbI (xret (m_JM_max v2 (r4 + r6) M5)) (fun r8 M7 => (b_Q_early_6_8 v0 v1 r8 (v3 + 1) M7))))))) else none))))))) else none) else (some (.inl (some (0, .int v2)), M))) := (xEv_unf 400 xtab xml _ _ _ _ M).trans rfl
set_option maxRecDepth 100000 in
theorem e_m_Q_early_5 (a1 : Nat) (a2 : Int32) (M : xM) : m_Q_early_5 a1 a2 M = (if (gn M 227 a1 0) = 1 then (xgd (xgood (xsl 0) M && xain (xsl 0) [(1, .ref 0), (0, .int a2)]) (xbI (xret (m_C_release 0 a2 M)) (fun r2 M1 => (b_Q_early_5_8 a1 a2 r2 0 M1)))) else none) := (xEv_unf 400 xtab xml _ _ _ _ M).trans rfl
set_option maxRecDepth 100000 in
theorem e_b_Q_early_5_8 (v0 : Nat) (v1 : Int32) (v2 : Int32) (v3 : Int32) (M : xM) : b_Q_early_5_8 v0 v1 v2 v3 M = (if v3 < (gi M 27 v0 1) then (if (gn M 227 v0 0) = 1 then (xgd (xgood (xsl 0) M && xain (xsl 0) [(1, .ref 0), (0, .int v3), (0, .int v1)]) (xbI (xret (m_C_hasLink 0 v3 v1 M)) (fun r2 M1 => (if r2 = 0 then (b_Q_early_5_8 v0 v1 v2 (v3 + 1) M1) else (xbI (xret (m_Q_early_6 v0 v3 M1)) (fun r4 M3 => (if (gn M3 227 v0 0) = 1 then (xgd (xgood (xsl 0) M3 && xain (xsl 0) [(1, .ref 0), (0, .int v3)]) (xbI (xret (m_C_duration 0 v3 M3)) (fun r6 M5 => (xgd (xgood (xsl 4) M5 && xain (xsl 4) [(0, .int v2), (0, .int (r4 + r6))]) (xbI (xret (m_JM_max v2 (r4 + r6) M5)) (fun r8 M7 => (b_Q_early_5_8 v0 v1 r8 (v3 + 1) M7))))))) else none))))))) else none) else (some (.inl (some (0, .int v2)), M))) := (xEv_unf 400 xtab xml _ _ _ _ M).trans rfl
set_option maxRecDepth 100000 in
theorem e_m_Q_early_4 (a1 : Nat) (a2 : Int32) (M : xM) : m_Q_early_4 a1 a2 M = (if (gn M 227 a1 0) = 1 then (xgd (xgood (xsl 0) M && xain (xsl 0) [(1, .ref 0), (0, .int a2)]) (xbI (xret (m_C_release 0 a2 M)) (fun r2 M1 => (b_Q_early_4_8 a1 a2 r2 0 M1)))) else none) := (xEv_unf 400 xtab xml _ _ _ _ M).trans rfl
set_option maxRecDepth 100000 in
theorem e_b_Q_early_4_8 (v0 : Nat) (v1 : Int32) (v2 : Int32) (v3 : Int32) (M : xM) : b_Q_early_4_8 v0 v1 v2 v3 M = (if v3 < (gi M 27 v0 1) then (if (gn M 227 v0 0) = 1 then (xgd (xgood (xsl 0) M && xain (xsl 0) [(1, .ref 0), (0, .int v3), (0, .int v1)]) (xbI (xret (m_C_hasLink 0 v3 v1 M)) (fun r2 M1 => (if r2 = 0 then (b_Q_early_4_8 v0 v1 v2 (v3 + 1) M1) else (xbI (xret (m_Q_early_5 v0 v3 M1)) (fun r4 M3 => (if (gn M3 227 v0 0) = 1 then (xgd (xgood (xsl 0) M3 && xain (xsl 0) [(1, .ref 0), (0, .int v3)]) (xbI (xret (m_C_duration 0 v3 M3)) (fun r6 M5 => (xgd (xgood (xsl 4) M5 && xain (xsl 4) [(0, .int v2), (0, .int (r4 + r6))]) (xbI (xret (m_JM_max v2 (r4 + r6) M5)) (fun r8 M7 => (b_Q_early_4_8 v0 v1 r8 (v3 + 1) M7))))))) else none))))))) else none) else (some (.inl (some (0, .int v2)), M))) := (xEv_unf 400 xtab xml _ _ _ _ M).trans rfl
set_option maxRecDepth 100000 in
theorem e_m_Q_early_3 (a1 : Nat) (a2 : Int32) (M : xM) : m_Q_early_3 a1 a2 M = (if (gn M 227 a1 0) = 1 then (xgd (xgood (xsl 0) M && xain (xsl 0) [(1, .ref 0), (0, .int a2)]) (xbI (xret (m_C_release 0 a2 M)) (fun r2 M1 => (b_Q_early_3_8 a1 a2 r2 0 M1)))) else none) := (xEv_unf 400 xtab xml _ _ _ _ M).trans rfl
set_option maxRecDepth 100000 in
theorem e_b_Q_early_3_8 (v0 : Nat) (v1 : Int32) (v2 : Int32) (v3 : Int32) (M : xM) : b_Q_early_3_8 v0 v1 v2 v3 M = (if v3 < (gi M 27 v0 1) then (if (gn M 227 v0 0) = 1 then (xgd (xgood (xsl 0) M && xain (xsl 0) [(1, .ref 0), (0, .int v3), (0, .int v1)]) (xbI (xret (m_C_hasLink 0 v3 v1 M)) (fun r2 M1 => (if r2 = 0 then (b_Q_early_3_8 v0 v1 v2 (v3 + 1) M1) else (xbI (xret (m_Q_early_4 v0 v3 M1)) (fun r4 M3 => (if (gn M3 227 v0 0) = 1 then (xgd (xgood (xsl 0) M3 && xain (xsl 0) [(1, .ref 0), (0, .int v3)]) (xbI (xret (m_C_duration 0 v3 M3)) (fun r6 M5 => (xgd (xgood (xsl 4) M5 && xain (xsl 4) [(0, .int v2), (0, .int (r4 + r6))]) (xbI (xret (m_JM_max v2 (r4 + r6) M5)) (fun r8 M7 => (b_Q_early_3_8 v0 v1 r8 (v3 + 1) M7))))))) else none))))))) else none) else (some (.inl (some (0, .int v2)), M))) := (xEv_unf 400 xtab xml _ _ _ _ M).trans rfl
set_option maxRecDepth 100000 in
theorem e_m_Q_early_2 (a1 : Nat) (a2 : Int32) (M : xM) : m_Q_early_2 a1 a2 M = (if (gn M 227 a1 0) = 1 then (xgd (xgood (xsl 0) M && xain (xsl 0) [(1, .ref 0), (0, .int a2)]) (xbI (xret (m_C_release 0 a2 M)) (fun r2 M1 => (b_Q_early_2_8 a1 a2 r2 0 M1)))) else none) := (xEv_unf 400 xtab xml _ _ _ _ M).trans rfl
set_option maxRecDepth 100000 in
theorem e_b_Q_early_2_8 (v0 : Nat) (v1 : Int32) (v2 : Int32) (v3 : Int32) (M : xM) : b_Q_early_2_8 v0 v1 v2 v3 M = (if v3 < (gi M 27 v0 1) then (if (gn M 227 v0 0) = 1 then (xgd (xgood (xsl 0) M && xain (xsl 0) [(1, .ref 0), (0, .int v3), (0, .int v1)]) (xbI (xret (m_C_hasLink 0 v3 v1 M)) (fun r2 M1 => (if r2 = 0 then (b_Q_early_2_8 v0 v1 v2 (v3 + 1) M1) else (xbI (xret (m_Q_early_3 v0 v3 M1)) (fun r4 M3 => (if (gn M3 227 v0 0) = 1 then (xgd (xgood (xsl 0) M3 && xain (xsl 0) [(1, .ref 0), (0, .int v3)]) (xbI (xret (m_C_duration 0 v3 M3)) (fun r6 M5 => (xgd (xgood (xsl 4) M5 && xain (xsl 4) [(0, .int v2), (0, .int (r4 + r6))]) (xbI (xret (m_JM_max v2 (r4 + r6) M5)) (fun r8 M7 => (b_Q_early_2_8 v0 v1 r8 (v3 + 1) M7))))))) else none))))))) else none) else (some (.inl (some (0, .int v2)), M))) := (xEv_unf 400 xtab xml _ _ _ _ M).trans rfl
set_option maxRecDepth 100000 in
theorem e_m_Q_early_1 (a1 : Nat) (a2 : Int32) (M : xM) : m_Q_early_1 a1 a2 M = (if (gn M 227 a1 0) = 1 then (xgd (xgood (xsl 0) M && xain (xsl 0) [(1, .ref 0), (0, .int a2)]) (xbI (xret (m_C_release 0 a2 M)) (fun r2 M1 => (b_Q_early_1_8 a1 a2 r2 0 M1)))) else none) := (xEv_unf 400 xtab xml _ _ _ _ M).trans rfl
set_option maxRecDepth 100000 in
theorem e_b_Q_early_1_8 (v0 : Nat) (v1 : Int32) (v2 : Int32) (v3 : Int32) (M : xM) : b_Q_early_1_8 v0 v1 v2 v3 M = (if v3 < (gi M 27 v0 1) then (if (gn M 227 v0 0) = 1 then (xgd (xgood (xsl 0) M && xain (xsl 0) [(1, .ref 0), (0, .int v3), (0, .int v1)]) (xbI (xret (m_C_hasLink 0 v3 v1 M)) (fun r2 M1 => (if r2 = 0 then (b_Q_early_1_8 v0 v1 v2 (v3 + 1) M1) else (xbI (xret (m_Q_early_2 v0 v3 M1)) (fun r4 M3 => (if (gn M3 227 v0 0) = 1 then (xgd (xgood (xsl 0) M3 && xain (xsl 0) [(1, .ref 0), (0, .int v3)]) (xbI (xret (m_C_duration 0 v3 M3)) (fun r6 M5 => (xgd (xgood (xsl 4) M5 && xain (xsl 4) [(0, .int v2), (0, .int (r4 + r6))]) (xbI (xret (m_JM_max v2 (r4 + r6) M5)) (fun r8 M7 => (b_Q_early_1_8 v0 v1 r8 (v3 + 1) M7))))))) else none))))))) else none) else (some (.inl (some (0, .int v2)), M))) := (xEv_unf 400 xtab xml _ _ _ _ M).trans rfl
set_option maxRecDepth 100000 in
theorem e_m_Q_early_0 (a1 : Nat) (a2 : Int32) (M : xM) : m_Q_early_0 a1 a2 M = (if (gn M 227 a1 0) = 1 then (xgd (xgood (xsl 0) M && xain (xsl 0) [(1, .ref 0), (0, .int a2)]) (xbI (xret (m_C_release 0 a2 M)) (fun r2 M1 => (b_Q_early_0_8 a1 a2 r2 0 M1)))) else none) := (xEv_unf 400 xtab xml _ _ _ _ M).trans rfl
set_option maxRecDepth 100000 in
theorem e_b_Q_early_0_8 (v0 : Nat) (v1 : Int32) (v2 : Int32) (v3 : Int32) (M : xM) : b_Q_early_0_8 v0 v1 v2 v3 M = (if v3 < (gi M 27 v0 1) then (if (gn M 227 v0 0) = 1 then (xgd (xgood (xsl 0) M && xain (xsl 0) [(1, .ref 0), (0, .int v3), (0, .int v1)]) (xbI (xret (m_C_hasLink 0 v3 v1 M)) (fun r2 M1 => (if r2 = 0 then (b_Q_early_0_8 v0 v1 v2 (v3 + 1) M1) else (xbI (xret (m_Q_early_1 v0 v3 M1)) (fun r4 M3 => (if (gn M3 227 v0 0) = 1 then (xgd (xgood (xsl 0) M3 && xain (xsl 0) [(1, .ref 0), (0, .int v3)]) (xbI (xret (m_C_duration 0 v3 M3)) (fun r6 M5 => (xgd (xgood (xsl 4) M5 && xain (xsl 4) [(0, .int v2), (0, .int (r4 + r6))]) (xbI (xret (m_JM_max v2 (r4 + r6) M5)) (fun r8 M7 => (b_Q_early_0_8 v0 v1 r8 (v3 + 1) M7))))))) else none))))))) else none) else (some (.inl (some (0, .int v2)), M))) := (xEv_unf 400 xtab xml _ _ _ _ M).trans rfl
set_option maxRecDepth 100000 in
theorem e_m_Q_init (a1 : Nat) (a2 : Nat) (M : xM) : m_Q_init a1 a2 M = (if 12 = Int32.ofNat 12 then (if (gn M 101 28 0) = a1 then (if a2 = 0 then (xgd (xgood (xsl 0) (xst (xst (xnew M 28 12) 227 a1 2 (.ref 1)) 227 a1 0 (.ref 1)) && xain (xsl 0) [(1, .ref a2)]) (xbI (xret (m_C_taskCount a2 (xst (xst (xnew M 28 12) 227 a1 2 (.ref 1)) 227 a1 0 (.ref 1)))) (fun r2 M1 => (b_Q_init_16 a1 a2 0 (xst M1 27 a1 1 (.int r2)))))) else none) else none) else none) := (xEv_unf 400 xtab xml _ _ _ _ M).trans rfl
set_option maxRecDepth 100000 in
theorem e_b_Q_init_16 (v0 : Nat) (v1 : Nat) (v2 : Int32) (M : xM) : b_Q_init_16 v0 v1 v2 M = (if v2 < (gi M 27 v0 1) then (xbI (xret (m_Q_early_0 v0 v2 M)) (fun r2 M1 => (xgd (xgood (xsl 0) M1 && xain (xsl 0) [(1, .ref v1), (0, .int v2)]) (xbI (xret (m_C_duration v1 v2 M1)) (fun r4 M3 => (xgd (xgood (xsl 4) M3 && xain (xsl 4) [(0, .int (gi M 27 v0 3)), (0, .int (r2 + r4))]) (xbI (xret (m_JM_max (gi M 27 v0 3) (r2 + r4) M3)) (fun r6 M5 => (b_Q_init_16 v0 v1 (v2 + 1) (xst M5 27 v0 3 (.int r6))))))))))) else (some (.inl none, M))) := (xEv_unf 400 xtab xml _ _ _ _ M).trans rfl
set_option maxRecDepth 100000 in
theorem e_m_C_rule (a1 : Nat) (M : xM) : m_C_rule a1 M = (some (.inl (some (0, .int (gi M 2 9 0))), M)) := (xEv_unf 400 xtab xml _ _ _ _ M).trans rfl
set_option maxRecDepth 100000 in
theorem e_m_Q_ready (a1 : Nat) (a2 : Int32) (M : xM) : m_Q_ready a1 a2 M = (if (gn M 227 a1 0) = 1 then (xgd (xgood (xsl 0) M && xain (xsl 0) [(1, .ref 0), (0, .int a2)]) (xbI (xret (m_C_release 0 a2 M)) (fun r2 M1 => (b_Q_ready_8 a1 a2 r2 0 M1)))) else none) := (xEv_unf 400 xtab xml _ _ _ _ M).trans rfl
set_option maxRecDepth 100000 in
theorem e_b_Q_ready_8 (v0 : Nat) (v1 : Int32) (v2 : Int32) (v3 : Int32) (M : xM) : b_Q_ready_8 v0 v1 v2 v3 M = (if v3 < (gi M 27 v0 1) then (if (gn M 227 v0 0) = 1 then (xgd (xgood (xsl 0) M && xain (xsl 0) [(1, .ref 0), (0, .int v3), (0, .int v1)]) (xbI (xret (m_C_hasLink 0 v3 v1 M)) (fun r2 M1 => (if r2 = 0 then (b_Q_ready_8 v0 v1 v2 (v3 + 1) M1) else (if (gn M1 227 v0 2) = 1 then (xck v3 12 (if (gi M1 28 v0 (ix v3)) < 0 then (some (.inl (some (0, .int (-1))), M1)) else (if (gn M1 227 v0 2) = 1 then (xck v3 12 (if (gn M1 227 v0 0) = 1 then (xgd (xgood (xsl 0) M1 && xain (xsl 0) [(1, .ref 0), (0, .int v3)]) (xbI (xret (m_C_duration 0 v3 M1)) (fun r4 M3 => (xgd (xgood (xsl 4) M3 && xain (xsl 4) [(0, .int v2), (0, .int ((gi M1 28 v0 (ix v3)) + r4))]) (xbI (xret (m_JM_max v2 ((gi M1 28 v0 (ix v3)) + r4) M3)) (fun r6 M5 => (b_Q_ready_8 v0 v1 r6 (v3 + 1) M5))))))) else none)) else none))) else none))))) else none) else (some (.inl (some (0, .int v2)), M))) := (xEv_unf 400 xtab xml _ _ _ _ M).trans rfl
set_option maxRecDepth 100000 in
theorem e_m_Q_late_7 (a1 : Nat) (a2 : Int32) (M : xM) : m_Q_late_7 a1 a2 M = (b_Q_late_7_6 a1 a2 (gi M 27 a1 3) 0 M) := (xEv_unf 400 xtab xml _ _ _ _ M).trans rfl
set_option maxRecDepth 100000 in
theorem e_b_Q_late_7_6 (v0 : Nat) (v1 : Int32) (v2 : Int32) (v3 : Int32) (M : xM) : b_Q_late_7_6 v0 v1 v2 v3 M = (if v3 < (gi M 27 v0 1) then (if (gn M 227 v0 0) = 1 then (xgd (xgood (xsl 0) M && xain (xsl 0) [(1, .ref 0), (0, .int v1), (0, .int v3)]) (xbI (xret (m_C_hasLink 0 v1 v3 M)) (fun r4 M3 => (if r4 = 0 then (b_Q_late_7_6 v0 v1 v2 (v3 + 1) M3) else none)))) else none) else (if (gn M 227 v0 0) = 1 then (xgd (xgood (xsl 0) M && xain (xsl 0) [(1, .ref 0), (0, .int v1)]) (xbI (xret (m_C_duration 0 v1 M)) (fun r2 M1 => (some (.inl (some (0, .int (v2 - r2))), M1))))) else none)) := (xEv_unf 400 xtab xml _ _ _ _ M).trans rfl
set_option maxRecDepth 100000 in
theorem e_m_Q_late_6 (a1 : Nat) (a2 : Int32) (M : xM) : m_Q_late_6 a1 a2 M = (b_Q_late_6_6 a1 a2 (gi M 27 a1 3) 0 M) := (xEv_unf 400 xtab xml _ _ _ _ M).trans rfl
set_option maxRecDepth 100000 in
theorem e_b_Q_late_6_6 (v0 : Nat) (v1 : Int32) (v2 : Int32) (v3 : Int32) (M : xM) : b_Q_late_6_6 v0 v1 v2 v3 M = (if v3 < (gi M 27 v0 1) then (if (gn M 227 v0 0) = 1 then (xgd (xgood (xsl 0) M && xain (xsl 0) [(1, .ref 0), (0, .int v1), (0, .int v3)]) (xbI (xret (m_C_hasLink 0 v1 v3 M)) (fun r4 M3 => (if r4 = 0 then (b_Q_late_6_6 v0 v1 v2 (v3 + 1) M3) else (xbI (xret (m_Q_late_7 v0 v3 M3)) (fun r6 M5 => (xgd (xgood (xsl 4) M5 && xain (xsl 4) [(0, .int v2), (0, .int r6)]) (xbI (xret (m_JM_min v2 r6 M5)) (fun r8 M7 => (b_Q_late_6_6 v0 v1 r8 (v3 + 1) M7)))))))))) else none) else (if (gn M 227 v0 0) = 1 then (xgd (xgood (xsl 0) M && xain (xsl 0) [(1, .ref 0), (0, .int v1)]) (xbI (xret (m_C_duration 0 v1 M)) (fun r2 M1 => (some (.inl (some (0, .int (v2 - r2))), M1))))) else none)) := (xEv_unf 400 xtab xml _ _ _ _ M).trans rfl
set_option maxRecDepth 100000 in
theorem e_m_Q_late_5 (a1 : Nat) (a2 : Int32) (M : xM) : m_Q_late_5 a1 a2 M = (b_Q_late_5_6 a1 a2 (gi M 27 a1 3) 0 M) := (xEv_unf 400 xtab xml _ _ _ _ M).trans rfl
set_option maxRecDepth 100000 in
theorem e_b_Q_late_5_6 (v0 : Nat) (v1 : Int32) (v2 : Int32) (v3 : Int32) (M : xM) : b_Q_late_5_6 v0 v1 v2 v3 M = (if v3 < (gi M 27 v0 1) then (if (gn M 227 v0 0) = 1 then (xgd (xgood (xsl 0) M && xain (xsl 0) [(1, .ref 0), (0, .int v1), (0, .int v3)]) (xbI (xret (m_C_hasLink 0 v1 v3 M)) (fun r4 M3 => (if r4 = 0 then (b_Q_late_5_6 v0 v1 v2 (v3 + 1) M3) else (xbI (xret (m_Q_late_6 v0 v3 M3)) (fun r6 M5 => (xgd (xgood (xsl 4) M5 && xain (xsl 4) [(0, .int v2), (0, .int r6)]) (xbI (xret (m_JM_min v2 r6 M5)) (fun r8 M7 => (b_Q_late_5_6 v0 v1 r8 (v3 + 1) M7)))))))))) else none) else (if (gn M 227 v0 0) = 1 then (xgd (xgood (xsl 0) M && xain (xsl 0) [(1, .ref 0), (0, .int v1)]) (xbI (xret (m_C_duration 0 v1 M)) (fun r2 M1 => (some (.inl (some (0, .int (v2 - r2))), M1))))) else none)) := (xEv_unf 400 xtab xml _ _ _ _ M).trans rfl
set_option maxRecDepth 100000 in
theorem e_m_Q_late_4 (a1 : Nat) (a2 : Int32) (M : xM) : m_Q_late_4 a1 a2 M = (b_Q_late_4_6 a1 a2 (gi M 27 a1 3) 0 M) := (xEv_unf 400 xtab xml _ _ _ _ M).trans rfl
set_option maxRecDepth 100000 in
theorem e_b_Q_late_4_6 (v0 : Nat) (v1 : Int32) (v2 : Int32) (v3 : Int32) (M : xM) : b_Q_late_4_6 v0 v1 v2 v3 M = (if v3 < (gi M 27 v0 1) then (if (gn M 227 v0 0) = 1 then (xgd (xgood (xsl 0) M && xain (xsl 0) [(1, .ref 0), (0, .int v1), (0, .int v3)]) (xbI (xret (m_C_hasLink 0 v1 v3 M)) (fun r4 M3 => (if r4 = 0 then (b_Q_late_4_6 v0 v1 v2 (v3 + 1) M3) else (xbI (xret (m_Q_late_5 v0 v3 M3)) (fun r6 M5 => (xgd (xgood (xsl 4) M5 && xain (xsl 4) [(0, .int v2), (0, .int r6)]) (xbI (xret (m_JM_min v2 r6 M5)) (fun r8 M7 => (b_Q_late_4_6 v0 v1 r8 (v3 + 1) M7)))))))))) else none) else (if (gn M 227 v0 0) = 1 then (xgd (xgood (xsl 0) M && xain (xsl 0) [(1, .ref 0), (0, .int v1)]) (xbI (xret (m_C_duration 0 v1 M)) (fun r2 M1 => (some (.inl (some (0, .int (v2 - r2))), M1))))) else none)) := (xEv_unf 400 xtab xml _ _ _ _ M).trans rfl
set_option maxRecDepth 100000 in
theorem e_m_Q_late_3 (a1 : Nat) (a2 : Int32) (M : xM) : m_Q_late_3 a1 a2 M = (b_Q_late_3_6 a1 a2 (gi M 27 a1 3) 0 M) := (xEv_unf 400 xtab xml _ _ _ _ M).trans rfl
set_option maxRecDepth 100000 in
theorem e_b_Q_late_3_6 (v0 : Nat) (v1 : Int32) (v2 : Int32) (v3 : Int32) (M : xM) : b_Q_late_3_6 v0 v1 v2 v3 M = (if v3 < (gi M 27 v0 1) then (if (gn M 227 v0 0) = 1 then (xgd (xgood (xsl 0) M && xain (xsl 0) [(1, .ref 0), (0, .int v1), (0, .int v3)]) (xbI (xret (m_C_hasLink 0 v1 v3 M)) (fun r4 M3 => (if r4 = 0 then (b_Q_late_3_6 v0 v1 v2 (v3 + 1) M3) else (xbI (xret (m_Q_late_4 v0 v3 M3)) (fun r6 M5 => (xgd (xgood (xsl 4) M5 && xain (xsl 4) [(0, .int v2), (0, .int r6)]) (xbI (xret (m_JM_min v2 r6 M5)) (fun r8 M7 => (b_Q_late_3_6 v0 v1 r8 (v3 + 1) M7)))))))))) else none) else (if (gn M 227 v0 0) = 1 then (xgd (xgood (xsl 0) M && xain (xsl 0) [(1, .ref 0), (0, .int v1)]) (xbI (xret (m_C_duration 0 v1 M)) (fun r2 M1 => (some (.inl (some (0, .int (v2 - r2))), M1))))) else none)) := (xEv_unf 400 xtab xml _ _ _ _ M).trans rfl
set_option maxRecDepth 100000 in
theorem e_m_Q_late_2 (a1 : Nat) (a2 : Int32) (M : xM) : m_Q_late_2 a1 a2 M = (b_Q_late_2_6 a1 a2 (gi M 27 a1 3) 0 M) := (xEv_unf 400 xtab xml _ _ _ _ M).trans rfl
set_option maxRecDepth 100000 in
theorem e_b_Q_late_2_6 (v0 : Nat) (v1 : Int32) (v2 : Int32) (v3 : Int32) (M : xM) : b_Q_late_2_6 v0 v1 v2 v3 M = (if v3 < (gi M 27 v0 1) then (if (gn M 227 v0 0) = 1 then (xgd (xgood (xsl 0) M && xain (xsl 0) [(1, .ref 0), (0, .int v1), (0, .int v3)]) (xbI (xret (m_C_hasLink 0 v1 v3 M)) (fun r4 M3 => (if r4 = 0 then (b_Q_late_2_6 v0 v1 v2 (v3 + 1) M3) else (xbI (xret (m_Q_late_3 v0 v3 M3)) (fun r6 M5 => (xgd (xgood (xsl 4) M5 && xain (xsl 4) [(0, .int v2), (0, .int r6)]) (xbI (xret (m_JM_min v2 r6 M5)) (fun r8 M7 => (b_Q_late_2_6 v0 v1 r8 (v3 + 1) M7)))))))))) else none) else (if (gn M 227 v0 0) = 1 then (xgd (xgood (xsl 0) M && xain (xsl 0) [(1, .ref 0), (0, .int v1)]) (xbI (xret (m_C_duration 0 v1 M)) (fun r2 M1 => (some (.inl (some (0, .int (v2 - r2))), M1))))) else none)) := (xEv_unf 400 xtab xml _ _ _ _ M).trans rfl
set_option maxRecDepth 100000 in
theorem e_m_Q_late_1 (a1 : Nat) (a2 : Int32) (M : xM) : m_Q_late_1 a1 a2 M = (b_Q_late_1_6 a1 a2 (gi M 27 a1 3) 0 M) := (xEv_unf 400 xtab xml _ _ _ _ M).trans rfl
set_option maxRecDepth 100000 in
theorem e_b_Q_late_1_6 (v0 : Nat) (v1 : Int32) (v2 : Int32) (v3 : Int32) (M : xM) : b_Q_late_1_6 v0 v1 v2 v3 M = (if v3 < (gi M 27 v0 1) then (if (gn M 227 v0 0) = 1 then (xgd (xgood (xsl 0) M && xain (xsl 0) [(1, .ref 0), (0, .int v1), (0, .int v3)]) (xbI (xret (m_C_hasLink 0 v1 v3 M)) (fun r4 M3 => (if r4 = 0 then (b_Q_late_1_6 v0 v1 v2 (v3 + 1) M3) else (xbI (xret (m_Q_late_2 v0 v3 M3)) (fun r6 M5 => (xgd (xgood (xsl 4) M5 && xain (xsl 4) [(0, .int v2), (0, .int r6)]) (xbI (xret (m_JM_min v2 r6 M5)) (fun r8 M7 => (b_Q_late_1_6 v0 v1 r8 (v3 + 1) M7)))))))))) else none) else (if (gn M 227 v0 0) = 1 then (xgd (xgood (xsl 0) M && xain (xsl 0) [(1, .ref 0), (0, .int v1)]) (xbI (xret (m_C_duration 0 v1 M)) (fun r2 M1 => (some (.inl (some (0, .int (v2 - r2))), M1))))) else none)) := (xEv_unf 400 xtab xml _ _ _ _ M).trans rfl
set_option maxRecDepth 100000 in
theorem e_m_Q_late_0 (a1 : Nat) (a2 : Int32) (M : xM) : m_Q_late_0 a1 a2 M = (b_Q_late_0_6 a1 a2 (gi M 27 a1 3) 0 M) := (xEv_unf 400 xtab xml _ _ _ _ M).trans rfl
set_option maxRecDepth 100000 in
theorem e_b_Q_late_0_6 (v0 : Nat) (v1 : Int32) (v2 : Int32) (v3 : Int32) (M : xM) : b_Q_late_0_6 v0 v1 v2 v3 M = (if v3 < (gi M 27 v0 1) then (if (gn M 227 v0 0) = 1 then (xgd (xgood (xsl 0) M && xain (xsl 0) [(1, .ref 0), (0, .int v1), (0, .int v3)]) (xbI (xret (m_C_hasLink 0 v1 v3 M)) (fun r4 M3 => (if r4 = 0 then (b_Q_late_0_6 v0 v1 v2 (v3 + 1) M3) else (xbI (xret (m_Q_late_1 v0 v3 M3)) (fun r6 M5 => (xgd (xgood (xsl 4) M5 && xain (xsl 4) [(0, .int v2), (0, .int r6)]) (xbI (xret (m_JM_min v2 r6 M5)) (fun r8 M7 => (b_Q_late_0_6 v0 v1 r8 (v3 + 1) M7)))))))))) else none) else (if (gn M 227 v0 0) = 1 then (xgd (xgood (xsl 0) M && xain (xsl 0) [(1, .ref 0), (0, .int v1)]) (xbI (xret (m_C_duration 0 v1 M)) (fun r2 M1 => (some (.inl (some (0, .int (v2 - r2))), M1))))) else none)) := (xEv_unf 400 xtab xml _ _ _ _ M).trans rfl
set_option maxRecDepth 100000 in
theorem e_m_Q_after_7 (a1 : Nat) (a2 : Int32) (a3 : Nat) (M : xM) : m_Q_after_7 a1 a2 a3 M = (b_Q_after_7_5 a1 a2 a3 0 0 M) := (xEv_unf 400 xtab xml _ _ _ _ M).trans rfl
set_option maxRecDepth 100000 in
theorem e_b_Q_after_7_5 (v0 : Nat) (v1 : Int32) (v2 : Nat) (v3 : Int32) (v4 : Int32) (M : xM) : b_Q_after_7_5 v0 v1 v2 v3 v4 M = (if v4 < (gi M 27 v0 1) then (if (gn M 227 v0 0) = 1 then (xgd (xgood (xsl 0) M && xain (xsl 0) [(1, .ref 0), (0, .int v1), (0, .int v4)]) (xbI (xret (m_C_hasLink 0 v1 v4 M)) (fun r2 M1 => (if r2 = 0 then (b_Q_after_7_5 v0 v1 v2 v3 (v4 + 1) M1) else (xck v4 12 (if (gi M1 29 v2 (ix v4)) = 0 then (xck v4 12 none) else (b_Q_after_7_5 v0 v1 v2 v3 (v4 + 1) M1))))))) else none) else (some (.inl (some (0, .int v3)), M))) := (xEv_unf 400 xtab xml _ _ _ _ M).trans rfl
set_option maxRecDepth 100000 in
theorem e_m_Q_after_6 (a1 : Nat) (a2 : Int32) (a3 : Nat) (M : xM) : m_Q_after_6 a1 a2 a3 M = (b_Q_after_6_5 a1 a2 a3 0 0 M) := (xEv_unf 400 xtab xml _ _ _ _ M).trans rfl
set_option maxRecDepth 100000 in
theorem e_b_Q_after_6_5 (v0 : Nat) (v1 : Int32) (v2 : Nat) (v3 : Int32) (v4 : Int32) (M : xM) : b_Q_after_6_5 v0 v1 v2 v3 v4 M = (if v4 < (gi M 27 v0 1) then (if (gn M 227 v0 0) = 1 then (xgd (xgood (xsl 0) M && xain (xsl 0) [(1, .ref 0), (0, .int v1), (0, .int v4)]) (xbI (xret (m_C_hasLink 0 v1 v4 M)) (fun r2 M1 => (if r2 = 0 then (b_Q_after_6_5 v0 v1 v2 v3 (v4 + 1) M1) else (xck v4 12 (if (gi M1 29 v2 (ix v4)) = 0 then (xck v4 12 (xbI (xret (m_Q_after_7 v0 v4 v2 (xst M1 29 v2 (ix v4) (.int (1 &&& 1))))) (fun r4 M3 => (b_Q_after_6_5 v0 v1 v2 (v3 + ((1 : Int32) + r4)) (v4 + 1) M3)))) else (b_Q_after_6_5 v0 v1 v2 v3 (v4 + 1) M1))))))) else none) else (some (.inl (some (0, .int v3)), M))) := (xEv_unf 400 xtab xml _ _ _ _ M).trans rfl
set_option maxRecDepth 100000 in
theorem e_m_Q_after_5 (a1 : Nat) (a2 : Int32) (a3 : Nat) (M : xM) : m_Q_after_5 a1 a2 a3 M = (b_Q_after_5_5 a1 a2 a3 0 0 M) := (xEv_unf 400 xtab xml _ _ _ _ M).trans rfl
set_option maxRecDepth 100000 in
theorem e_b_Q_after_5_5 (v0 : Nat) (v1 : Int32) (v2 : Nat) (v3 : Int32) (v4 : Int32) (M : xM) : b_Q_after_5_5 v0 v1 v2 v3 v4 M = (if v4 < (gi M 27 v0 1) then (if (gn M 227 v0 0) = 1 then (xgd (xgood (xsl 0) M && xain (xsl 0) [(1, .ref 0), (0, .int v1), (0, .int v4)]) (xbI (xret (m_C_hasLink 0 v1 v4 M)) (fun r2 M1 => (if r2 = 0 then (b_Q_after_5_5 v0 v1 v2 v3 (v4 + 1) M1) else (xck v4 12 (if (gi M1 29 v2 (ix v4)) = 0 then (xck v4 12 (xbI (xret (m_Q_after_6 v0 v4 v2 (xst M1 29 v2 (ix v4) (.int (1 &&& 1))))) (fun r4 M3 => (b_Q_after_5_5 v0 v1 v2 (v3 + ((1 : Int32) + r4)) (v4 + 1) M3)))) else (b_Q_after_5_5 v0 v1 v2 v3 (v4 + 1) M1))))))) else none) else (some (.inl (some (0, .int v3)), M))) := (xEv_unf 400 xtab xml _ _ _ _ M).trans rfl
set_option maxRecDepth 100000 in
theorem e_m_Q_after_4 (a1 : Nat) (a2 : Int32) (a3 : Nat) (M : xM) : m_Q_after_4 a1 a2 a3 M = (b_Q_after_4_5 a1 a2 a3 0 0 M) := (xEv_unf 400 xtab xml _ _ _ _ M).trans rfl
set_option maxRecDepth 100000 in
theorem e_b_Q_after_4_5 (v0 : Nat) (v1 : Int32) (v2 : Nat) (v3 : Int32) (v4 : Int32) (M : xM) : b_Q_after_4_5 v0 v1 v2 v3 v4 M = (if v4 < (gi M 27 v0 1) then (if (gn M 227 v0 0) = 1 then (xgd (xgood (xsl 0) M && xain (xsl 0) [(1, .ref 0), (0, .int v1), (0, .int v4)]) (xbI (xret (m_C_hasLink 0 v1 v4 M)) (fun r2 M1 => (if r2 = 0 then (b_Q_after_4_5 v0 v1 v2 v3 (v4 + 1) M1) else (xck v4 12 (if (gi M1 29 v2 (ix v4)) = 0 then (xck v4 12 (xbI (xret (m_Q_after_5 v0 v4 v2 (xst M1 29 v2 (ix v4) (.int (1 &&& 1))))) (fun r4 M3 => (b_Q_after_4_5 v0 v1 v2 (v3 + ((1 : Int32) + r4)) (v4 + 1) M3)))) else (b_Q_after_4_5 v0 v1 v2 v3 (v4 + 1) M1))))))) else none) else (some (.inl (some (0, .int v3)), M))) := (xEv_unf 400 xtab xml _ _ _ _ M).trans rfl
set_option maxRecDepth 100000 in
theorem e_m_Q_after_3 (a1 : Nat) (a2 : Int32) (a3 : Nat) (M : xM) : m_Q_after_3 a1 a2 a3 M = (b_Q_after_3_5 a1 a2 a3 0 0 M) := (xEv_unf 400 xtab xml _ _ _ _ M).trans rfl
set_option maxRecDepth 100000 in
theorem e_b_Q_after_3_5 (v0 : Nat) (v1 : Int32) (v2 : Nat) (v3 : Int32) (v4 : Int32) (M : xM) : b_Q_after_3_5 v0 v1 v2 v3 v4 M = (if v4 < (gi M 27 v0 1) then (if (gn M 227 v0 0) = 1 then (xgd (xgood (xsl 0) M && xain (xsl 0) [(1, .ref 0), (0, .int v1), (0, .int v4)]) (xbI (xret (m_C_hasLink 0 v1 v4 M)) (fun r2 M1 => (if r2 = 0 then (b_Q_after_3_5 v0 v1 v2 v3 (v4 + 1) M1) else (xck v4 12 (if (gi M1 29 v2 (ix v4)) = 0 then (xck v4 12 (xbI (xret (m_Q_after_4 v0 v4 v2 (xst M1 29 v2 (ix v4) (.int (1 &&& 1))))) (fun r4 M3 => (b_Q_after_3_5 v0 v1 v2 (v3 + ((1 : Int32) + r4)) (v4 + 1) M3)))) else (b_Q_after_3_5 v0 v1 v2 v3 (v4 + 1) M1))))))) else none) else (some (.inl (some (0, .int v3)), M))) := (xEv_unf 400 xtab xml _ _ _ _ M).trans rfl
set_option maxRecDepth 100000 in
theorem e_m_Q_after_2 (a1 : Nat) (a2 : Int32) (a3 : Nat) (M : xM) : m_Q_after_2 a1 a2 a3 M = (b_Q_after_2_5 a1 a2 a3 0 0 M) := (xEv_unf 400 xtab xml _ _ _ _ M).trans rfl
set_option maxRecDepth 100000 in
theorem e_b_Q_after_2_5 (v0 : Nat) (v1 : Int32) (v2 : Nat) (v3 : Int32) (v4 : Int32) (M : xM) : b_Q_after_2_5 v0 v1 v2 v3 v4 M = (if v4 < (gi M 27 v0 1) then (if (gn M 227 v0 0) = 1 then (xgd (xgood (xsl 0) M && xain (xsl 0) [(1, .ref 0), (0, .int v1), (0, .int v4)]) (xbI (xret (m_C_hasLink 0 v1 v4 M)) (fun r2 M1 => (if r2 = 0 then (b_Q_after_2_5 v0 v1 v2 v3 (v4 + 1) M1) else (xck v4 12 (if (gi M1 29 v2 (ix v4)) = 0 then (xck v4 12 (xbI (xret (m_Q_after_3 v0 v4 v2 (xst M1 29 v2 (ix v4) (.int (1 &&& 1))))) (fun r4 M3 => (b_Q_after_2_5 v0 v1 v2 (v3 + ((1 : Int32) + r4)) (v4 + 1) M3)))) else (b_Q_after_2_5 v0 v1 v2 v3 (v4 + 1) M1))))))) else none) else (some (.inl (some (0, .int v3)), M))) := (xEv_unf 400 xtab xml _ _ _ _ M).trans rfl
set_option maxRecDepth 100000 in
theorem e_m_Q_after_1 (a1 : Nat) (a2 : Int32) (a3 : Nat) (M : xM) : m_Q_after_1 a1 a2 a3 M = (b_Q_after_1_5 a1 a2 a3 0 0 M) := (xEv_unf 400 xtab xml _ _ _ _ M).trans rfl
set_option maxRecDepth 100000 in
theorem e_b_Q_after_1_5 (v0 : Nat) (v1 : Int32) (v2 : Nat) (v3 : Int32) (v4 : Int32) (M : xM) : b_Q_after_1_5 v0 v1 v2 v3 v4 M = (if v4 < (gi M 27 v0 1) then (if (gn M 227 v0 0) = 1 then (xgd (xgood (xsl 0) M && xain (xsl 0) [(1, .ref 0), (0, .int v1), (0, .int v4)]) (xbI (xret (m_C_hasLink 0 v1 v4 M)) (fun r2 M1 => (if r2 = 0 then (b_Q_after_1_5 v0 v1 v2 v3 (v4 + 1) M1) else (xck v4 12 (if (gi M1 29 v2 (ix v4)) = 0 then (xck v4 12 (xbI (xret (m_Q_after_2 v0 v4 v2 (xst M1 29 v2 (ix v4) (.int (1 &&& 1))))) (fun r4 M3 => (b_Q_after_1_5 v0 v1 v2 (v3 + ((1 : Int32) + r4)) (v4 + 1) M3)))) else (b_Q_after_1_5 v0 v1 v2 v3 (v4 + 1) M1))))))) else none) else (some (.inl (some (0, .int v3)), M))) := (xEv_unf 400 xtab xml _ _ _ _ M).trans rfl
set_option maxRecDepth 100000 in
theorem e_m_Q_after_0 (a1 : Nat) (a2 : Int32) (a3 : Nat) (M : xM) : m_Q_after_0 a1 a2 a3 M = (b_Q_after_0_5 a1 a2 a3 0 0 M) := (xEv_unf 400 xtab xml _ _ _ _ M).trans rfl
set_option maxRecDepth 100000 in
theorem e_b_Q_after_0_5 (v0 : Nat) (v1 : Int32) (v2 : Nat) (v3 : Int32) (v4 : Int32) (M : xM) : b_Q_after_0_5 v0 v1 v2 v3 v4 M = (if v4 < (gi M 27 v0 1) then (if (gn M 227 v0 0) = 1 then (xgd (xgood (xsl 0) M && xain (xsl 0) [(1, .ref 0), (0, .int v1), (0, .int v4)]) (xbI (xret (m_C_hasLink 0 v1 v4 M)) (fun r2 M1 => (if r2 = 0 then (b_Q_after_0_5 v0 v1 v2 v3 (v4 + 1) M1) else (xck v4 12 (if (gi M1 29 v2 (ix v4)) = 0 then (xck v4 12 (xbI (xret (m_Q_after_1 v0 v4 v2 (xst M1 29 v2 (ix v4) (.int (1 &&& 1))))) (fun r4 M3 => (b_Q_after_0_5 v0 v1 v2 (v3 + ((1 : Int32) + r4)) (v4 + 1) M3)))) else (b_Q_after_0_5 v0 v1 v2 v3 (v4 + 1) M1))))))) else none) else (some (.inl (some (0, .int v3)), M))) := (xEv_unf 400 xtab xml _ _ _ _ M).trans rfl
set_option maxRecDepth 100000 in
theorem e_m_Q_isAhead (a1 : Nat) (a2 : Int32) (a3 : Int32) (a4 : Int32) (M : xM) : m_Q_isAhead a1 a2 a3 a4 M = (if a2 = 1 then (xbI (xret (m_Q_late_0 a1 a3 M)) (fun r10 M9 => (xbI (xret (m_Q_late_0 a1 a4 M9)) (fun r12 M11 => (if r10 < r12 then (some (.inl (some (0, .int (xnar 1 1))), M11)) else (some (.inl (some (0, .int (xnar 1 0))), M11))))))) else (if a2 = 2 then (if (gn M 227 a1 0) = 1 then (xgd (xgood (xsl 0) M && xain (xsl 0) [(1, .ref 0), (0, .int a3)]) (xbI (xret (m_C_duration 0 a3 M)) (fun r6 M5 => (if (gn M5 227 a1 0) = 1 then (xgd (xgood (xsl 0) M5 && xain (xsl 0) [(1, .ref 0), (0, .int a4)]) (xbI (xret (m_C_duration 0 a4 M5)) (fun r8 M7 => (if r8 < r6 then (some (.inl (some (0, .int (xnar 1 1))), M7)) else (some (.inl (some (0, .int (xnar 1 0))), M7)))))) else none)))) else none) else (if a2 = 3 then (if 12 = Int32.ofNat 12 then (xbI (xret (m_Q_after_0 a1 a3 (gn M 101 29 0) (xnew M 29 12))) (fun r2 M1 => (if 12 = Int32.ofNat 12 then (xbI (xret (m_Q_after_0 a1 a4 (gn M1 101 29 0) (xnew M1 29 12))) (fun r4 M3 => (if r4 < r2 then (some (.inl (some (0, .int (xnar 1 1))), M3)) else (some (.inl (some (0, .int (xnar 1 0))), M3))))) else none))) else none) else (some (.inl (some (0, .int (xnar 1 0))), M))))) := (xEv_unf 400 xtab xml _ _ _ _ M).trans rfl
set_option maxRecDepth 100000 in
theorem e_m_C_resourceCount (a1 : Nat) (M : xM) : m_C_resourceCount a1 M = (some (.inl (some (0, .int (gi M 2 9 1))), M)) := (xEv_unf 400 xtab xml _ _ _ _ M).trans rfl
set_option maxRecDepth 100000 in
theorem e_m_Q_isOn (a1 : Nat) (a2 : Int32) (a3 : Int32) (M : xM) : m_Q_isOn a1 a2 a3 M = (if (gn M 227 a1 2) = 1 then (xck a2 12 (if (gi M 28 a1 (ix a2)) < 0 then (some (.inl (some (0, .int (xnar 1 0))), M)) else (if (gn M 227 a1 2) = 1 then (xck a2 12 (if a3 < (gi M 28 a1 (ix a2)) then (some (.inl (some (0, .int (xnar 1 0))), M)) else (if (gn M 227 a1 2) = 1 then (xck a2 12 (if (gn M 227 a1 0) = 1 then (xgd (xgood (xsl 0) M && xain (xsl 0) [(1, .ref 0), (0, .int a2)]) (xbI (xret (m_C_duration 0 a2 M)) (fun r2 M1 => (if a3 < ((gi M 28 a1 (ix a2)) + r2) then (some (.inl (some (0, .int (xnar 1 1))), M1)) else (some (.inl (some (0, .int (xnar 1 0))), M1)))))) else none)) else none))) else none))) else none) := (xEv_unf 400 xtab xml _ _ _ _ M).trans rfl
set_option maxRecDepth 100000 in
theorem e_m_P_hasResource (a1 : Nat) (a2 : Int32) (M : xM) : m_P_hasResource a1 a2 M = (if a2 < 0 then (some (.inl (some (0, .int (xnar 1 0))), M)) else (if a2 < (gi M 2 a1 1) then (some (.inl (some (0, .int (xnar 1 1))), M)) else (some (.inl (some (0, .int (xnar 1 0))), M)))) := (xEv_unf 400 xtab xml _ _ _ _ M).trans rfl
set_option maxRecDepth 100000 in
theorem e_m_C_requireResource (a1 : Nat) (a2 : Int32) (M : xM) : m_C_requireResource a1 a2 M = (xbI (m_P_hasResource 9 a2 M) (fun r2 M1 => (if r2 = 0 then (some (.inr 2, xbump M1 1 6)) else (some (.inl none, M1))))) := (xEv_unf 400 xtab xml _ _ _ _ M).trans rfl
set_option maxRecDepth 100000 in
theorem e_m_P_demandOf (a1 : Nat) (a2 : Int32) (a3 : Int32) (M : xM) : m_P_demandOf a1 a2 a3 M = (xck ((a2 * (3 : Int32)) + a3) 36 (some (.inl (some (0, .int (gi M 9 a1 (ix ((a2 * (3 : Int32)) + a3))))), M))) := (xEv_unf 400 xtab xml _ _ _ _ M).trans rfl
set_option maxRecDepth 100000 in
theorem e_m_C_demand (a1 : Nat) (a2 : Int32) (a3 : Int32) (M : xM) : m_C_demand a1 a2 a3 M = (xbV (m_C_requireTask a1 a2 M) (fun M1 => (xbV (m_C_requireResource a1 a3 M1) (fun M2 => (xbI (m_P_demandOf 9 a2 a3 M2) (fun r4 M3 => (some (.inl (some (0, .int r4)), M3)))))))) := (xEv_unf 400 xtab xml _ _ _ _ M).trans rfl
set_option maxRecDepth 100000 in
theorem e_m_Q_usage (a1 : Nat) (a2 : Int32) (a3 : Int32) (M : xM) : m_Q_usage a1 a2 a3 M = (b_Q_usage_5 a1 a2 a3 0 0 M) := (xEv_unf 400 xtab xml _ _ _ _ M).trans rfl
set_option maxRecDepth 100000 in
theorem e_b_Q_usage_5 (v0 : Nat) (v1 : Int32) (v2 : Int32) (v3 : Int32) (v4 : Int32) (M : xM) : b_Q_usage_5 v0 v1 v2 v3 v4 M = (if v4 < (gi M 27 v0 1) then (xbI (xret (m_Q_isOn v0 v4 v2 M)) (fun r2 M1 => (if r2 = 0 then (b_Q_usage_5 v0 v1 v2 (v3 + 0) (v4 + 1) M1) else (if (gn M1 227 v0 0) = 1 then (xgd (xgood (xsl 0) M1 && xain (xsl 0) [(1, .ref 0), (0, .int v4), (0, .int v1)]) (xbI (xret (m_C_demand 0 v4 v1 M1)) (fun r4 M3 => (b_Q_usage_5 v0 v1 v2 (v3 + r4) (v4 + 1) M3)))) else none)))) else (some (.inl (some (0, .int v3)), M))) := (xEv_unf 400 xtab xml _ _ _ _ M).trans rfl
set_option maxRecDepth 100000 in
theorem e_m_C_capacity (a1 : Nat) (a2 : Int32) (M : xM) : m_C_capacity a1 a2 M = (xbV (m_C_requireResource a1 a2 M) (fun M1 => (xck a2 3 (some (.inl (some (0, .int (gi M1 4 9 (ix a2)))), M1))))) := (xEv_unf 400 xtab xml _ _ _ _ M).trans rfl
set_option maxRecDepth 100000 in
theorem e_m_Q_fits (a1 : Nat) (a2 : Int32) (a3 : Int32) (M : xM) : m_Q_fits a1 a2 a3 M = (b_Q_fits_3 a1 a2 a3 a3 M) := (xEv_unf 400 xtab xml _ _ _ _ M).trans rfl
set_option maxRecDepth 100000 in
theorem e_b_Q_fits_3 (v0 : Nat) (v1 : Int32) (v2 : Int32) (v3 : Int32) (M : xM) : b_Q_fits_3 v0 v1 v2 v3 M = (if (gn M 227 v0 0) = 1 then (xgd (xgood (xsl 0) M && xain (xsl 0) [(1, .ref 0), (0, .int v1)]) (xbI (xret (m_C_duration 0 v1 M)) (fun r2 M1 => (if v3 < (v2 + r2) then (b_Q_fits_14 v0 v1 v2 v3 0 M1) else (some (.inl (some (0, .int (xnar 1 1))), M1)))))) else none) := (xEv_unf 400 xtab xml _ _ _ _ M).trans rfl
set_option maxRecDepth 100000 in
theorem e_b_Q_fits_14 (v0 : Nat) (v1 : Int32) (v2 : Int32) (v3 : Int32) (v4 : Int32) (M : xM) : b_Q_fits_14 v0 v1 v2 v3 v4 M = (if (gn M 227 v0 0) = 1 then (xgd (xgood (xsl 0) M && xain (xsl 0) [(1, .ref 0)]) (xbI (xret (m_C_resourceCount 0 M)) (fun r2 M1 => (if v4 < r2 then (xbI (xret (m_Q_usage v0 v4 v3 M1)) (fun r4 M3 => (if (gn M3 227 v0 0) = 1 then (xgd (xgood (xsl 0) M3 && xain (xsl 0) [(1, .ref 0), (0, .int v1), (0, .int v4)]) (xbI (xret (m_C_demand 0 v1 v4 M3)) (fun r6 M5 => (if (gn M5 227 v0 0) = 1 then (xgd (xgood (xsl 0) M5 && xain (xsl 0) [(1, .ref 0), (0, .int v4)]) (xbI (xret (m_C_capacity 0 v4 M5)) (fun r8 M7 => (if r8 < (r4 + r6) then (some (.inl (some (0, .int (xnar 1 0))), M7)) else (b_Q_fits_14 v0 v1 v2 v3 (v4 + 1) M7))))) else none)))) else none))) else (b_Q_fits_3 v0 v1 v2 (v3 + 1) M1))))) else none) := (xEv_unf 400 xtab xml _ _ _ _ M).trans rfl
set_option maxRecDepth 100000 in
theorem e_m_Q_build (a1 : Nat) (a2 : Int32) (M : xM) : m_Q_build a1 a2 M = (b_Q_build_5 a1 a2 0 0 M) := (xEv_unf 400 xtab xml _ _ _ _ M).trans rfl
set_option maxRecDepth 100000 in
theorem e_b_Q_build_5 (v0 : Nat) (v1 : Int32) (v2 : Int32) (v3 : Int32) (M : xM) : b_Q_build_5 v0 v1 v2 v3 M = (if v3 < (gi M 27 v0 1) then (if (gn M 227 v0 2) = 1 then (xck v3 12 (b_Q_build_5 v0 v1 v2 (v3 + 1) (xst M 28 v0 (ix v3) (.int (-1))))) else none) else (b_Q_build_19 v0 v1 v2 0 M)) := (xEv_unf 400 xtab xml _ _ _ _ M).trans rfl
set_option maxRecDepth 100000 in
theorem e_b_Q_build_19 (v0 : Nat) (v1 : Int32) (v2 : Int32) (v3 : Int32) (M : xM) : b_Q_build_19 v0 v1 v2 v3 M = (if v3 < (gi M 27 v0 1) then (b_Q_build_28 v0 v1 v2 v3 (-1) 0 M) else (some (.inl (some (0, .int v2)), M))) := (xEv_unf 400 xtab xml _ _ _ _ M).trans rfl
set_option maxRecDepth 100000 in
theorem e_b_Q_build_28 (v0 : Nat) (v1 : Int32) (v2 : Int32) (v3 : Int32) (v4 : Int32) (v5 : Int32) (M : xM) : b_Q_build_28 v0 v1 v2 v3 v4 v5 M = (if v5 < (gi M 27 v0 1) then (if (gn M 227 v0 2) = 1 then (xck v5 12 (if (gi M 28 v0 (ix v5)) < 0 then (xbI (xret (m_Q_ready v0 v5 M)) (fun r4 M3 => (if r4 < 0 then (b_Q_build_28 v0 v1 v2 v3 v4 (v5 + 1) M3) else (if v4 < 0 then (b_Q_build_28 v0 v1 v2 v3 v5 (v5 + 1) M3) else (xbI (xret (m_Q_isAhead v0 v1 v5 v4 M3)) (fun r6 M5 => (if r6 = 0 then (b_Q_build_28 v0 v1 v2 v3 v4 (v5 + 1) M5) else (b_Q_build_28 v0 v1 v2 v3 v5 (v5 + 1) M5)))))))) else (b_Q_build_28 v0 v1 v2 v3 v4 (v5 + 1) M))) else none) else (xbI (xret (m_Q_ready v0 v4 M)) (fun r2 M1 => (b_Q_build_58 v0 v1 v2 v3 v4 r2 M1)))) := (xEv_unf 400 xtab xml _ _ _ _ M).trans rfl
set_option maxRecDepth 100000 in
theorem e_b_Q_build_58 (v0 : Nat) (v1 : Int32) (v2 : Int32) (v3 : Int32) (v4 : Int32) (v5 : Int32) (M : xM) : b_Q_build_58 v0 v1 v2 v3 v4 v5 M = (xbI (xret (m_Q_fits v0 v4 v5 M)) (fun r2 M1 => (if r2 = 0 then (b_Q_build_58 v0 v1 v2 v3 v4 (v5 + 1) M1) else (if (gn M1 227 v0 2) = 1 then (xck v4 12 (if (gn M1 227 v0 0) = 1 then (xgd (xgood (xsl 0) (xst M1 28 v0 (ix v4) (.int v5)) && xain (xsl 0) [(1, .ref 0), (0, .int v4)]) (xbI (xret (m_C_duration 0 v4 (xst M1 28 v0 (ix v4) (.int v5)))) (fun r4 M3 => (xgd (xgood (xsl 4) M3 && xain (xsl 4) [(0, .int v2), (0, .int (v5 + r4))]) (xbI (xret (m_JM_max v2 (v5 + r4) M3)) (fun r6 M5 => (b_Q_build_19 v0 v1 r6 (v3 + 1) M5))))))) else none)) else none)))) := (xEv_unf 400 xtab xml _ _ _ _ M).trans rfl
set_option maxRecDepth 100000 in
theorem e_m_P_isReady (a1 : Nat) (a2 : Int32) (a3 : Int32) (M : xM) : m_P_isReady a1 a2 a3 M = (xbI (xret (m_C_contains a3 a2 M)) (fun r2 M1 => (if r2 = 0 then (xck a2 12 (if ((gi M1 8 a1 (ix a2)) &&& (a3 ^^^ ((-1) : Int32))) = 0 then (some (.inl (some (0, .int (xnar 1 1))), M1)) else (some (.inl (some (0, .int (xnar 1 0))), M1)))) else (some (.inl (some (0, .int (xnar 1 0))), M1))))) := (xEv_unf 400 xtab xml _ _ _ _ M).trans rfl
set_option maxRecDepth 100000 in
theorem e_m_D_sortTasks (a1 : Nat) (a2 : Nat) (M : xM) : m_D_sortTasks a1 a2 M = (b_D_sortTasks_5 a1 a2 0 0 M) := (xEv_unf 400 xtab xml _ _ _ _ M).trans rfl
set_option maxRecDepth 100000 in
theorem e_b_D_sortTasks_5 (v0 : Nat) (v1 : Nat) (v2 : Int32) (v3 : Int32) (M : xM) : b_D_sortTasks_5 v0 v1 v2 v3 M = (if v3 < (gi M 2 v1 2) then (b_D_sortTasks_12 v0 v1 v2 v3 0 M) else (some (.inl none, M))) := (xEv_unf 400 xtab xml _ _ _ _ M).trans rfl
set_option maxRecDepth 100000 in
theorem e_b_D_sortTasks_12 (v0 : Nat) (v1 : Nat) (v2 : Int32) (v3 : Int32) (v4 : Int32) (M : xM) : b_D_sortTasks_12 v0 v1 v2 v3 v4 M = (if v4 < (gi M 2 v1 2) then (xbI (m_P_isReady v1 v4 v2 M) (fun r2 M1 => (if r2 = 0 then (b_D_sortTasks_12 v0 v1 v2 v3 (v4 + 1) M1) else (xck v3 12 (b_D_sortTasks_5 v0 v1 (v2 ||| ((1 : Int32) <<< (v4 &&& 31) : Int32)) (v3 + 1) (xst M1 11 v0 (ix v3) (.int v4))))))) else (b_D_sortTasks_5 v0 v1 v2 (v3 + 1) M)) := (xEv_unf 400 xtab xml _ _ _ _ M).trans rfl
set_option maxRecDepth 100000 in
theorem e_m_D_findEarliest (a1 : Nat) (a2 : Nat) (a3 : Int32) (M : xM) : m_D_findEarliest a1 a2 a3 M = (xck a3 12 (b_D_findEarliest_10 a1 a2 a3 (gi M 7 a2 (ix a3)) 0 0 M)) := (xEv_unf 400 xtab xml _ _ _ _ M).trans rfl
set_option maxRecDepth 100000 in
theorem e_b_D_findEarliest_10 (v0 : Nat) (v1 : Nat) (v2 : Int32) (v3 : Int32) (v4 : Int32) (v5 : Int32) (M : xM) : b_D_findEarliest_10 v0 v1 v2 v3 v4 v5 M = (if v5 < (gi M 2 v1 2) then (xbI (m_P_isLinked v1 v5 v2 M) (fun r4 M3 => (if r4 = 0 then (b_D_findEarliest_10 v0 v1 v2 v3 v4 (v5 + 1) M3) else (xck v5 12 (xck v5 12 (xbI (xret (m_JM_max v3 ((gi M3 13 v0 (ix v5)) + (gi M3 6 v1 (ix v5))) M3)) (fun r6 M5 => (xck v5 12 (b_D_findEarliest_10 v0 v1 v2 r6 (v4 ||| ((gi M5 12 v0 (ix v5)) ||| ((1 : Int32) <<< (v5 &&& 31) : Int32))) (v5 + 1) M5))))))))) else (xck v2 12 (xck v2 12 (xck v2 12 (xbI (xret (m_JM_max (gi M 10 v0 4) (v3 + (gi M 6 v1 (ix v2))) (xst (xst M 13 v0 (ix v2) (.int v3)) 12 v0 (ix v2) (.int v4)))) (fun r2 M1 => (some (.inl none, (xst M1 10 v0 4 (.int r2)))))))))) := (xEv_unf 400 xtab xml _ _ _ _ M).trans rfl
set_option maxRecDepth 100000 in
theorem e_m_D_findLatest (a1 : Nat) (a2 : Nat) (a3 : Int32) (M : xM) : m_D_findLatest a1 a2 a3 M = (b_D_findLatest_6 a1 a2 a3 (gi M 10 a1 4) 0 M) := (xEv_unf 400 xtab xml _ _ _ _ M).trans rfl
set_option maxRecDepth 100000 in
theorem e_b_D_findLatest_6 (v0 : Nat) (v1 : Nat) (v2 : Int32) (v3 : Int32) (v4 : Int32) (M : xM) : b_D_findLatest_6 v0 v1 v2 v3 v4 M = (if v4 < (gi M 2 v1 2) then (xbI (m_P_isLinked v1 v2 v4 M) (fun r2 M1 => (if r2 = 0 then (b_D_findLatest_6 v0 v1 v2 v3 (v4 + 1) M1) else (xck v4 12 (xbI (xret (m_JM_min v3 (gi M1 14 v0 (ix v4)) M1)) (fun r4 M3 => (b_D_findLatest_6 v0 v1 v2 r4 (v4 + 1) M3))))))) else (xck v2 12 (xck v2 12 (some (.inl none, (xst M 14 v0 (ix v2) (.int (v3 - (gi M 6 v1 (ix v2)))))))))) := (xEv_unf 400 xtab xml _ _ _ _ M).trans rfl
set_option maxRecDepth 100000 in
theorem e_m_D_compute (a1 : Nat) (a2 : Nat) (M : xM) : m_D_compute a1 a2 M = (xbV (m_D_sortTasks a1 a2 M) (fun M1 => (b_D_compute_9 a1 a2 0 (xst M1 10 a1 4 (.int 0))))) := (xEv_unf 400 xtab xml _ _ _ _ M).trans rfl
set_option maxRecDepth 100000 in
theorem e_b_D_compute_9 (v0 : Nat) (v1 : Nat) (v2 : Int32) (M : xM) : b_D_compute_9 v0 v1 v2 M = (if v2 < (gi M 2 v1 2) then (xck v2 12 (xbV (m_D_findEarliest v0 v1 (gi M 11 v0 (ix v2)) M) (fun M1 => (b_D_compute_9 v0 v1 (v2 + 1) M1)))) else (b_D_compute_28 v0 v1 ((gi M 2 v1 2) - (1 : Int32)) M)) := (xEv_unf 400 xtab xml _ _ _ _ M).trans rfl
set_option maxRecDepth 100000 in
theorem e_b_D_compute_28 (v0 : Nat) (v1 : Nat) (v2 : Int32) (M : xM) : b_D_compute_28 v0 v1 v2 M = (if v2 < 0 then (some (.inl none, M)) else (xck v2 12 (xbV (m_D_findLatest v0 v1 (gi M 11 v0 (ix v2)) M) (fun M1 => (b_D_compute_28 v0 v1 (v2 + (-1)) M1))))) := (xEv_unf 400 xtab xml _ _ _ _ M).trans rfl
set_option maxRecDepth 100000 in
theorem e_m_D_countFollowers (a1 : Nat) (a2 : Nat) (a3 : Int32) (M : xM) : m_D_countFollowers a1 a2 a3 M = (b_D_countFollowers_5 a1 a2 a3 0 0 M) := (xEv_unf 400 xtab xml _ _ _ _ M).trans rfl
set_option maxRecDepth 100000 in
theorem e_b_D_countFollowers_5 (v0 : Nat) (v1 : Nat) (v2 : Int32) (v3 : Int32) (v4 : Int32) (M : xM) : b_D_countFollowers_5 v0 v1 v2 v3 v4 M = (if v4 < (gi M 2 v1 2) then (xck v4 12 (xbI (xret (m_C_contains (gi M 12 v0 (ix v4)) v2 M)) (fun r2 M1 => (if r2 = 0 then (b_D_countFollowers_5 v0 v1 v2 v3 (v4 + 1) M1) else (b_D_countFollowers_5 v0 v1 v2 (v3 + 1) (v4 + 1) M1))))) else (some (.inl (some (0, .int v3)), M))) := (xEv_unf 400 xtab xml _ _ _ _ M).trans rfl
set_option maxRecDepth 100000 in
theorem e_m_S_rankOf (a1 : Nat) (a2 : Nat) (a3 : Int32) (M : xM) : m_S_rankOf a1 a2 a3 M = (if (gi M 2 a2 0) = Int32.ofNat 1 then (xck a3 12 (some (.inl (some (0, .int (-(gi M 14 a1 (ix a3))))), M))) else (if (gi M 2 a2 0) = Int32.ofNat 2 then (xck a3 12 (some (.inl (some (0, .int (gi M 6 a2 (ix a3)))), M))) else (if (gi M 2 a2 0) = Int32.ofNat 3 then (xbI (m_D_countFollowers a1 a2 a3 M) (fun r2 M1 => (some (.inl (some (0, .int r2)), M1)))) else (some (.inl (some (0, .int 0)), M))))) := (xEv_unf 400 xtab xml _ _ _ _ M).trans rfl
set_option maxRecDepth 100000 in
theorem e_m_S_bestReady (a1 : Nat) (a2 : Nat) (M : xM) : m_S_bestReady a1 a2 M = (b_S_bestReady_7 a1 a2 (-1) 0 0 M) := (xEv_unf 400 xtab xml _ _ _ _ M).trans rfl
set_option maxRecDepth 100000 in
theorem e_b_S_bestReady_7 (v0 : Nat) (v1 : Nat) (v2 : Int32) (v3 : Int32) (v4 : Int32) (M : xM) : b_S_bestReady_7 v0 v1 v2 v3 v4 M = (if v4 < (gi M 2 v1 2) then (xbI (m_P_isReady v1 v4 (gi M 15 v0 2) M) (fun r2 M1 => (if r2 = 0 then (b_S_bestReady_7 v0 v1 v2 v3 (v4 + 1) M1) else (xbI (m_S_rankOf v0 v1 v4 M1) (fun r4 M3 => (if v2 = (-1) then (b_S_bestReady_7 v0 v1 v4 r4 (v4 + 1) M3) else (if v3 < r4 then (b_S_bestReady_7 v0 v1 v4 r4 (v4 + 1) M3) else (b_S_bestReady_7 v0 v1 v2 v3 (v4 + 1) M3)))))))) else (some (.inl (some (0, .int v2)), M))) := (xEv_unf 400 xtab xml _ _ _ _ M).trans rfl
set_option maxRecDepth 100000 in
theorem e_m_S_predecessorsFinish (a1 : Nat) (a2 : Nat) (a3 : Int32) (M : xM) : m_S_predecessorsFinish a1 a2 a3 M = (b_S_predecessorsFinish_5 a1 a2 a3 0 0 M) := (xEv_unf 400 xtab xml _ _ _ _ M).trans rfl
set_option maxRecDepth 100000 in
theorem e_b_S_predecessorsFinish_5 (v0 : Nat) (v1 : Nat) (v2 : Int32) (v3 : Int32) (v4 : Int32) (M : xM) : b_S_predecessorsFinish_5 v0 v1 v2 v3 v4 M = (if v4 < (gi M 2 v1 2) then (xbI (m_P_isLinked v1 v4 v2 M) (fun r2 M1 => (if r2 = 0 then (b_S_predecessorsFinish_5 v0 v1 v2 v3 (v4 + 1) M1) else (xck v4 12 (xck v4 12 (xbI (xret (m_JM_max v3 ((gi M1 16 v0 (ix v4)) + (gi M1 6 v1 (ix v4))) M1)) (fun r4 M3 => (b_S_predecessorsFinish_5 v0 v1 v2 r4 (v4 + 1) M3)))))))) else (some (.inl (some (0, .int v3)), M))) := (xEv_unf 400 xtab xml _ _ _ _ M).trans rfl
set_option maxRecDepth 100000 in
theorem e_m_P_runsOn (a1 : Nat) (a2 : Int32) (a3 : Int32) (a4 : Int32) (M : xM) : m_P_runsOn a1 a2 a3 a4 M = (if a4 < a3 then (some (.inl (some (0, .int (xnar 1 0))), M)) else (xck a2 12 (if a4 < (a3 + (gi M 6 a1 (ix a2))) then (some (.inl (some (0, .int (xnar 1 1))), M)) else (some (.inl (some (0, .int (xnar 1 0))), M))))) := (xEv_unf 400 xtab xml _ _ _ _ M).trans rfl
set_option maxRecDepth 100000 in
theorem e_m_P_loadOn (a1 : Nat) (k2 : Nat) (a2 : Nat) (a3 : Int32) (a4 : Int32) (a5 : Int32) (M : xM) : m_P_loadOn a1 k2 a2 a3 a4 a5 M = (b_P_loadOn_5 a1 k2 a2 a3 a4 a5 0 0 M) := (xEv_unf 400 xtab xml _ _ _ _ M).trans rfl
set_option maxRecDepth 100000 in
theorem e_b_P_loadOn_5 (v0 : Nat) (k1 : Nat) (v1 : Nat) (v2 : Int32) (v3 : Int32) (v4 : Int32) (v5 : Int32) (v6 : Int32) (M : xM) : b_P_loadOn_5 v0 k1 v1 v2 v3 v4 v5 v6 M = (if v6 < (gi M 2 v0 2) then (xbI (xret (m_C_contains v2 v6 M)) (fun r2 M1 => (if r2 = 0 then (b_P_loadOn_5 v0 k1 v1 v2 v3 v4 v5 (v6 + 1) M1) else (xgd (Nat.beq (xtc k1) 1) (xck v6 (xlen k1 v1 M1) (xbI (m_P_runsOn v0 v6 (gi M1 k1 v1 (ix v6)) v4 M1) (fun r4 M3 => (if r4 = 0 then (b_P_loadOn_5 v0 k1 v1 v2 v3 v4 v5 (v6 + 1) M3) else (xbI (m_P_demandOf v0 v6 v3 M3) (fun r6 M5 => (b_P_loadOn_5 v0 k1 v1 v2 v3 v4 (v5 + r6) (v6 + 1) M5))))))))))) else (some (.inl (some (0, .int v5)), M))) := (xEv_unf 400 xtab xml _ _ _ _ M).trans rfl
set_option maxRecDepth 100000 in
theorem e_m_S_hasRoomOn (a1 : Nat) (a2 : Nat) (a3 : Int32) (a4 : Int32) (M : xM) : m_S_hasRoomOn a1 a2 a3 a4 M = (b_S_hasRoomOn_12 a1 a2 a3 a4 ((gi M 15 a1 2) &&& (((1 : Int32) <<< (a3 &&& 31) : Int32) ^^^ ((-1) : Int32))) 0 M) := (xEv_unf 400 xtab xml _ _ _ _ M).trans rfl
set_option maxRecDepth 100000 in
theorem e_b_S_hasRoomOn_12 (v0 : Nat) (v1 : Nat) (v2 : Int32) (v3 : Int32) (v4 : Int32) (v5 : Int32) (M : xM) : b_S_hasRoomOn_12 v0 v1 v2 v3 v4 v5 M = (if v5 < (gi M 2 v1 1) then (xbI (m_P_loadOn v1 16 v0 v4 v5 v3 M) (fun r2 M1 => (xbI (m_P_demandOf v1 v2 v5 M1) (fun r4 M3 => (xck v5 3 (if (gi M3 4 v1 (ix v5)) < (r2 + r4) then (some (.inl (some (0, .int (xnar 1 0))), M3)) else (b_S_hasRoomOn_12 v0 v1 v2 v3 v4 (v5 + 1) M3))))))) else (some (.inl (some (0, .int (xnar 1 1))), M))) := (xEv_unf 400 xtab xml _ _ _ _ M).trans rfl
set_option maxRecDepth 100000 in
theorem e_m_S_firstFreeDay (a1 : Nat) (a2 : Nat) (a3 : Int32) (M : xM) : m_S_firstFreeDay a1 a2 a3 M = (xck a3 12 (xbI (m_S_predecessorsFinish a1 a2 a3 M) (fun r2 M1 => (xbI (xret (m_JM_max (gi M 7 a2 (ix a3)) r2 M1)) (fun r4 M3 => (b_S_firstFreeDay_13 a1 a2 a3 r4 r4 M3)))))) := (xEv_unf 400 xtab xml _ _ _ _ M).trans rfl
set_option maxRecDepth 100000 in
theorem e_b_S_firstFreeDay_13 (v0 : Nat) (v1 : Nat) (v2 : Int32) (v3 : Int32) (v4 : Int32) (M : xM) : b_S_firstFreeDay_13 v0 v1 v2 v3 v4 M = (if 999 < v4 then (some (.inl (some (0, .int v3)), M)) else (xck v2 12 (if v4 < (v3 + (gi M 6 v1 (ix v2))) then (xbI (m_S_hasRoomOn v0 v1 v2 v4 M) (fun r2 M1 => (if r2 = 0 then (b_S_firstFreeDay_13 v0 v1 v2 (v4 + 1) (v4 + 1) M1) else (b_S_firstFreeDay_13 v0 v1 v2 v3 (v4 + 1) M1)))) else (some (.inl (some (0, .int v3)), M))))) := (xEv_unf 400 xtab xml _ _ _ _ M).trans rfl
set_option maxRecDepth 100000 in
theorem e_m_S_build (a1 : Nat) (a2 : Nat) (M : xM) : m_S_build a1 a2 M = (xbV (m_D_compute a1 a2 M) (fun M1 => (b_S_build_13 a1 a2 0 (xst (xst M1 15 a1 2 (.int 0)) 15 a1 3 (.int 0))))) := (xEv_unf 400 xtab xml _ _ _ _ M).trans rfl
set_option maxRecDepth 100000 in
theorem e_b_S_build_13 (v0 : Nat) (v1 : Nat) (v2 : Int32) (M : xM) : b_S_build_13 v0 v1 v2 M = (if v2 < (gi M 2 v1 2) then (xbI (m_S_bestReady v0 v1 M) (fun r2 M1 => (if r2 = (-1) then (b_S_build_13 v0 v1 (v2 + 1) M1) else (xbI (m_S_firstFreeDay v0 v1 r2 M1) (fun r4 M3 => (xck r2 12 (xck r2 12 (xck r2 12 (xbI (xret (m_JM_max (gi (xst (xst M3 16 v0 (ix r2) (.int r4)) 15 v0 2 (.int ((gi M3 15 v0 2) ||| ((1 : Int32) <<< (r2 &&& 31) : Int32)))) 15 v0 3) ((gi (xst M3 16 v0 (ix r2) (.int r4)) 16 v0 (ix r2)) + (gi M3 6 v1 (ix r2))) (xst (xst M3 16 v0 (ix r2) (.int r4)) 15 v0 2 (.int ((gi M3 15 v0 2) ||| ((1 : Int32) <<< (r2 &&& 31) : Int32)))))) (fun r6 M5 => (b_S_build_13 v0 v1 (v2 + 1) (xst M5 15 v0 3 (.int r6))))))))))))) else (some (.inl none, M))) := (xEv_unf 400 xtab xml _ _ _ _ M).trans rfl
set_option maxRecDepth 100000 in
theorem e_m_C_currentSchedule (a1 : Nat) (M : xM) : m_C_currentSchedule a1 M = (xbV (m_S_build 0 9 M) (fun M1 => (some (.inl (some (15, .ref 0)), M1)))) := (xEv_unf 400 xtab xml _ _ _ _ M).trans rfl
set_option maxRecDepth 100000 in
theorem e_m_C_makespan (a1 : Nat) (M : xM) : m_C_makespan a1 M = (xbR (m_C_currentSchedule a1 M) 15 (fun r2 M1 => (some (.inl (some (0, .int (gi M1 15 r2 3))), M1)))) := (xEv_unf 400 xtab xml _ _ _ _ M).trans rfl
set_option maxRecDepth 100000 in
theorem e_m_C_currentDates (a1 : Nat) (M : xM) : m_C_currentDates a1 M = (xbV (m_D_compute 0 9 M) (fun M1 => (some (.inl (some (10, .ref 0)), M1)))) := (xEv_unf 400 xtab xml _ _ _ _ M).trans rfl
set_option maxRecDepth 100000 in
theorem e_m_C_projectLength (a1 : Nat) (M : xM) : m_C_projectLength a1 M = (xbR (m_C_currentDates a1 M) 10 (fun r2 M1 => (some (.inl (some (0, .int (gi M1 10 r2 4))), M1)))) := (xEv_unf 400 xtab xml _ _ _ _ M).trans rfl
set_option maxRecDepth 100000 in
theorem e_m_S_countBrokenLinks (a1 : Nat) (a2 : Nat) (M : xM) : m_S_countBrokenLinks a1 a2 M = (b_S_countBrokenLinks_5 a1 a2 0 0 M) := (xEv_unf 400 xtab xml _ _ _ _ M).trans rfl
set_option maxRecDepth 100000 in
theorem e_b_S_countBrokenLinks_5 (v0 : Nat) (v1 : Nat) (v2 : Int32) (v3 : Int32) (M : xM) : b_S_countBrokenLinks_5 v0 v1 v2 v3 M = (if v3 < (gi M 2 v1 2) then (b_S_countBrokenLinks_12 v0 v1 v2 v3 0 M) else (some (.inl (some (0, .int v2)), M))) := (xEv_unf 400 xtab xml _ _ _ _ M).trans rfl
set_option maxRecDepth 100000 in
theorem e_b_S_countBrokenLinks_12 (v0 : Nat) (v1 : Nat) (v2 : Int32) (v3 : Int32) (v4 : Int32) (M : xM) : b_S_countBrokenLinks_12 v0 v1 v2 v3 v4 M = (if v4 < (gi M 2 v1 2) then (xbI (m_P_isLinked v1 v3 v4 M) (fun r2 M1 => (if r2 = 0 then (b_S_countBrokenLinks_12 v0 v1 v2 v3 (v4 + 1) M1) else (xck v4 12 (xck v3 12 (xck v3 12 (if (gi M1 16 v0 (ix v4)) < ((gi M1 16 v0 (ix v3)) + (gi M1 6 v1 (ix v3))) then (b_S_countBrokenLinks_12 v0 v1 (v2 + 1) v3 (v4 + 1) M1) else (b_S_countBrokenLinks_12 v0 v1 v2 v3 (v4 + 1) M1)))))))) else (b_S_countBrokenLinks_5 v0 v1 v2 (v3 + 1) M)) := (xEv_unf 400 xtab xml _ _ _ _ M).trans rfl
set_option maxRecDepth 100000 in
theorem e_m_S_usageOn (a1 : Nat) (a2 : Nat) (a3 : Int32) (a4 : Int32) (M : xM) : m_S_usageOn a1 a2 a3 a4 M = (xbI (m_P_loadOn a2 16 a1 (gi M 15 a1 2) a3 a4 M) (fun r2 M1 => (some (.inl (some (0, .int r2)), M1)))) := (xEv_unf 400 xtab xml _ _ _ _ M).trans rfl
set_option maxRecDepth 100000 in
theorem e_m_S_peakOf (a1 : Nat) (a2 : Nat) (a3 : Int32) (M : xM) : m_S_peakOf a1 a2 a3 M = (b_S_peakOf_5 a1 a2 a3 0 0 M) := (xEv_unf 400 xtab xml _ _ _ _ M).trans rfl
set_option maxRecDepth 100000 in
theorem e_b_S_peakOf_5 (v0 : Nat) (v1 : Nat) (v2 : Int32) (v3 : Int32) (v4 : Int32) (M : xM) : b_S_peakOf_5 v0 v1 v2 v3 v4 M = (if v4 < (gi M 15 v0 3) then (xbI (m_S_usageOn v0 v1 v2 v4 M) (fun r2 M1 => (xbI (xret (m_JM_max v3 r2 M1)) (fun r4 M3 => (b_S_peakOf_5 v0 v1 v2 r4 (v4 + 1) M3))))) else (some (.inl (some (0, .int v3)), M))) := (xEv_unf 400 xtab xml _ _ _ _ M).trans rfl
set_option maxRecDepth 100000 in
theorem e_m_S_countOverusedResources (a1 : Nat) (a2 : Nat) (M : xM) : m_S_countOverusedResources a1 a2 M = (b_S_countOverusedResources_5 a1 a2 0 0 M) := (xEv_unf 400 xtab xml _ _ _ _ M).trans rfl
set_option maxRecDepth 100000 in
theorem e_b_S_countOverusedResources_5 (v0 : Nat) (v1 : Nat) (v2 : Int32) (v3 : Int32) (M : xM) : b_S_countOverusedResources_5 v0 v1 v2 v3 M = (if v3 < (gi M 2 v1 1) then (xbI (m_S_peakOf v0 v1 v3 M) (fun r2 M1 => (xck v3 3 (if (gi M1 4 v1 (ix v3)) < r2 then (b_S_countOverusedResources_5 v0 v1 (v2 + 1) (v3 + 1) M1) else (b_S_countOverusedResources_5 v0 v1 v2 (v3 + 1) M1))))) else (some (.inl (some (0, .int v2)), M))) := (xEv_unf 400 xtab xml _ _ _ _ M).trans rfl
set_option maxRecDepth 100000 in
theorem e_m_P_workFor (a1 : Nat) (a2 : Int32) (M : xM) : m_P_workFor a1 a2 M = (b_P_workFor_5 a1 a2 0 0 M) := (xEv_unf 400 xtab xml _ _ _ _ M).trans rfl
set_option maxRecDepth 100000 in
theorem e_b_P_workFor_5 (v0 : Nat) (v1 : Int32) (v2 : Int32) (v3 : Int32) (M : xM) : b_P_workFor_5 v0 v1 v2 v3 M = (if v3 < (gi M 2 v0 2) then (xbI (m_P_demandOf v0 v3 v1 M) (fun r2 M1 => (xck v3 12 (b_P_workFor_5 v0 v1 (v2 + (r2 * (gi M1 6 v0 (ix v3)))) (v3 + 1) M1)))) else (some (.inl (some (0, .int v2)), M))) := (xEv_unf 400 xtab xml _ _ _ _ M).trans rfl
set_option maxRecDepth 100000 in
theorem e_m_P_daysOfWork (a1 : Nat) (a2 : Int32) (M : xM) : m_P_daysOfWork a1 a2 M = (xck a2 3 (if 0 < (gi M 4 a1 (ix a2)) then (xbI (m_P_workFor a1 a2 M) (fun r2 M1 => (if (gi M 4 a1 (ix a2)) = 0 then none else (some (.inl (some (0, .int (((r2 + (gi M 4 a1 (ix a2))) - (1 : Int32)) / (gi M 4 a1 (ix a2))))), M1))))) else (some (.inl (some (0, .int 0)), M)))) := (xEv_unf 400 xtab xml _ _ _ _ M).trans rfl
set_option maxRecDepth 100000 in
theorem e_m_D_leastMakespan (a1 : Nat) (a2 : Nat) (M : xM) : m_D_leastMakespan a1 a2 M = (b_D_leastMakespan_6 a2 (gi M 10 a1 4) 0 M) := (xEv_unf 400 xtab xml _ _ _ _ M).trans rfl
set_option maxRecDepth 100000 in
theorem e_b_D_leastMakespan_6 (v1 : Nat) (v2 : Int32) (v3 : Int32) (M : xM) : b_D_leastMakespan_6 v1 v2 v3 M = (if v3 < (gi M 2 v1 1) then (xbI (m_P_daysOfWork v1 v3 M) (fun r2 M1 => (xbI (xret (m_JM_max v2 r2 M1)) (fun r4 M3 => (b_D_leastMakespan_6 v1 r4 (v3 + 1) M3))))) else (some (.inl (some (0, .int v2)), M))) := (xEv_unf 400 xtab xml _ _ _ _ M).trans rfl
set_option maxRecDepth 100000 in
theorem e_m_C_inconsistencies (a1 : Nat) (M : xM) : m_C_inconsistencies a1 M = (xbR (m_C_currentSchedule a1 M) 15 (fun r2 M1 => (xbI (m_S_countBrokenLinks r2 9 M1) (fun r4 M3 => (xbI (m_S_countOverusedResources r2 9 M3) (fun r6 M5 => (xbI (m_D_leastMakespan r2 9 M5) (fun r8 M7 => (if (gi M5 15 r2 3) < r8 then (some (.inl (some (0, .int ((r4 + r6) + 1))), M7)) else (some (.inl (some (0, .int (r4 + r6))), M7))))))))))) := (xEv_unf 400 xtab xml _ _ _ _ M).trans rfl
set_option maxRecDepth 100000 in
theorem e_m_C_startDay (a1 : Nat) (a2 : Int32) (M : xM) : m_C_startDay a1 a2 M = (xbV (m_C_requireTask a1 a2 M) (fun M1 => (xbR (m_C_currentSchedule a1 M1) 15 (fun r3 M2 => (xck a2 12 (some (.inl (some (0, .int (gi M2 16 r3 (ix a2)))), M2))))))) := (xEv_unf 400 xtab xml _ _ _ _ M).trans rfl
set_option maxRecDepth 100000 in
theorem e_m_C_finishDay (a1 : Nat) (a2 : Int32) (M : xM) : m_C_finishDay a1 a2 M = (xbV (m_C_requireTask a1 a2 M) (fun M1 => (xbR (m_C_currentSchedule a1 M1) 15 (fun r3 M2 => (xck a2 12 (xck a2 12 (some (.inl (some (0, .int ((gi M2 16 r3 (ix a2)) + (gi M2 6 9 (ix a2))))), M2)))))))) := (xEv_unf 400 xtab xml _ _ _ _ M).trans rfl
set_option maxRecDepth 100000 in
theorem e_m_C_earliestStart (a1 : Nat) (a2 : Int32) (M : xM) : m_C_earliestStart a1 a2 M = (xbV (m_C_requireTask a1 a2 M) (fun M1 => (xbR (m_C_currentDates a1 M1) 10 (fun r3 M2 => (xck a2 12 (some (.inl (some (0, .int (gi M2 13 r3 (ix a2)))), M2))))))) := (xEv_unf 400 xtab xml _ _ _ _ M).trans rfl
set_option maxRecDepth 100000 in
theorem e_m_C_latestStart (a1 : Nat) (a2 : Int32) (M : xM) : m_C_latestStart a1 a2 M = (xbV (m_C_requireTask a1 a2 M) (fun M1 => (xbR (m_C_currentDates a1 M1) 10 (fun r3 M2 => (xck a2 12 (some (.inl (some (0, .int (gi M2 14 r3 (ix a2)))), M2))))))) := (xEv_unf 400 xtab xml _ _ _ _ M).trans rfl
set_option maxRecDepth 100000 in
theorem e_m_C_delay (a1 : Nat) (a2 : Int32) (M : xM) : m_C_delay a1 a2 M = (xbV (m_C_requireTask a1 a2 M) (fun M1 => (xbR (m_C_currentSchedule a1 M1) 15 (fun r3 M2 => (xck a2 12 (xck a2 12 (some (.inl (some (0, .int ((gi M2 16 r3 (ix a2)) - (gi M2 13 r3 (ix a2))))), M2)))))))) := (xEv_unf 400 xtab xml _ _ _ _ M).trans rfl
set_option maxRecDepth 100000 in
theorem e_m_D_slackOf (a1 : Nat) (a2 : Int32) (M : xM) : m_D_slackOf a1 a2 M = (xck a2 12 (xck a2 12 (some (.inl (some (0, .int ((gi M 14 a1 (ix a2)) - (gi M 13 a1 (ix a2))))), M)))) := (xEv_unf 400 xtab xml _ _ _ _ M).trans rfl
set_option maxRecDepth 100000 in
theorem e_m_C_slack (a1 : Nat) (a2 : Int32) (M : xM) : m_C_slack a1 a2 M = (xbV (m_C_requireTask a1 a2 M) (fun M1 => (xbR (m_C_currentDates a1 M1) 10 (fun r3 M2 => (xbI (m_D_slackOf r3 a2 M2) (fun r5 M4 => (some (.inl (some (0, .int r5)), M4)))))))) := (xEv_unf 400 xtab xml _ _ _ _ M).trans rfl
set_option maxRecDepth 100000 in
theorem e_m_C_requireDay (a1 : Int32) (M : xM) : m_C_requireDay a1 M = (if a1 < 0 then (some (.inr 1, xbump M 1 6)) else (if 999 < a1 then (some (.inr 1, xbump M 1 6)) else (some (.inl none, M)))) := (xEv_unf 400 xtab xml _ _ _ _ M).trans rfl
set_option maxRecDepth 100000 in
theorem e_m_C_usage (a1 : Nat) (a2 : Int32) (a3 : Int32) (M : xM) : m_C_usage a1 a2 a3 M = (xbV (m_C_requireResource a1 a2 M) (fun M1 => (xbV (m_C_requireDay a3 M1) (fun M2 => (xbR (m_C_currentSchedule a1 M2) 15 (fun r4 M3 => (xbI (m_S_usageOn r4 9 a2 a3 M3) (fun r6 M5 => (some (.inl (some (0, .int r6)), M5)))))))))) := (xEv_unf 400 xtab xml _ _ _ _ M).trans rfl
set_option maxRecDepth 100000 in
theorem e_m_C_peakUsage (a1 : Nat) (a2 : Int32) (M : xM) : m_C_peakUsage a1 a2 M = (xbV (m_C_requireResource a1 a2 M) (fun M1 => (xbR (m_C_currentSchedule a1 M1) 15 (fun r3 M2 => (xbI (m_S_peakOf r3 9 a2 M2) (fun r5 M4 => (some (.inl (some (0, .int r5)), M4)))))))) := (xEv_unf 400 xtab xml _ _ _ _ M).trans rfl
set_option maxRecDepth 100000 in
theorem e_m_C_lowerBound (a1 : Nat) (M : xM) : m_C_lowerBound a1 M = (xbR (m_C_currentDates a1 M) 10 (fun r2 M1 => (xbI (m_D_leastMakespan r2 9 M1) (fun r4 M3 => (some (.inl (some (0, .int r4)), M3)))))) := (xEv_unf 400 xtab xml _ _ _ _ M).trans rfl
set_option maxRecDepth 100000 in
theorem e_m_Q_agrees (a1 : Nat) (M : xM) : m_Q_agrees a1 M = (if (gn M 227 a1 0) = 1 then (xgd (xgood (xsl 0) M && xain (xsl 0) [(1, .ref 0)]) (xbI (xret (m_C_rule 0 M)) (fun r2 M1 => (xbI (xret (m_Q_build a1 r2 M1)) (fun r4 M3 => (if (gn M3 227 a1 0) = 1 then (xgd (xgood (xsl 0) M3 && xain (xsl 0) [(1, .ref 0)]) (xbI (xret (m_C_makespan 0 M3)) (fun r6 M5 => (if r6 = r4 then (if (gn M5 227 a1 0) = 1 then (xgd (xgood (xsl 0) M5 && xain (xsl 0) [(1, .ref 0)]) (xbI (xret (m_C_projectLength 0 M5)) (fun r8 M7 => (if r8 = (gi M7 27 a1 3) then (if r4 < (gi M7 27 a1 3) then (some (.inl (some (0, .int (xnar 1 0))), M7)) else (if (gn M7 227 a1 0) = 1 then (xgd (xgood (xsl 0) M7 && xain (xsl 0) [(1, .ref 0)]) (xbI (xret (m_C_inconsistencies 0 M7)) (fun r10 M9 => (if r10 = 0 then (b_Q_agrees_30 a1 r4 0 M9) else (some (.inl (some (0, .int (xnar 1 0))), M9)))))) else none)) else (some (.inl (some (0, .int (xnar 1 0))), M7)))))) else none) else (some (.inl (some (0, .int (xnar 1 0))), M5)))))) else none)))))) else none) := (xEv_unf 400 xtab xml _ _ _ _ M).trans rfl
set_option maxRecDepth 100000 in
theorem e_b_Q_agrees_30 (v0 : Nat) (v1 : Int32) (v2 : Int32) (M : xM) : b_Q_agrees_30 v0 v1 v2 M = (if v2 < (gi M 27 v0 1) then (if (gn M 227 v0 0) = 1 then (xgd (xgood (xsl 0) M && xain (xsl 0) [(1, .ref 0), (0, .int v2)]) (xbI (xret (m_C_startDay 0 v2 M)) (fun r2 M1 => (if (gn M1 227 v0 2) = 1 then (xck v2 12 (if r2 = (gi M1 28 v0 (ix v2)) then (if (gn M1 227 v0 0) = 1 then (xgd (xgood (xsl 0) M1 && xain (xsl 0) [(1, .ref 0), (0, .int v2)]) (xbI (xret (m_C_finishDay 0 v2 M1)) (fun r4 M3 => (if (gn M3 227 v0 2) = 1 then (xck v2 12 (if (gn M3 227 v0 0) = 1 then (xgd (xgood (xsl 0) M3 && xain (xsl 0) [(1, .ref 0), (0, .int v2)]) (xbI (xret (m_C_duration 0 v2 M3)) (fun r6 M5 => (if r4 = ((gi M3 28 v0 (ix v2)) + r6) then (if (gn M5 227 v0 0) = 1 then (xgd (xgood (xsl 0) M5 && xain (xsl 0) [(1, .ref 0), (0, .int v2)]) (xbI (xret (m_C_earliestStart 0 v2 M5)) (fun r8 M7 => (xbI (xret (m_Q_early_0 v0 v2 M7)) (fun r10 M9 => (if r8 = r10 then (if (gn M9 227 v0 0) = 1 then (xgd (xgood (xsl 0) M9 && xain (xsl 0) [(1, .ref 0), (0, .int v2)]) (xbI (xret (m_C_latestStart 0 v2 M9)) (fun r12 M11 => (xbI (xret (m_Q_late_0 v0 v2 M11)) (fun r14 M13 => (if r12 = r14 then (if (gn M13 227 v0 0) = 1 then (xgd (xgood (xsl 0) M13 && xain (xsl 0) [(1, .ref 0), (0, .int v2)]) (xbI (xret (m_C_delay 0 v2 M13)) (fun r16 M15 => (if (gn M15 227 v0 2) = 1 then (xck v2 12 (xbI (xret (m_Q_early_0 v0 v2 M15)) (fun r18 M17 => (if r16 = ((gi M15 28 v0 (ix v2)) - r18) then (if (gn M17 227 v0 0) = 1 then (xgd (xgood (xsl 0) M17 && xain (xsl 0) [(1, .ref 0), (0, .int v2)]) (xbI (xret (m_C_delay 0 v2 M17)) (fun r20 M19 => (if r20 < 0 then (some (.inl (some (0, .int (xnar 1 0))), M19)) else (if (gn M19 227 v0 0) = 1 then (xgd (xgood (xsl 0) M19 && xain (xsl 0) [(1, .ref 0), (0, .int v2)]) (xbI (xret (m_C_slack 0 v2 M19)) (fun r22 M21 => (xbI (xret (m_Q_late_0 v0 v2 M21)) (fun r24 M23 => (xbI (xret (m_Q_early_0 v0 v2 M23)) (fun r26 M25 => (if r22 = (r24 - r26) then (if (gn M25 227 v0 0) = 1 then (xgd (xgood (xsl 0) M25 && xain (xsl 0) [(1, .ref 0), (0, .int v2)]) (xbI (xret (m_C_slack 0 v2 M25)) (fun r28 M27 => (if r28 < 0 then (some (.inl (some (0, .int (xnar 1 0))), M27)) else (b_Q_agrees_115 v0 v1 v2 0 M27))))) else none) else (some (.inl (some (0, .int (xnar 1 0))), M25)))))))))) else none))))) else none) else (some (.inl (some (0, .int (xnar 1 0))), M17)))))) else none)))) else none) else (some (.inl (some (0, .int (xnar 1 0))), M13)))))))) else none) else (some (.inl (some (0, .int (xnar 1 0))), M9)))))))) else none) else (some (.inl (some (0, .int (xnar 1 0))), M5)))))) else none)) else none)))) else none) else (some (.inl (some (0, .int (xnar 1 0))), M1)))) else none)))) else none) else (b_Q_agrees_148 v0 v1 0 M)) := (xEv_unf 400 xtab xml _ _ _ _ M).trans rfl
set_option maxRecDepth 100000 in
theorem e_b_Q_agrees_148 (v0 : Nat) (v1 : Int32) (v2 : Int32) (M : xM) : b_Q_agrees_148 v0 v1 v2 M = (if (gn M 227 v0 0) = 1 then (xgd (xgood (xsl 0) M && xain (xsl 0) [(1, .ref 0)]) (xbI (xret (m_C_resourceCount 0 M)) (fun r2 M1 => (if v2 < r2 then (b_Q_agrees_158 v0 v1 v2 0 0 M1) else (if (gn M1 227 v0 0) = 1 then (xgd (xgood (xsl 0) M1 && xain (xsl 0) [(1, .ref 0)]) (xbI (xret (m_C_lowerBound 0 M1)) (fun r4 M3 => (if v1 < r4 then (some (.inl (some (0, .int (xnar 1 0))), M3)) else (some (.inl (some (0, .int (xnar 1 1))), M3)))))) else none))))) else none) := (xEv_unf 400 xtab xml _ _ _ _ M).trans rfl
set_option maxRecDepth 100000 in
theorem e_b_Q_agrees_115 (v0 : Nat) (v1 : Int32) (v2 : Int32) (v3 : Int32) (M : xM) : b_Q_agrees_115 v0 v1 v2 v3 M = (if v3 < (gi M 27 v0 1) then (if (gn M 227 v0 0) = 1 then (xgd (xgood (xsl 0) M && xain (xsl 0) [(1, .ref 0), (0, .int v2), (0, .int v3)]) (xbI (xret (m_C_hasLink 0 v2 v3 M)) (fun r2 M1 => (if r2 = 0 then (b_Q_agrees_115 v0 v1 v2 (v3 + 1) M1) else (if (gn M1 227 v0 2) = 1 then (xck v3 12 (if (gn M1 227 v0 2) = 1 then (xck v2 12 (if (gn M1 227 v0 0) = 1 then (xgd (xgood (xsl 0) M1 && xain (xsl 0) [(1, .ref 0), (0, .int v2)]) (xbI (xret (m_C_duration 0 v2 M1)) (fun r4 M3 => (if (gi M1 28 v0 (ix v3)) < ((gi M1 28 v0 (ix v2)) + r4) then (some (.inl (some (0, .int (xnar 1 0))), M3)) else (b_Q_agrees_115 v0 v1 v2 (v3 + 1) M3))))) else none)) else none)) else none))))) else none) else (b_Q_agrees_30 v0 v1 (v2 + 1) M)) := (xEv_unf 400 xtab xml _ _ _ _ M).trans rfl
set_option maxRecDepth 100000 in
theorem e_b_Q_agrees_158 (v0 : Nat) (v1 : Int32) (v2 : Int32) (v3 : Int32) (v4 : Int32) (M : xM) : b_Q_agrees_158 v0 v1 v2 v3 v4 M = (if v1 < v4 then (if (gn M 227 v0 0) = 1 then (xgd (xgood (xsl 0) M && xain (xsl 0) [(1, .ref 0), (0, .int v2)]) (xbI (xret (m_C_peakUsage 0 v2 M)) (fun r2 M1 => (if r2 = v3 then (b_Q_agrees_148 v0 v1 (v2 + 1) M1) else (some (.inl (some (0, .int (xnar 1 0))), M1)))))) else none) else (xbI (xret (m_Q_usage v0 v2 v4 M)) (fun r4 M3 => (xgd (xgood (xsl 4) M3 && xain (xsl 4) [(0, .int v3), (0, .int r4)]) (xbI (xret (m_JM_max v3 r4 M3)) (fun r6 M5 => (if (gn M5 227 v0 0) = 1 then (xgd (xgood (xsl 0) M5 && xain (xsl 0) [(1, .ref 0), (0, .int v2), (0, .int v4)]) (xbI (xret (m_C_usage 0 v2 v4 M5)) (fun r8 M7 => (if r8 = r4 then (if (gn M7 227 v0 0) = 1 then (xgd (xgood (xsl 0) M7 && xain (xsl 0) [(1, .ref 0), (0, .int v2)]) (xbI (xret (m_C_capacity 0 v2 M7)) (fun r10 M9 => (if r10 < r4 then (some (.inl (some (0, .int (xnar 1 0))), M9)) else (b_Q_agrees_158 v0 v1 v2 r6 (v4 + 1) M9))))) else none) else (some (.inl (some (0, .int (xnar 1 0))), M7)))))) else none))))))) := (xEv_unf 400 xtab xml _ _ _ _ M).trans rfl
set_option maxRecDepth 100000 in
theorem e_m_C_requireRule (a1 : Int32) (M : xM) : m_C_requireRule a1 M = (if a1 < 0 then (some (.inr 1, xbump M 1 6)) else (if 3 < a1 then (some (.inr 1, xbump M 1 6)) else (some (.inl none, M)))) := (xEv_unf 400 xtab xml _ _ _ _ M).trans rfl
set_option maxRecDepth 100000 in
theorem e_m_C_lengthWithRule (a1 : Nat) (a2 : Int32) (M : xM) : m_C_lengthWithRule a1 a2 M = (xbV (m_P_copyFrom 0 9 M) (fun M1 => (xbV (m_S_build 0 0 (xst M1 2 0 0 (.int a2))) (fun M2 => (some (.inl (some (0, .int (gi M2 15 0 3))), M2)))))) := (xEv_unf 400 xtab xml _ _ _ _ M).trans rfl
set_option maxRecDepth 100000 in
theorem e_m_C_makespanWith (a1 : Nat) (a2 : Int32) (M : xM) : m_C_makespanWith a1 a2 M = (xbV (m_C_requireRule a2 M) (fun M1 => (xbI (m_C_lengthWithRule a1 a2 M1) (fun r3 M2 => (some (.inl (some (0, .int r3)), M2)))))) := (xEv_unf 400 xtab xml _ _ _ _ M).trans rfl
set_option maxRecDepth 100000 in
theorem e_m_C_requireDuration (a1 : Int32) (M : xM) : m_C_requireDuration a1 M = (if a1 < 1 then (some (.inr 1, xbump M 1 6)) else (if 30 < a1 then (some (.inr 1, xbump M 1 6)) else (some (.inl none, M)))) := (xEv_unf 400 xtab xml _ _ _ _ M).trans rfl
set_option maxRecDepth 100000 in
theorem e_m_H_remember (a1 : Nat) (a2 : Nat) (M : xM) : m_H_remember a1 a2 M = (if ((gi M 17 a1 1) + 1) < 6 then (xck (gi (xst M 17 a1 1 (.int ((gi M 17 a1 1) + 1))) 17 a1 1) 6 (xbV (m_P_copyFrom (ix (gi (xst M 17 a1 1 (.int ((gi M 17 a1 1) + 1))) 17 a1 1) + 1) a2 (xst M 17 a1 1 (.int ((gi M 17 a1 1) + 1)))) (fun M4 => (xbI (xret (m_JM_min ((gi M4 17 a1 2) + 1) 6 M4)) (fun r6 M5 => (some (.inl none, (xst M5 17 a1 2 (.int r6))))))))) else (xck (gi (xst M 17 a1 1 (.int 0)) 17 a1 1) 6 (xbV (m_P_copyFrom (ix (gi (xst M 17 a1 1 (.int 0)) 17 a1 1) + 1) a2 (xst M 17 a1 1 (.int 0))) (fun M1 => (xbI (xret (m_JM_min ((gi M1 17 a1 2) + 1) 6 M1)) (fun r3 M2 => (some (.inl none, (xst M2 17 a1 2 (.int r3)))))))))) := (xEv_unf 400 xtab xml _ _ _ _ M).trans rfl
set_option maxRecDepth 100000 in
theorem e_m_P_changeDuration (a1 : Nat) (a2 : Int32) (a3 : Int32) (M : xM) : m_P_changeDuration a1 a2 a3 M = (xbI (m_P_hasTask a1 a2 M) (fun r2 M1 => (if r2 = 0 then (some (.inl (some (0, .int (xnar 1 0))), M1)) else (if a3 < 1 then (some (.inl (some (0, .int (xnar 1 0))), M1)) else (if 30 < a3 then (some (.inl (some (0, .int (xnar 1 0))), M1)) else (xck a2 12 (some (.inl (some (0, .int (xnar 1 1))), (xst M1 6 a1 (ix a2) (.int a3)))))))))) := (xEv_unf 400 xtab xml _ _ _ _ M).trans rfl
set_option maxRecDepth 100000 in
theorem e_m_C_setDuration (a1 : Nat) (a2 : Int32) (a3 : Int32) (M : xM) : m_C_setDuration a1 a2 a3 M = (xbV (m_C_requireTask a1 a2 M) (fun M1 => (xbV (m_C_requireDuration a3 M1) (fun M2 => (xbV (m_H_remember 0 9 M2) (fun M3 => (xck a2 12 (xbI (m_P_changeDuration 9 a2 a3 M3) (fun r5 M4 => (some (.inl (some (0, .int (gi M3 6 9 (ix a2)))), M4))))))))))) := (xEv_unf 400 xtab xml _ _ _ _ M).trans rfl
set_option maxRecDepth 100000 in
theorem e_m_P_changeDemand (a1 : Nat) (a2 : Int32) (a3 : Int32) (a4 : Int32) (M : xM) : m_P_changeDemand a1 a2 a3 a4 M = (xbI (m_P_hasTask a1 a2 M) (fun r2 M1 => (if r2 = 0 then (some (.inl (some (0, .int (xnar 1 0))), M1)) else (xbI (m_P_hasResource a1 a3 M1) (fun r4 M3 => (if r4 = 0 then (some (.inl (some (0, .int (xnar 1 0))), M3)) else (if a4 < 0 then (some (.inl (some (0, .int (xnar 1 0))), M3)) else (xck a3 3 (if (gi M3 4 a1 (ix a3)) < a4 then (some (.inl (some (0, .int (xnar 1 0))), M3)) else (xck ((a2 * (3 : Int32)) + a3) 36 (some (.inl (some (0, .int (xnar 1 1))), (xst M3 9 a1 (ix ((a2 * (3 : Int32)) + a3)) (.int a4)))))))))))))) := (xEv_unf 400 xtab xml _ _ _ _ M).trans rfl
set_option maxRecDepth 100000 in
theorem e_m_C_setDemand (a1 : Nat) (a2 : Int32) (a3 : Int32) (a4 : Int32) (M : xM) : m_C_setDemand a1 a2 a3 a4 M = (xbV (m_C_requireTask a1 a2 M) (fun M1 => (xbV (m_C_requireResource a1 a3 M1) (fun M2 => (if a4 < 0 then (some (.inr 1, xbump M2 1 6)) else (xck a3 3 (if (gi M2 4 9 (ix a3)) < a4 then (some (.inr 1, xbump M2 1 6)) else (xbV (m_H_remember 0 9 M2) (fun M3 => (xbI (m_P_demandOf 9 a2 a3 M3) (fun r5 M4 => (xbI (m_P_changeDemand 9 a2 a3 a4 M4) (fun r7 M6 => (some (.inl (some (0, .int r5)), M6))))))))))))))) := (xEv_unf 400 xtab xml _ _ _ _ M).trans rfl
set_option maxRecDepth 100000 in
theorem e_m_P_changeRelease (a1 : Nat) (a2 : Int32) (a3 : Int32) (M : xM) : m_P_changeRelease a1 a2 a3 M = (xbI (m_P_hasTask a1 a2 M) (fun r2 M1 => (if r2 = 0 then (some (.inl (some (0, .int (xnar 1 0))), M1)) else (if a3 < 0 then (some (.inl (some (0, .int (xnar 1 0))), M1)) else (if 99 < a3 then (some (.inl (some (0, .int (xnar 1 0))), M1)) else (xck a2 12 (some (.inl (some (0, .int (xnar 1 1))), (xst M1 7 a1 (ix a2) (.int a3)))))))))) := (xEv_unf 400 xtab xml _ _ _ _ M).trans rfl
set_option maxRecDepth 100000 in
theorem e_m_C_setRelease (a1 : Nat) (a2 : Int32) (a3 : Int32) (M : xM) : m_C_setRelease a1 a2 a3 M = (xbV (m_C_requireTask a1 a2 M) (fun M1 => (if a3 < 0 then (some (.inr 1, xbump M1 1 6)) else (if 99 < a3 then (some (.inr 1, xbump M1 1 6)) else (xbV (m_H_remember 0 9 M1) (fun M2 => (xck a2 12 (xbI (m_P_changeRelease 9 a2 a3 M2) (fun r4 M3 => (some (.inl (some (0, .int (gi M2 7 9 (ix a2)))), M3))))))))))) := (xEv_unf 400 xtab xml _ _ _ _ M).trans rfl
set_option maxRecDepth 100000 in
theorem e_m_P_predecessorsOf (a1 : Nat) (a2 : Int32) (M : xM) : m_P_predecessorsOf a1 a2 M = (b_P_predecessorsOf_5 a1 a2 0 0 M) := (xEv_unf 400 xtab xml _ _ _ _ M).trans rfl
set_option maxRecDepth 100000 in
theorem e_b_P_predecessorsOf_5 (v0 : Nat) (v1 : Int32) (v2 : Int32) (v3 : Int32) (M : xM) : b_P_predecessorsOf_5 v0 v1 v2 v3 M = (if v3 < (gi M 2 v0 2) then (xbI (xret (m_C_contains v1 v3 M)) (fun r2 M1 => (if r2 = 0 then (b_P_predecessorsOf_5 v0 v1 v2 (v3 + 1) M1) else (xck v3 12 (b_P_predecessorsOf_5 v0 v1 (v2 ||| (gi M1 8 v0 (ix v3))) (v3 + 1) M1))))) else (some (.inl (some (0, .int v2)), M))) := (xEv_unf 400 xtab xml _ _ _ _ M).trans rfl
set_option maxRecDepth 100000 in
theorem e_m_P_cycleLength (a1 : Nat) (a2 : Int32) (a3 : Int32) (M : xM) : m_P_cycleLength a1 a2 a3 M = (b_P_cycleLength_7 a1 a3 ((1 : Int32) <<< (a2 &&& 31) : Int32) 1 M) := (xEv_unf 400 xtab xml _ _ _ _ M).trans rfl
set_option maxRecDepth 100000 in
theorem e_b_P_cycleLength_7 (v0 : Nat) (v2 : Int32) (v3 : Int32) (v4 : Int32) (M : xM) : b_P_cycleLength_7 v0 v2 v3 v4 M = (if (gi M 2 v0 2) < v4 then (some (.inl (some (0, .int (-1))), M)) else (xbI (xret (m_C_contains v3 v2 M)) (fun r2 M1 => (if r2 = 0 then (xbI (m_P_predecessorsOf v0 v3 M1) (fun r4 M3 => (b_P_cycleLength_7 v0 v2 (v3 ||| r4) (v4 + 1) M3))) else (some (.inl (some (0, .int v4)), M1)))))) := (xEv_unf 400 xtab xml _ _ _ _ M).trans rfl
set_option maxRecDepth 100000 in
theorem e_m_C_closedCycleLength (a1 : Nat) (a2 : Int32) (a3 : Int32) (M : xM) : m_C_closedCycleLength a1 a2 a3 M = (xbV (m_C_requireTask a1 a2 M) (fun M1 => (xbV (m_C_requireTask a1 a3 M1) (fun M2 => (xbI (m_P_cycleLength 9 a2 a3 M2) (fun r4 M3 => (some (.inl (some (0, .int r4)), M3)))))))) := (xEv_unf 400 xtab xml _ _ _ _ M).trans rfl
set_option maxRecDepth 100000 in
theorem e_m_P_canLink (a1 : Nat) (a2 : Int32) (a3 : Int32) (M : xM) : m_P_canLink a1 a2 a3 M = (xbI (m_P_isLinked a1 a2 a3 M) (fun r2 M1 => (if r2 = 0 then (xbI (m_P_cycleLength a1 a2 a3 M1) (fun r4 M3 => (if r4 = (-1) then (some (.inl (some (0, .int (xnar 1 1))), M3)) else (some (.inl (some (0, .int (xnar 1 0))), M3))))) else (some (.inl (some (0, .int (xnar 1 0))), M1))))) := (xEv_unf 400 xtab xml _ _ _ _ M).trans rfl
set_option maxRecDepth 100000 in
theorem e_m_P_link (a1 : Nat) (a2 : Int32) (a3 : Int32) (M : xM) : m_P_link a1 a2 a3 M = (xbI (m_P_hasTask a1 a2 M) (fun r2 M1 => (if r2 = 0 then (some (.inl (some (0, .int (xnar 1 0))), M1)) else (xbI (m_P_hasTask a1 a3 M1) (fun r4 M3 => (if r4 = 0 then (some (.inl (some (0, .int (xnar 1 0))), M3)) else (xbI (m_P_canLink a1 a2 a3 M3) (fun r6 M5 => (if r6 = 0 then (some (.inl (some (0, .int (xnar 1 0))), M5)) else (xck a3 12 (xck a3 12 (some (.inl (some (0, .int (xnar 1 1))), (xst M5 8 a1 (ix a3) (.int ((gi M5 8 a1 (ix a3)) ||| ((1 : Int32) <<< (a2 &&& 31) : Int32))))))))))))))))) := (xEv_unf 400 xtab xml _ _ _ _ M).trans rfl
set_option maxRecDepth 100000 in
theorem e_m_JI_bitCount (a1 : Int32) (M : xM) : m_JI_bitCount a1 M = (some (.inl (some (0, .int ((((((((a1 - ((((Int32.toUInt32 a1) >>> ((Int32.toUInt32 1) &&& Int32.toUInt32 31)).toInt32) &&& (1431655765 : Int32))) &&& (858993459 : Int32)) + ((((Int32.toUInt32 (a1 - ((((Int32.toUInt32 a1) >>> ((Int32.toUInt32 1) &&& Int32.toUInt32 31)).toInt32) &&& (1431655765 : Int32)))) >>> ((Int32.toUInt32 2) &&& Int32.toUInt32 31)).toInt32) &&& (858993459 : Int32))) + (((Int32.toUInt32 (((a1 - ((((Int32.toUInt32 a1) >>> ((Int32.toUInt32 1) &&& Int32.toUInt32 31)).toInt32) &&& (1431655765 : Int32))) &&& (858993459 : Int32)) + ((((Int32.toUInt32 (a1 - ((((Int32.toUInt32 a1) >>> ((Int32.toUInt32 1) &&& Int32.toUInt32 31)).toInt32) &&& (1431655765 : Int32)))) >>> ((Int32.toUInt32 2) &&& Int32.toUInt32 31)).toInt32) &&& (858993459 : Int32)))) >>> ((Int32.toUInt32 4) &&& Int32.toUInt32 31)).toInt32)) &&& (252645135 : Int32)) + (((Int32.toUInt32 (((((a1 - ((((Int32.toUInt32 a1) >>> ((Int32.toUInt32 1) &&& Int32.toUInt32 31)).toInt32) &&& (1431655765 : Int32))) &&& (858993459 : Int32)) + ((((Int32.toUInt32 (a1 - ((((Int32.toUInt32 a1) >>> ((Int32.toUInt32 1) &&& Int32.toUInt32 31)).toInt32) &&& (1431655765 : Int32)))) >>> ((Int32.toUInt32 2) &&& Int32.toUInt32 31)).toInt32) &&& (858993459 : Int32))) + (((Int32.toUInt32 (((a1 - ((((Int32.toUInt32 a1) >>> ((Int32.toUInt32 1) &&& Int32.toUInt32 31)).toInt32) &&& (1431655765 : Int32))) &&& (858993459 : Int32)) + ((((Int32.toUInt32 (a1 - ((((Int32.toUInt32 a1) >>> ((Int32.toUInt32 1) &&& Int32.toUInt32 31)).toInt32) &&& (1431655765 : Int32)))) >>> ((Int32.toUInt32 2) &&& Int32.toUInt32 31)).toInt32) &&& (858993459 : Int32)))) >>> ((Int32.toUInt32 4) &&& Int32.toUInt32 31)).toInt32)) &&& (252645135 : Int32))) >>> ((Int32.toUInt32 8) &&& Int32.toUInt32 31)).toInt32)) + (((Int32.toUInt32 ((((((a1 - ((((Int32.toUInt32 a1) >>> ((Int32.toUInt32 1) &&& Int32.toUInt32 31)).toInt32) &&& (1431655765 : Int32))) &&& (858993459 : Int32)) + ((((Int32.toUInt32 (a1 - ((((Int32.toUInt32 a1) >>> ((Int32.toUInt32 1) &&& Int32.toUInt32 31)).toInt32) &&& (1431655765 : Int32)))) >>> ((Int32.toUInt32 2) &&& Int32.toUInt32 31)).toInt32) &&& (858993459 : Int32))) + (((Int32.toUInt32 (((a1 - ((((Int32.toUInt32 a1) >>> ((Int32.toUInt32 1) &&& Int32.toUInt32 31)).toInt32) &&& (1431655765 : Int32))) &&& (858993459 : Int32)) + ((((Int32.toUInt32 (a1 - ((((Int32.toUInt32 a1) >>> ((Int32.toUInt32 1) &&& Int32.toUInt32 31)).toInt32) &&& (1431655765 : Int32)))) >>> ((Int32.toUInt32 2) &&& Int32.toUInt32 31)).toInt32) &&& (858993459 : Int32)))) >>> ((Int32.toUInt32 4) &&& Int32.toUInt32 31)).toInt32)) &&& (252645135 : Int32)) + (((Int32.toUInt32 (((((a1 - ((((Int32.toUInt32 a1) >>> ((Int32.toUInt32 1) &&& Int32.toUInt32 31)).toInt32) &&& (1431655765 : Int32))) &&& (858993459 : Int32)) + ((((Int32.toUInt32 (a1 - ((((Int32.toUInt32 a1) >>> ((Int32.toUInt32 1) &&& Int32.toUInt32 31)).toInt32) &&& (1431655765 : Int32)))) >>> ((Int32.toUInt32 2) &&& Int32.toUInt32 31)).toInt32) &&& (858993459 : Int32))) + (((Int32.toUInt32 (((a1 - ((((Int32.toUInt32 a1) >>> ((Int32.toUInt32 1) &&& Int32.toUInt32 31)).toInt32) &&& (1431655765 : Int32))) &&& (858993459 : Int32)) + ((((Int32.toUInt32 (a1 - ((((Int32.toUInt32 a1) >>> ((Int32.toUInt32 1) &&& Int32.toUInt32 31)).toInt32) &&& (1431655765 : Int32)))) >>> ((Int32.toUInt32 2) &&& Int32.toUInt32 31)).toInt32) &&& (858993459 : Int32)))) >>> ((Int32.toUInt32 4) &&& Int32.toUInt32 31)).toInt32)) &&& (252645135 : Int32))) >>> ((Int32.toUInt32 8) &&& Int32.toUInt32 31)).toInt32))) >>> ((Int32.toUInt32 16) &&& Int32.toUInt32 31)).toInt32)) &&& (63 : Int32)))), M)) := (xEv_unf 400 xtab xml _ _ _ _ M).trans rfl
set_option maxRecDepth 100000 in
theorem e_m_P_countLinks (a1 : Nat) (M : xM) : m_P_countLinks a1 M = (b_P_countLinks_5 a1 0 0 M) := (xEv_unf 400 xtab xml _ _ _ _ M).trans rfl
set_option maxRecDepth 100000 in
theorem e_b_P_countLinks_5 (v0 : Nat) (v1 : Int32) (v2 : Int32) (M : xM) : b_P_countLinks_5 v0 v1 v2 M = (if v2 < (gi M 2 v0 2) then (xck v2 12 (xbI (xret (m_JI_bitCount (gi M 8 v0 (ix v2)) M)) (fun r2 M1 => (b_P_countLinks_5 v0 (v1 + r2) (v2 + 1) M1)))) else (some (.inl (some (0, .int v1)), M))) := (xEv_unf 400 xtab xml _ _ _ _ M).trans rfl
set_option maxRecDepth 100000 in
theorem e_m_C_addLink (a1 : Nat) (a2 : Int32) (a3 : Int32) (M : xM) : m_C_addLink a1 a2 a3 M = (xbV (m_C_requireTask a1 a2 M) (fun M1 => (xbV (m_C_requireTask a1 a3 M1) (fun M2 => (xbI (m_P_canLink 9 a2 a3 M2) (fun r4 M3 => (if r4 = 0 then (some (.inr 0, xbump M3 1 6)) else (xbV (m_H_remember 0 9 M3) (fun M5 => (xbI (m_P_link 9 a2 a3 M5) (fun r7 M6 => (xbI (m_P_countLinks 9 M6) (fun r9 M8 => (some (.inl (some (0, .int r9)), M8))))))))))))))) := (xEv_unf 400 xtab xml _ _ _ _ M).trans rfl
set_option maxRecDepth 100000 in
theorem e_m_P_unlink (a1 : Nat) (a2 : Int32) (a3 : Int32) (M : xM) : m_P_unlink a1 a2 a3 M = (xbI (m_P_hasTask a1 a2 M) (fun r2 M1 => (if r2 = 0 then (some (.inl (some (0, .int (xnar 1 0))), M1)) else (xbI (m_P_hasTask a1 a3 M1) (fun r4 M3 => (if r4 = 0 then (some (.inl (some (0, .int (xnar 1 0))), M3)) else (xbI (m_P_isLinked a1 a2 a3 M3) (fun r6 M5 => (if r6 = 0 then (some (.inl (some (0, .int (xnar 1 0))), M5)) else (xck a3 12 (xck a3 12 (some (.inl (some (0, .int (xnar 1 1))), (xst M5 8 a1 (ix a3) (.int ((gi M5 8 a1 (ix a3)) &&& (((1 : Int32) <<< (a2 &&& 31) : Int32) ^^^ ((-1) : Int32)))))))))))))))))) := (xEv_unf 400 xtab xml _ _ _ _ M).trans rfl
set_option maxRecDepth 100000 in
theorem e_m_C_removeLink (a1 : Nat) (a2 : Int32) (a3 : Int32) (M : xM) : m_C_removeLink a1 a2 a3 M = (xbV (m_C_requireTask a1 a2 M) (fun M1 => (xbV (m_C_requireTask a1 a3 M1) (fun M2 => (xbI (m_P_isLinked 9 a2 a3 M2) (fun r4 M3 => (if r4 = 0 then (some (.inr 0, xbump M3 1 6)) else (xbV (m_H_remember 0 9 M3) (fun M5 => (xbI (m_P_unlink 9 a2 a3 M5) (fun r7 M6 => (xbI (m_P_countLinks 9 M6) (fun r9 M8 => (some (.inl (some (0, .int r9)), M8))))))))))))))) := (xEv_unf 400 xtab xml _ _ _ _ M).trans rfl
set_option maxRecDepth 100000 in
theorem e_m_P_greatestDemand (a1 : Nat) (a2 : Int32) (M : xM) : m_P_greatestDemand a1 a2 M = (b_P_greatestDemand_5 a1 a2 0 0 M) := (xEv_unf 400 xtab xml _ _ _ _ M).trans rfl
set_option maxRecDepth 100000 in
theorem e_b_P_greatestDemand_5 (v0 : Nat) (v1 : Int32) (v2 : Int32) (v3 : Int32) (M : xM) : b_P_greatestDemand_5 v0 v1 v2 v3 M = (if v3 < (gi M 2 v0 2) then (xbI (m_P_demandOf v0 v3 v1 M) (fun r2 M1 => (xbI (xret (m_JM_max v2 r2 M1)) (fun r4 M3 => (b_P_greatestDemand_5 v0 v1 r4 (v3 + 1) M3))))) else (some (.inl (some (0, .int v2)), M))) := (xEv_unf 400 xtab xml _ _ _ _ M).trans rfl
set_option maxRecDepth 100000 in
theorem e_m_P_changeCapacity (a1 : Nat) (a2 : Int32) (a3 : Int32) (M : xM) : m_P_changeCapacity a1 a2 a3 M = (xbI (m_P_hasResource a1 a2 M) (fun r2 M1 => (if r2 = 0 then (some (.inl (some (0, .int (xnar 1 0))), M1)) else (if a3 < 1 then (some (.inl (some (0, .int (xnar 1 0))), M1)) else (if 9 < a3 then (some (.inl (some (0, .int (xnar 1 0))), M1)) else (xbI (m_P_greatestDemand a1 a2 M1) (fun r4 M3 => (if a3 < r4 then (some (.inl (some (0, .int (xnar 1 0))), M3)) else (xck a2 3 (some (.inl (some (0, .int (xnar 1 1))), (xst M3 4 a1 (ix a2) (.int a3))))))))))))) := (xEv_unf 400 xtab xml _ _ _ _ M).trans rfl
set_option maxRecDepth 100000 in
theorem e_m_C_setCapacity (a1 : Nat) (a2 : Int32) (a3 : Int32) (M : xM) : m_C_setCapacity a1 a2 a3 M = (xbV (m_C_requireResource a1 a2 M) (fun M1 => (if a3 < 1 then (some (.inr 1, xbump M1 1 6)) else (if 9 < a3 then (some (.inr 1, xbump M1 1 6)) else (xbI (m_P_greatestDemand 9 a2 M1) (fun r3 M2 => (if a3 < r3 then (some (.inr 0, xbump M2 1 6)) else (xbV (m_H_remember 0 9 M2) (fun M4 => (xck a2 3 (xbI (m_P_changeCapacity 9 a2 a3 M4) (fun r6 M5 => (some (.inl (some (0, .int (gi M4 4 9 (ix a2)))), M5)))))))))))))) := (xEv_unf 400 xtab xml _ _ _ _ M).trans rfl
set_option maxRecDepth 100000 in
theorem e_m_P_moveTask (a1 : Nat) (a2 : Int32) (a3 : Int32) (M : xM) : m_P_moveTask a1 a2 a3 M = (xck a2 12 (xck a3 12 (xck a2 12 (xck a3 12 (xck a2 12 (xck a3 12 (xck a2 12 (xck a3 12 (b_P_moveTask_35 a1 a2 a3 0 (xst (xst (xst (xst M 5 a1 (ix a3) (.long (gl M 5 a1 (ix a2)))) 6 a1 (ix a3) (.int (gi M 6 a1 (ix a2)))) 7 a1 (ix a3) (.int (gi M 7 a1 (ix a2)))) 8 a1 (ix a3) (.int (gi M 8 a1 (ix a2))))))))))))) := (xEv_unf 400 xtab xml _ _ _ _ M).trans rfl
set_option maxRecDepth 100000 in
theorem e_b_P_moveTask_35 (v0 : Nat) (v1 : Int32) (v2 : Int32) (v3 : Int32) (M : xM) : b_P_moveTask_35 v0 v1 v2 v3 M = (if v3 < 3 then (xck ((v1 * (3 : Int32)) + v3) 36 (xck ((v2 * (3 : Int32)) + v3) 36 (b_P_moveTask_35 v0 v1 v2 (v3 + 1) (xst M 9 v0 (ix ((v2 * (3 : Int32)) + v3)) (.int (gi M 9 v0 (ix ((v1 * (3 : Int32)) + v3)))))))) else (some (.inl none, M))) := (xEv_unf 400 xtab xml _ _ _ _ M).trans rfl
set_option maxRecDepth 100000 in
theorem e_m_P_withoutBit (a1 : Int32) (a2 : Int32) (M : xM) : m_P_withoutBit a1 a2 M = (some (.inl (some (0, .int ((a1 &&& (((1 : Int32) <<< (a2 &&& 31) : Int32) - (1 : Int32))) ||| ((a1 >>> (1 &&& 31) : Int32) &&& ((((1 : Int32) <<< (a2 &&& 31) : Int32) - (1 : Int32)) ^^^ ((-1) : Int32)))))), M)) := (xEv_unf 400 xtab xml _ _ _ _ M).trans rfl
set_option maxRecDepth 100000 in
theorem e_m_P_removeTask (a1 : Nat) (a2 : Int32) (M : xM) : m_P_removeTask a1 a2 M = (xbI (m_P_hasTask a1 a2 M) (fun r2 M1 => (if r2 = 0 then (some (.inl (some (0, .int (xnar 1 0))), M1)) else (if (gi M1 2 a1 2) = 1 then (some (.inl (some (0, .int (xnar 1 0))), M1)) else (b_P_removeTask_19 a1 a2 a2 (xst M1 2 a1 2 (.int ((gi M1 2 a1 2) - (1 : Int32))))))))) := (xEv_unf 400 xtab xml _ _ _ _ M).trans rfl
set_option maxRecDepth 100000 in
theorem e_b_P_removeTask_19 (v0 : Nat) (v1 : Int32) (v2 : Int32) (M : xM) : b_P_removeTask_19 v0 v1 v2 M = (if v2 < (gi M 2 v0 2) then (xbV (m_P_moveTask v0 (v2 + 1) v2 M) (fun M1 => (b_P_removeTask_19 v0 v1 (v2 + 1) M1))) else (b_P_removeTask_34 v0 v1 0 M)) := (xEv_unf 400 xtab xml _ _ _ _ M).trans rfl
set_option maxRecDepth 100000 in
theorem e_b_P_removeTask_34 (v0 : Nat) (v1 : Int32) (v2 : Int32) (M : xM) : b_P_removeTask_34 v0 v1 v2 M = (if v2 < (gi M 2 v0 2) then (xck v2 12 (xbI (m_P_withoutBit (gi M 8 v0 (ix v2)) v1 M) (fun r2 M1 => (xck v2 12 (b_P_removeTask_34 v0 v1 (v2 + 1) (xst M1 8 v0 (ix v2) (.int r2))))))) else (some (.inl (some (0, .int (xnar 1 1))), M))) := (xEv_unf 400 xtab xml _ _ _ _ M).trans rfl
set_option maxRecDepth 100000 in
theorem e_m_C_dropTask (a1 : Nat) (a2 : Int32) (M : xM) : m_C_dropTask a1 a2 M = (xbV (m_C_requireTask a1 a2 M) (fun M1 => (if (gi M1 2 9 2) = 1 then (some (.inr 0, xbump M1 1 6)) else (xbV (m_H_remember 0 9 M1) (fun M2 => (xbI (m_P_removeTask 9 a2 M2) (fun r4 M3 => (some (.inl (some (0, .int (gi M3 2 9 2))), M3))))))))) := (xEv_unf 400 xtab xml _ _ _ _ M).trans rfl
set_option maxRecDepth 100000 in
theorem e_m_P_changeRule (a1 : Nat) (a2 : Int32) (M : xM) : m_P_changeRule a1 a2 M = (if a2 < 0 then (some (.inl (some (0, .int (xnar 1 0))), M)) else (if 3 < a2 then (some (.inl (some (0, .int (xnar 1 0))), M)) else (some (.inl (some (0, .int (xnar 1 1))), (xst M 2 a1 0 (.int a2)))))) := (xEv_unf 400 xtab xml _ _ _ _ M).trans rfl
set_option maxRecDepth 100000 in
theorem e_m_C_setRule (a1 : Nat) (a2 : Int32) (M : xM) : m_C_setRule a1 a2 M = (xbV (m_C_requireRule a2 M) (fun M1 => (xbV (m_H_remember 0 9 M1) (fun M2 => (xbI (m_P_changeRule 9 a2 M2) (fun r4 M3 => (some (.inl (some (0, .int (gi M2 2 9 0))), M3)))))))) := (xEv_unf 400 xtab xml _ _ _ _ M).trans rfl
set_option maxRecDepth 100000 in
theorem e_b_L_act_94 (v0 : Nat) (v1 : Int32) (v4 : Int32) (v5 : Int32) (v6 : Int32) (M : xM) : b_L_act_94 v0 v1 v4 v5 v6 M = (xgd (xgood (xsl 0) M && xain (xsl 0) [(1, .ref v0)]) (xbI (xret (m_C_taskCount v0 M)) (fun r2 M1 => (if v6 < r2 then (xgd (xgood (xsl 0) M1 && xain (xsl 0) [(1, .ref v0), (0, .int v6), (0, .int v4)]) (xbI (xret (m_C_demand v0 v6 v4 M1)) (fun r6 M5 => (xgd (xgood (xsl 4) M5 && xain (xsl 4) [(0, .int v5), (0, .int r6)]) (xbI (xret (m_JM_max v5 r6 M5)) (fun r8 M7 => (b_L_act_94 v0 v1 v4 r8 (v6 + 1) M7))))))) else (if 4096 = 0 then none else (if 9 = 0 then none else (if ((1 : Int32) + ((v1 / 4096) - (v1 / 4096) / 9 * 9)) < v5 then (some (.inl none, M1)) else (if 4096 = 0 then none else (if 9 = 0 then none else (xgd (xgood (xsl 0) M1 && xain (xsl 0) [(1, .ref v0), (0, .int v4), (0, .int ((1 : Int32) + ((v1 / 4096) - (v1 / 4096) / 9 * 9)))]) (xbI (xret (m_C_setCapacity v0 v4 ((1 : Int32) + ((v1 / 4096) - (v1 / 4096) / 9 * 9)) M1)) (fun r4 M3 => (some (.inl none, M3)))))))))))))) := (xEv_unf 400 xtab xml _ _ _ _ M).trans rfl
end
section
set_option maxRecDepth 100000 in
theorem e_m_L_pick (a1 : Nat) (a2 : Int32) (a3 : Int32) (M : xM) : m_L_pick a1 a2 a3 M = (if a2 < (Int32.ofNat (gn M 151 a1 0)) then (xck a2 (gn M 151 a1 0) (if a3 = 0 then none else (some (.inl (some (0, .int (((gi M 41 a1 (ix a2)) &&& (2147483647 : Int32)) - ((gi M 41 a1 (ix a2)) &&& (2147483647 : Int32)) / a3 * a3))), M)))) else (some (.inl (some (0, .int 0)), M))) := (xEv_unf 400 xtab xml _ _ _ _ M).trans rfl
set_option maxRecDepth 100000 in
theorem e_m_L_setup (a1 : Nat) (a2 : Int32) (a3 : Int32) (M : xM) : m_L_setup a1 a2 a3 M = (xgd (xgood (xsl 4) (xnew M 50 4) && xain (xsl 4) [(50, .ref (gn M 101 50 0)), (46, .ref 8)]) (xbV (xret (m_JB_init (gn M 101 50 0) 8 (xnew M 50 4))) (fun M1 => (xbI (xret (m_L_pick a1 2 4 M1)) (fun r3 M2 => (xgd (xgood (xsl 4) M2 && xain (xsl 4) [(50, .ref (gn M 101 50 0)), (0, .int r3)]) (xbR (xret (m_JB_append_2 (gn M 101 50 0) r3 M2)) 50 (fun r5 M4 => (xgd (xgood (xsl 4) M4 && xain (xsl 4) [(50, .ref r5), (0, .int 59)]) (xbR (xret (m_JB_append_3 r5 59 M4)) 50 (fun r7 M6 => (b_L_setup_15 a1 a2 a3 r7 0 M6)))))))))))) := (xEv_unf 400 xtab xml _ _ _ _ M).trans rfl
set_option maxRecDepth 100000 in
theorem e_m_L_word (a1 : Nat) (a2 : Int32) (M : xM) : m_L_word a1 a2 M = (b_L_word_5 a1 a2 0 a2 M) := (xEv_unf 400 xtab xml _ _ _ _ M).trans rfl
set_option maxRecDepth 100000 in
theorem e_m_L_say (a1 : Nat) (a2 : Nat) (M : xM) : m_L_say a1 a2 M = (xgd (xgood (xsl 0) M && xain (xsl 0) [(1, .ref a1), (0, .int 0)]) (xbI (xret (m_C_truncate a1 0 M)) (fun r2 M1 => (b_L_say_7 a1 a2 0 M1)))) := (xEv_unf 400 xtab xml _ _ _ _ M).trans rfl
set_option maxRecDepth 100000 in
theorem e_m_L_act (a1 : Nat) (a2 : Int32) (M : xM) : m_L_act a1 a2 M = (if 16 = 0 then none else (xgd (xgood (xsl 0) M && xain (xsl 0) [(1, .ref a1)]) (xbI (xret (m_C_taskCount a1 M)) (fun r2 M1 => (if r2 = 0 then none else (if 256 = 0 then none else (xgd (xgood (xsl 0) M1 && xain (xsl 0) [(1, .ref a1)]) (xbI (xret (m_C_taskCount a1 M1)) (fun r4 M3 => (if r4 = 0 then none else (if 16 = 0 then none else (xgd (xgood (xsl 0) M3 && xain (xsl 0) [(1, .ref a1)]) (xbI (xret (m_C_resourceCount a1 M3)) (fun r6 M5 => (if r6 = 0 then none else (if 10 = 0 then none else (if (a2 - a2 / 10 * 10) = Int32.ofNat 0 then (if 4096 = 0 then none else (if 9 = 0 then none else (xgd (xgood (xsl 0) M5 && xain (xsl 0) [(1, .ref a1), (0, .int ((a2 / 16) - (a2 / 16) / r2 * r2)), (0, .int ((1 : Int32) + ((a2 / 4096) - (a2 / 4096) / 9 * 9)))]) (xbI (xret (m_C_setDuration a1 ((a2 / 16) - (a2 / 16) / r2 * r2) ((1 : Int32) + ((a2 / 4096) - (a2 / 4096) / 9 * 9)) M5)) (fun r36 M35 => (some (.inl none, M35))))))) else (if (a2 - a2 / 10 * 10) = Int32.ofNat 1 then (if 4096 = 0 then none else (xgd (xgood (xsl 0) M5 && xain (xsl 0) [(1, .ref a1), (0, .int ((a2 / 16) - (a2 / 16) / r6 * r6))]) (xbI (xret (m_C_capacity a1 ((a2 / 16) - (a2 / 16) / r6 * r6) M5)) (fun r32 M31 => (if (r32 + 1) = 0 then none else (xgd (xgood (xsl 0) M31 && xain (xsl 0) [(1, .ref a1), (0, .int ((a2 / 16) - (a2 / 16) / r2 * r2)), (0, .int ((a2 / 16) - (a2 / 16) / r6 * r6)), (0, .int ((a2 / 4096) - (a2 / 4096) / (r32 + 1) * (r32 + 1)))]) (xbI (xret (m_C_setDemand a1 ((a2 / 16) - (a2 / 16) / r2 * r2) ((a2 / 16) - (a2 / 16) / r6 * r6) ((a2 / 4096) - (a2 / 4096) / (r32 + 1) * (r32 + 1)) M31)) (fun r34 M33 => (some (.inl none, M33)))))))))) else (if (a2 - a2 / 10 * 10) = Int32.ofNat 2 then (if 4096 = 0 then none else (if 12 = 0 then none else (xgd (xgood (xsl 0) M5 && xain (xsl 0) [(1, .ref a1), (0, .int ((a2 / 16) - (a2 / 16) / r2 * r2)), (0, .int ((a2 / 4096) - (a2 / 4096) / 12 * 12))]) (xbI (xret (m_C_setRelease a1 ((a2 / 16) - (a2 / 16) / r2 * r2) ((a2 / 4096) - (a2 / 4096) / 12 * 12) M5)) (fun r30 M29 => (some (.inl none, M29))))))) else (if (a2 - a2 / 10 * 10) = Int32.ofNat 3 then (xgd (xgood (xsl 0) M5 && xain (xsl 0) [(1, .ref a1), (0, .int ((a2 / 16) - (a2 / 16) / r2 * r2)), (0, .int ((a2 / 256) - (a2 / 256) / r4 * r4))]) (xbI (xret (m_C_hasLink a1 ((a2 / 16) - (a2 / 16) / r2 * r2) ((a2 / 256) - (a2 / 256) / r4 * r4) M5)) (fun r24 M23 => (if r24 = 0 then (xgd (xgood (xsl 0) M23 && xain (xsl 0) [(1, .ref a1), (0, .int ((a2 / 16) - (a2 / 16) / r2 * r2)), (0, .int ((a2 / 256) - (a2 / 256) / r4 * r4))]) (xbI (xret (m_C_closedCycleLength a1 ((a2 / 16) - (a2 / 16) / r2 * r2) ((a2 / 256) - (a2 / 256) / r4 * r4) M23)) (fun r26 M25 => (if r26 < 0 then (xgd (xgood (xsl 0) M25 && xain (xsl 0) [(1, .ref a1), (0, .int ((a2 / 16) - (a2 / 16) / r2 * r2)), (0, .int ((a2 / 256) - (a2 / 256) / r4 * r4))]) (xbI (xret (m_C_addLink a1 ((a2 / 16) - (a2 / 16) / r2 * r2) ((a2 / 256) - (a2 / 256) / r4 * r4) M25)) (fun r28 M27 => (some (.inl none, M27))))) else (some (.inl none, M25)))))) else (some (.inl none, M23)))))) else (if (a2 - a2 / 10 * 10) = Int32.ofNat 4 then (xgd (xgood (xsl 0) M5 && xain (xsl 0) [(1, .ref a1), (0, .int ((a2 / 16) - (a2 / 16) / r2 * r2)), (0, .int ((a2 / 256) - (a2 / 256) / r4 * r4))]) (xbI (xret (m_C_hasLink a1 ((a2 / 16) - (a2 / 16) / r2 * r2) ((a2 / 256) - (a2 / 256) / r4 * r4) M5)) (fun r18 M17 => (if r18 = 0 then (xgd (xgood (xsl 0) M17 && xain (xsl 0) [(1, .ref a1), (0, .int ((a2 / 16) - (a2 / 16) / r2 * r2)), (0, .int ((a2 / 256) - (a2 / 256) / r4 * r4))]) (xbI (xret (m_C_closedCycleLength a1 ((a2 / 16) - (a2 / 16) / r2 * r2) ((a2 / 256) - (a2 / 256) / r4 * r4) M17)) (fun r20 M19 => (if r20 < 0 then (xgd (xgood (xsl 0) M19 && xain (xsl 0) [(1, .ref a1), (0, .int ((a2 / 16) - (a2 / 16) / r2 * r2)), (0, .int ((a2 / 256) - (a2 / 256) / r4 * r4))]) (xbI (xret (m_C_addLink a1 ((a2 / 16) - (a2 / 16) / r2 * r2) ((a2 / 256) - (a2 / 256) / r4 * r4) M19)) (fun r22 M21 => (some (.inl none, M21))))) else (some (.inl none, M19)))))) else (some (.inl none, M17)))))) else (if (a2 - a2 / 10 * 10) = Int32.ofNat 5 then (xgd (xgood (xsl 0) M5 && xain (xsl 0) [(1, .ref a1), (0, .int ((a2 / 16) - (a2 / 16) / r2 * r2)), (0, .int ((a2 / 256) - (a2 / 256) / r4 * r4))]) (xbI (xret (m_C_hasLink a1 ((a2 / 16) - (a2 / 16) / r2 * r2) ((a2 / 256) - (a2 / 256) / r4 * r4) M5)) (fun r14 M13 => (if r14 = 0 then (some (.inl none, M13)) else (xgd (xgood (xsl 0) M13 && xain (xsl 0) [(1, .ref a1), (0, .int ((a2 / 16) - (a2 / 16) / r2 * r2)), (0, .int ((a2 / 256) - (a2 / 256) / r4 * r4))]) (xbI (xret (m_C_removeLink a1 ((a2 / 16) - (a2 / 16) / r2 * r2) ((a2 / 256) - (a2 / 256) / r4 * r4) M13)) (fun r16 M15 => (some (.inl none, M15))))))))) else (if (a2 - a2 / 10 * 10) = Int32.ofNat 6 then (b_L_act_94 a1 a2 ((a2 / 16) - (a2 / 16) / r6 * r6) 1 0 M5) else (if (a2 - a2 / 10 * 10) = Int32.ofNat 7 then (xgd (xgood (xsl 0) M5 && xain (xsl 0) [(1, .ref a1)]) (xbI (xret (m_C_taskCount a1 M5)) (fun r10 M9 => (if 1 < r10 then (if 4096 = 0 then none else (if 4 = 0 then none else (if ((a2 / 4096) - (a2 / 4096) / 4 * 4) = 0 then (xgd (xgood (xsl 0) M9 && xain (xsl 0) [(1, .ref a1), (0, .int ((a2 / 16) - (a2 / 16) / r2 * r2))]) (xbI (xret (m_C_dropTask a1 ((a2 / 16) - (a2 / 16) / r2 * r2) M9)) (fun r12 M11 => (some (.inl none, M11))))) else (some (.inl none, M9))))) else (some (.inl none, M9)))))) else (if 4096 = 0 then none else (if 4 = 0 then none else (xgd (xgood (xsl 0) M5 && xain (xsl 0) [(1, .ref a1), (0, .int ((a2 / 4096) - (a2 / 4096) / 4 * 4))]) (xbI (xret (m_C_setRule a1 ((a2 / 4096) - (a2 / 4096) / 4 * 4) M5)) (fun r8 M7 => (some (.inl none, M7))))))))))))))))))))))))))))))) := (xEv_unf 400 xtab xml _ _ _ _ M).trans rfl
set_option maxRecDepth 100000 in
theorem e_m_L_law (a1 : Nat) (M : xM) : m_L_law a1 M = (xbV (xret (m_C_init (gn M 101 1 0) (xnew M 1 9))) (fun M1 => (xbI (xret (m_L_pick a1 0 3 M1)) (fun r3 M2 => (xbI (xret (m_L_pick a1 1 8 M2)) (fun r5 M4 => (xbR (xret (m_L_setup a1 ((1 : Int32) + r3) ((1 : Int32) + r5) M4)) 46 (fun r7 M6 => (xbI (xret (m_L_say (gn M 101 1 0) r7 M6)) (fun r9 M8 => (if r9 = 0 then (some (.inl (some (0, .int (xnar 1 0))), M8)) else (xgd (xgood (xsl 0) M8 && xain (xsl 0) [(1, .ref (gn M 101 1 0))]) (xbI (xret (m_C_load (gn M 101 1 0) M8)) (fun r11 M10 => (if r11 = ((1 : Int32) + r5) then (b_L_law_34 a1 (gn M 101 1 0) 0 M10) else (some (.inl (some (0, .int (xnar 1 0))), M10))))))))))))))))) := (xEv_unf 400 xtab xml _ _ _ _ M).trans rfl
set_option maxRecDepth 100000 in
theorem e_b_L_law_34 (v0 : Nat) (v1 : Nat) (v4 : Int32) (M : xM) : b_L_law_34 v0 v1 v4 M = (if v4 < 12 then (xbI (xret (m_L_pick v0 ((18 : Int32) + v4) 268435456 M)) (fun r5 M4 => (xbV (xret (m_Q_init (gn M4 101 27 0) v1 (xnew M4 27 4))) (fun M6 => (xbI (xret (m_Q_agrees (gn M4 101 27 0) M6)) (fun r8 M7 => (if r8 = 0 then (some (.inl (some (0, .int (xnar 1 0))), M7)) else (if 16 = 0 then none else (if 4 = 0 then none else (xgd (xgood (xsl 0) M7 && xain (xsl 0) [(1, .ref v1), (0, .int ((r5 / 16) - (r5 / 16) / 4 * 4))]) (xbI (xret (m_C_makespanWith v1 ((r5 / 16) - (r5 / 16) / 4 * 4) M7)) (fun r10 M9 => (xbI (xret (m_Q_build (gn M4 101 27 0) ((r5 / 16) - (r5 / 16) / 4 * 4) M9)) (fun r12 M11 => (if r10 = r12 then (xbV (xret (m_L_act v1 r5 M11)) (fun M13 => (if 3 = 0 then none else (xbV (xret (m_L_act v1 (r5 / 3) M13)) (fun M14 => (b_L_law_34 v0 v1 (v4 + 1) M14)))))) else (some (.inl (some (0, .int (xnar 1 0))), M11))))))))))))))))) else (xbV (xret (m_Q_init (gn M 101 27 0) v1 (xnew M 27 4))) (fun M1 => (xbI (xret (m_Q_agrees (gn M 101 27 0) M1)) (fun r3 M2 => (some (.inl (some (0, .int (xnar 1 r3))), M2))))))) := (xEv_unf 400 xtab xml _ _ _ _ M).trans rfl
end
