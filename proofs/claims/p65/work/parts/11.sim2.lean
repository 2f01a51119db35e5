/-- the constants are there -/
def xK (M : xM) : Prop := 5 ≤ xc M 42 ∧ 1 ≤ xc M 43 ∧ 0 ≤ xc M 44 ∧ 0 ≤ xc M 45 ∧ 13 ≤ xc M 46 ∧ 13 ≤ xc M 47 ∧ 1 ≤ xc M 48 ∧ 1 ≤ xc M 52
theorem xK.mon {M M' : xM} (hm : xmon M M') (h : xK M) : xK M' := by
  obtain ⟨a, b, c, d, e, f, g, i⟩ := h
  exact ⟨Nat.le_trans a (hm.1 _), Nat.le_trans b (hm.1 _), Nat.le_trans c (hm.1 _), Nat.le_trans d (hm.1 _), Nat.le_trans e (hm.1 _), Nat.le_trans f (hm.1 _), Nat.le_trans g (hm.1 _), Nat.le_trans i (hm.1 _)⟩
/-- bytes are bytes, lengths are small -/
def xBt (M : xM) : Prop := (∀ k o j, xtc k = 2 → o < xc M k → fits .byte (.int (gi M k o j)) = true) ∧ ∀ k o, xdyn k = true → k < 60 → o < xc M k → gn M (110 + k) o 0 ≤ 65536
/-- the invariant of a frame: what the heap holds, and the store -/
def xInv (s : State) (A : Nat → Prop) (ad : xA) (M : xM) (H0 H : Heap) (locs : List Loc) : Prop :=
  xWd s A ad M H ∧ xAp A ad M ∧ xWT M ∧ xBt M ∧ xK M ∧ va_S A H0 H locs
/-- statics, strings, the words of nest mates: what a start gives of the constants -/
def xCs (A : Nat → Prop) (ad : xA) (s : State) : Prop :=
  (∀ q ∈ xlds, vk_R (xcn q.1.1) q.1.2 (xget0 "" xtxt q.2) (ad 46 q.2) s) ∧ (∀ q ∈ xstt, va_Z q.1 q.2.1 q.2.2.1 (xenc ad q.2.2.2) A s s.heap) ∧
  (∀ q ∈ xgsN, (Cond.fieldLinkNest (xcn q.1.1) q.1.2 (xget0 xst0 xstt q.2).1 (xget0 xst0 xstt q.2).2.1 (xget0 xst0 xstt q.2).2.2.1 "ProjectPlanner").before #[] s = true) ∧
  va_AO "ProjectPlanner$Plan" s ∧ va_AO "ProjectPlanner$Command" s ∧ va_Nw (.castable "[B" "java/lang/Cloneable") s ∧
  (∀ q ∈ xcal2, va_Nw (.methodLinkNest (xcn q.1.1) q.1.2 (xY q.2.2.1) "ProjectPlanner") s) ∧ (∀ q ∈ xcal3, va_Nw (.methodLinkNest (xcn q.1.1) q.1.2 (xY q.2.2.1) "ProjectPlanner") s)
/-- what a frame is given -/
def xFx (y : Nat) (p : Program) (l : Launch) (s : State) (m : MethodId) (args : Array Value) (meth : Method) (c : Code) : Prop :=
  p.tables.exec = Jvm.exec ∧ c.code = xCode y ∧ c.maxLocals = xml y ∧ s.vm.findClass (xcn (xoc y)) = some m.cls ∧ (∀ w ∈ xwA, w.before args s = true) ∧ meth.locks = false ∧ meth.sig.returnType = xRet y ∧ ((xY y).name = "<init>" → meth.name = "<init>") ∧ l.stackTraces = false
/-- how long an instruction is -/
def xil (i : Instr) : Nat := match i with
  | .bipush _ => 2
  | .sipush _ => 3
  | .ldc _ => 2
  | .ldc_w _ => 3
  | .ldc2_w _ => 3
  | .iload _ => 2
  | .lload _ => 2
  | .fload _ => 2
  | .dload _ => 2
  | .aload _ => 2
  | .istore _ => 2
  | .lstore _ => 2
  | .fstore _ => 2
  | .dstore _ => 2
  | .astore _ => 2
  | .iinc _ _ => 3
  | .ifCond _ _ => 3
  | .if_icmp _ _ => 3
  | .if_acmp _ _ => 3
  | .goto _ => 3
  | .ifnonnull _ => 3
  | .getfield _ => 3
  | .putfield _ => 3
  | .getstatic _ => 3
  | .invokevirtual _ => 3
  | .invokestatic _ => 3
  | .invokespecial _ => 3
  | .new _ => 3
  | .newarray _ => 2
  | .anewarray _ => 3
  | .checkcast _ => 3
  | _ => 1
def xeV (a b : xV) : Bool := match a, b with
  | (k, .ref o), (k', .ref o') => Nat.beq k k' && Nat.beq o o'
  | (0, .int x), (0, .int y) => decide (x = y)
  | _, _ => false
def xpc (cs : List xE) : Nat := match cs with
  | [] => 0
  | (pc, _) :: _ => pc
noncomputable def xdec (y pc : Nat) (i : Instr) (n : Nat) : Bool := decide (decode (xCode y) pc = .ok (i, n))
def xsv (y : Nat) (ix : Nat) (v : xV) : Bool := xgs.any (fun q => (Nat.beq q.1.1 (xoc y) && Nat.beq q.1.2 ix) && xeV (xget0 xst0 xstt q.2).2.2.2 v) || xgsN.any (fun q => (Nat.beq q.1.1 (xoc y) && Nat.beq q.1.2 ix) && xeV (xget0 xst0 xstt q.2).2.2.2 v)
def xjmp (C : List xE) (pc : Nat) (off : Int) (aux : List Nat) : Bool := match aux with
  | t :: _ => decide ((pc : Int) + off = (xpc (C.drop t) : Int))
  | [] => false
/-- what an instruction of a table must keep, beside its place -/
def xokX (y : Nat) (C : List xE) (pc : Nat) (i : Instr) (aux : List Nat) (kc : Int32) : Bool := match i with
  | .iconst n => decide (Int32.ofInt n = kc)
  | .bipush n => decide ((Int8.ofInt n).toInt32 = kc)
  | .sipush n => decide ((Int16.ofInt n).toInt32 = kc)
  | .fconst n => decide (n = 0)
  | .dconst n => decide (n = 0)
  | .iinc n d => Nat.blt n (xml y) && decide (Int32.ofInt d = kc)
  | .istore n => Nat.blt n (xml y)
  | .fstore n => Nat.blt n (xml y)
  | .astore n => Nat.blt n (xml y)
  | .lstore n => Nat.blt (n + 1) (xml y)
  | .dstore n => Nat.blt (n + 1) (xml y)
  | .istore_n n => Nat.blt n.val (xml y)
  | .fstore_n n => Nat.blt n.val (xml y)
  | .astore_n n => Nat.blt n.val (xml y)
  | .lstore_n n => Nat.blt (n.val + 1) (xml y)
  | .dstore_n n => Nat.blt (n.val + 1) (xml y)
  | .ldc ix => (match aux with
    | [] => xldi.contains ((xoc y, ix), kc)
    | [46, sid] => xlds.contains ((xoc y, ix), sid) && Nat.blt sid 13
    | [_] => true
    | _ => false)
  | .ldc_w ix => (match aux with
    | [] => xldi.contains ((xoc y, ix), kc)
    | [_] => true
    | _ => false)
  | .ldc2_w ix => (match aux with
    | [n] => xldl.contains ((xoc y, ix), n)
    | _ => false)
  | .getstatic ix => (match aux with
    | [] => xsv y ix (0, .int kc)
    | [k, o] => xsv y ix (k, .ref o) && ((Nat.beq k 51 && Nat.beq o 0) || (Nat.blt k 60 && !xstrk k))
    | _ => false)
  | .getfield ix => (match aux with
    | [kx, f, tag, tk, tw] => xfl.contains ((xoc y, ix), kx, f) && (Nat.blt kx 60 && (decide ((xfd kx)[f]? = some (tag % 10, tk, tw)) && (match tag with
      | 0 => true
      | 1 => true
      | 12 => !xstrk tk || xreg y
      | 13 => !xstrk tk || xreg y
      | 14 => !xstrk tk || xreg y
      | 15 => !xstrk tk || xreg y
      | _ => Nat.blt tag 6 && (!xreg y && (xstrk kx && !xra kx)))))
    | _ => true)
  | .putfield ix => (match aux with
    | [kx, f, tag, tk, tw] => xfl.contains ((xoc y, ix), kx, f) && (Nat.blt kx 60 && (decide ((xfd kx)[f]? = some (tag % 10, tk, tw)) && (!Nat.beq kx 43 && ((!(xTf kx f).2.2.2 || ((xTf kx f).1 == xcn (xoc y) && (xY y).name == "<init>")) && (match tag with
      | 0 => (xTf kx f).2.2.1 == "I"
      | 1 => (xTf kx f).2.2.1 == "J"
      | 4 => !xreg y && (xstrk kx && !xra kx)
      | 10 => (xTf kx f).2.2.1 == "B"
      | 12 => true
      | 13 => true
      | 14 => true
      | _ => false)))))
    | _ => true)
  | .iaload => (match aux with
    | [] => true
    | _ => false)
  | .baload => (match aux with
    | [] => false
    | _ => true)
  | .goto off => xjmp C pc off aux
  | .ifnonnull off => xjmp C pc off aux
  | .ifCond _ off => xjmp C pc off aux
  | .if_icmp _ off => xjmp C pc off aux
  | .if_acmp _ off => xjmp C pc off aux
  | .aaload => (match aux with
    | [kx, tk, tw] => decide (xae kx = some (tk, tw)) && (!xreg y && xstrk kx)
    | [kx, tk, tw, _] => decide (xae kx = some (tk, tw)) && !xstrk tk
    | _ => true)
  | .aastore => (match aux with
    | [kx, tk, tw] => decide (xae kx = some (tk, tw)) && !Nat.beq tk 43
    | _ => true)
  | .new ix => (match aux with
    | [_, _] => true
    | [k, n, z] => xnewL.contains ((xoc y, ix), k, n) && (xmut k 13 && ((!xstrk k || xreg y) && Nat.beq z 0))
    | _ => true)
  | .newarray a => (match aux with
    | [k] => decide (xat k = some (newarray.typeOf a)) && (xmut k 13 && (!xstrk k || xreg y))
    | _ => true)
  | .anewarray ix => (match aux with
    | [k] => xarr.contains ((xoc y, ix), k) && (xmut k 13 && xreg y)
    | _ => true)
  | .checkcast ix => Nat.beq (xoc y) 17 && Nat.beq ix 311
  | .ireturn => (match aux with
    | [] => decide (xRet y = some .int)
    | [1] => decide (xRet y = some .boolean)
    | [2] => decide (xRet y = some .char)
    | [3] => decide (xRet y = some .byte)
    | _ => false)
  | .lreturn => decide (xRet y = some .long)
  | .freturn => decide (xRet y = some .float)
  | .dreturn => decide (xRet y = some .double)
  | .areturn => (match xRet y with
    | some t => t.isReference
    | none => false)
  | .return_ => decide (xRet y = none)
  | _ => true
def xend (i : Instr) (aux : List Nat) : Bool := match i with
  | .goto _ => true
  | .ireturn => true
  | .lreturn => true
  | .freturn => true
  | .dreturn => true
  | .areturn => true
  | .return_ => true
  | .athrow => true
  | .tableswitch _ _ _ _ => true
  | .new _ => Nat.blt aux.length 3
  | _ => false
noncomputable def xok (y : Nat) (C : List xE) (q : xE) (nx : Nat) : Bool := match q with
  | (pc, i, aux, kc) => match i with
    | .nop => Nat.beq nx pc
    | .tableswitch dflt lo hi offs => (match aux with
      | d :: l :: ts => (match decode (xCode y) pc with
        | .ok (i', _) => decide (i' = i)
        | _ => false) && (decide (lo = (l : Int)) && (decide (hi = (l : Int) + ts.length - 1) && (Nat.beq offs.size ts.length && (Nat.blt (l + ts.length) 1000 && (decide ((pc : Int) + dflt = (xpc (C.drop d) : Int)) && (List.range ts.length).all (fun j => match offs[j]?, ts[j]? with
          | some off, some t => decide ((pc : Int) + off = (xpc (C.drop t) : Int))
          | _, _ => false))))))
      | _ => false)
    | _ => xdec y pc i (xil i) && ((xend i aux || Nat.beq nx (pc + xil i)) && xokX y C pc i aux kc)
