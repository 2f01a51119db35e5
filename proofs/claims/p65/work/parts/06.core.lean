/-! THE PURE MACHINE: an interpreter of resolved bytecode over a store of typed places (kind, owner, slot). -/
abbrev xR : Type := Option ((Option xV ⊕ Nat) × xM)
def gi (M : xM) (k o s : Nat) : Int32 := match M k o s with
  | .int x => x
  | _ => 0
def gl (M : xM) (k o s : Nat) : Int64 := match M k o s with
  | .long x => x
  | _ => 0
def gd (M : xM) (k o s : Nat) : UInt64 := match M k o s with
  | .double x => x
  | _ => 0
def gn (M : xM) (k o s : Nat) : Nat := match M k o s with
  | .ref x => x
  | _ => 0
def xst (M : xM) (k o s : Nat) (v : Value) : xM := fun k' o' s' => if k' = k ∧ o' = o ∧ s' = s then v else M k' o' s'
def xcpy (M : xM) (ks os kd od sp dp n : Nat) : xM := fun k' o' s' => if k' = kd ∧ o' = od ∧ dp ≤ s' ∧ s' < dp + n then M ks os (sp + (s' - dp)) else M k' o' s'
/-- an index -/
abbrev ix (i : Int32) : Nat := i.toNatClampNeg
def xJ : xV := (0, .retAddr 0)
def xg (ls : List xV) (i : Nat) : xV := match ls, i with
  | [], _ => xJ
  | v :: _, 0 => v
  | _ :: r, i + 1 => xg r i
def xs (ls : List xV) (i : Nat) (v : xV) : List xV := match ls, i with
  | [], _ => []
  | _ :: r, 0 => v :: r
  | a :: r, i + 1 => a :: xs r i v
/-- the entry holds two words -/
def xwide (v : xV) : Bool := match v.2 with
  | .long _ => true
  | .double _ => true
  | _ => false
/-- a store into a local: the entry ahead falls if it held two words -/
def xsw1 (ls : List xV) (i : Nat) (v : xV) : List xV := match i with
  | 0 => xs ls 0 v
  | j + 1 => match xwide (xg ls j) with
    | true => xs (xs ls j xJ) (j + 1) v
    | false => xs ls (j + 1) v
def xkill (ls : List xV) (ks : List Nat) : List xV := match ks with
  | [] => ls
  | k :: r => xkill (xs ls k xJ) r
/-- a method's arguments in its locals -/
def xarg (n : Nat) (as : List xV) : List xV := match as with
  | [] => List.replicate n xJ
  | a :: r => match a.2 with
    | .long _ => a :: xJ :: xarg (n - 2) r
    | .double _ => a :: xJ :: xarg (n - 2) r
    | _ => a :: xarg (n - 1) r
def xcat1 (v : xV) : Bool := match v.2 with
  | .int _ => true
  | .float _ => true
  | .ref _ => true
  | .null => true
  | _ => false
/-- an index that is looked at -/
def xck (i : Int32) (n : Nat) (k : xR) : xR := if i < 0 ∨ n ≤ ix i then none else k
/-- behind a call: by what the callee answers -/
def xbI (r : xR) (f : Int32 → xM → xR) : xR := match r with
  | some (.inl (some (_, .int x)), M) => f x M
  | some (.inr E, M) => some (.inr E, M)
  | _ => none
def xbL (r : xR) (f : Int64 → xM → xR) : xR := match r with
  | some (.inl (some (_, .long x)), M) => f x M
  | some (.inr E, M) => some (.inr E, M)
  | _ => none
def xbF (r : xR) (f : UInt32 → xM → xR) : xR := match r with
  | some (.inl (some (_, .float x)), M) => f x M
  | some (.inr E, M) => some (.inr E, M)
  | _ => none
def xbD (r : xR) (f : UInt64 → xM → xR) : xR := match r with
  | some (.inl (some (_, .double x)), M) => f x M
  | some (.inr E, M) => some (.inr E, M)
  | _ => none
def xbR (r : xR) (kx : Nat) (f : Nat → xM → xR) : xR := match r with
  | some (.inl (some (k, .ref x)), M) => if k = kx then f x M else none
  | some (.inr E, M) => some (.inr E, M)
  | _ => none
def xbV (r : xR) (f : xM → xR) : xR := match r with
  | some (.inl none, M) => f M
  | some (.inr E, M) => some (.inr E, M)
  | _ => none
/-- .. where the caller has rows that catch -/
def xhI (r : xR) (f : Int32 → xM → xR) (h : Nat → xM → xR) : xR := match r with
  | some (.inl (some (_, .int x)), M) => f x M
  | some (.inr E, M) => h E M
  | _ => none
def xhF (r : xR) (f : UInt32 → xM → xR) (h : Nat → xM → xR) : xR := match r with
  | some (.inl (some (_, .float x)), M) => f x M
  | some (.inr E, M) => h E M
  | _ => none
def xhand (hs : List Nat) (E : Nat) (M : xM) (f : Nat → xR) : xR := match hs with
  | h :: t :: r => if E = h then f t else xhand r E M f
  | _ => some (.inr E, M)
/-- the length of an array of kind k -/
def xlens : List Nat := [0, 0, 0, 3, 3, 12, 12, 12, 12, 36, 0, 12, 12, 12, 12, 0, 12, 0, 6, 0, 600, 0, 0, 30, 0, 2, 2, 0, 12, 12, 0, 0, 0, 0, 0, 0, 0, 0, 0, 0, 0, 0, 0, 0, 0, 0, 0, 0, 100, 0, 0, 0, 100, 0, 0, 0, 0, 0, 0]
def xdyn (k : Nat) : Bool := (Nat.beq k 41 || Nat.beq k 47) || Nat.beq k 49
def xlen (k o : Nat) (M : xM) : Nat := match xdyn k with
  | true => gn M (110 + k) o 0
  | false => xnth xlens k
/-- a switch -/
def xsw (f : Nat → xR) (x : Int32) (d : Nat) (k : Nat) (ts : List Nat) : xR := match ts with
  | [] => f d
  | t :: r => if x = Int32.ofNat k then f t else xsw f x d (k + 1) r
/-- n values off the stack, the deepest first -/
def xtake (n : Nat) (st : List xV) (acc : List xV) : Option (List xV × List xV) := match n, st with
  | 0, st => some (acc, st)
  | n + 1, v :: st => xtake n st (v :: acc)
  | _ + 1, [] => none
def xget (kx tag tk tw f : Nat) (o : Nat) (M : xM) : Option xV := match tag with
  | 0 => some (0, .int (gi M kx o f))
  | 1 => some (0, .long (gl M kx o f))
  | 2 => some (tk, .ref o)
  | 3 => some (tk, .ref tw)
  | 4 => some (tk, .ref (gn M kx o f))
  | 5 => some (tk, .ref (o + tw))
  | _ => none
def xput (kx tag tk f : Nat) (o : Nat) (v : xV) (M : xM) : Option xM := match Nat.blt kx 60 && xmut kx o with
  | true => (match tag, v with
    | 0, (_, .int x) => some (xst M kx o f (.int x))
    | 1, (_, .long x) => some (xst M kx o f (.long x))
    | 4, (k, .ref q) => if k = tk then some (xst M kx o f (.ref q)) else none
    | _, _ => none)
  | false => none
/-- a throw makes one cell of n slots -/
def xbump (M : xM) (c n : Nat) : xM := xst (xst M 100 0 0 (.ref (gn M 100 0 0 + c))) 100 0 1 (.ref (gn M 100 0 1 + n))
/-- a new object: its number is the count of its kind -/
def xclr (M : xM) (k o : Nat) : xM := fun k' o' s' => if (k' = k ∨ k' = 200 + k) ∧ o' = o then .retAddr 0 else M k' o' s'
def xnew (M : xM) (k n : Nat) : xM := xbump (xst (xclr M k (gn M 101 k 0)) 101 k 0 (.ref (gn M 101 k 0 + 1))) 1 n
def xnewD (M : xM) (k n : Nat) : xM := xst (xnew M k n) (110 + k) (gn M 101 k 0) 0 (.ref n)
def xnar (t : Nat) (x : Int32) : Int32 := match t with
  | 1 => x &&& 1
  | 2 => (x.toUInt32 % 65536).toInt32
  | 3 => x.toInt8.toInt32
  | _ => x
/-- the instructions that only move values: the new locals, stack, store -/
def xpure (i : Instr) (aux : List Nat) (kc : Int32) (ls st : List xV) (M : xM) : Option (List xV × List xV × xM) := match i with
    | .nop => some ((xkill ls aux), st, M)
    | .iconst _ | .bipush _ | .sipush _ => some (ls, ((0, .int kc) :: st), M)
    | .aconst_null => some (ls, ((0, .null) :: st), M)
    | .lconst n => some (ls, ((0, .long (Int64.ofNat n)) :: st), M)
    | .fconst n => some (ls, ((0, .float (if n = 0 then 0 else if n = 1 then 0x3f800000 else 0x40000000)) :: st), M)
    | .dconst n => some (ls, ((0, .double (if n = 0 then 0 else 0x3ff0000000000000)) :: st), M)
    | .ldc _ | .ldc_w _ => match aux with
      | [] => some (ls, ((0, .int kc) :: st), M)
      | k :: o :: _ => some (ls, ((k, .ref o) :: st), M)
      | _ => none
    | .ldc2_w _ => match aux with
      | [n] => some (ls, ((0, .long (Int64.ofNat n)) :: st), M)
      | _ => none
    | .iload n => match xg ls n with
      | (_, .int x) => some (ls, (0, .int x) :: st, M)
      | _ => none
    | .lload n => match xg ls n with
      | (_, .long x) => some (ls, (0, .long x) :: st, M)
      | _ => none
    | .fload n => match xg ls n with
      | (_, .float x) => some (ls, (0, .float x) :: st, M)
      | _ => none
    | .dload n => match xg ls n with
      | (_, .double x) => some (ls, (0, .double x) :: st, M)
      | _ => none
    | .aload n => match xg ls n with
      | (k, .ref o) => some (ls, (k, .ref o) :: st, M)
      | (_, .null) => some (ls, (0, .null) :: st, M)
      | _ => none
    | .istore n => match st with
      | (_, .int x) :: st => some (xsw1 ls n (0, .int x), st, M)
      | _ => none
    | .fstore n => match st with
      | (_, .float x) :: st => some (xsw1 ls n (0, .float x), st, M)
      | _ => none
    | .astore n => match st with
      | (k, .ref o) :: st => some (xsw1 ls n (k, .ref o), st, M)
      | (_, .null) :: st => some (xsw1 ls n (0, .null), st, M)
      | _ => none
    | .lstore n => match st with
      | (_, .long x) :: st => some (xs (xsw1 ls n (0, .long x)) (n + 1) xJ, st, M)
      | _ => none
    | .dstore n => match st with
      | (_, .double x) :: st => some (xs (xsw1 ls n (0, .double x)) (n + 1) xJ, st, M)
      | _ => none
    | .iload_n n => match xg ls n with
      | (_, .int x) => some (ls, (0, .int x) :: st, M)
      | _ => none
    | .lload_n n => match xg ls n with
      | (_, .long x) => some (ls, (0, .long x) :: st, M)
      | _ => none
    | .fload_n n => match xg ls n with
      | (_, .float x) => some (ls, (0, .float x) :: st, M)
      | _ => none
    | .dload_n n => match xg ls n with
      | (_, .double x) => some (ls, (0, .double x) :: st, M)
      | _ => none
    | .aload_n n => match xg ls n with
      | (k, .ref o) => some (ls, (k, .ref o) :: st, M)
      | (_, .null) => some (ls, (0, .null) :: st, M)
      | _ => none
    | .istore_n n => match st with
      | (_, .int x) :: st => some (xsw1 ls n (0, .int x), st, M)
      | _ => none
    | .fstore_n n => match st with
      | (_, .float x) :: st => some (xsw1 ls n (0, .float x), st, M)
      | _ => none
    | .astore_n n => match st with
      | (k, .ref o) :: st => some (xsw1 ls n (k, .ref o), st, M)
      | (_, .null) :: st => some (xsw1 ls n (0, .null), st, M)
      | _ => none
    | .lstore_n n => match st with
      | (_, .long x) :: st => some (xs (xsw1 ls n (0, .long x)) (n + 1) xJ, st, M)
      | _ => none
    | .dstore_n n => match st with
      | (_, .double x) :: st => some (xs (xsw1 ls n (0, .double x)) (n + 1) xJ, st, M)
      | _ => none
    | .iinc n _ => match xg ls n with
      | (_, .int x) => some ((xsw1 ls n (0, .int (x + kc))), st, M)
      | _ => none
    | .pop => match st with
      | v :: st => (match xcat1 v with
        | true => some (ls, st, M)
        | false => none)
      | _ => none
    | .dup => match st with
      | v :: st => (match xcat1 v with
        | true => some (ls, v :: v :: st, M)
        | false => none)
      | _ => none
    | .dup_x1 => match st with
      | v :: w :: st => (match xcat1 v && xcat1 w with
        | true => some (ls, v :: w :: v :: st, M)
        | false => none)
      | _ => none
    | .dup2 => match st with
      | v :: w :: st => (match xcat1 v && xcat1 w with
        | true => some (ls, v :: w :: v :: w :: st, M)
        | false => none)
      | _ => none
    | .iadd => match st with
      | (_, .int y) :: (_, .int x) :: st => some (ls, ((0, .int (x + y)) :: st), M)
      | _ => none
    | .isub => match st with
      | (_, .int y) :: (_, .int x) :: st => some (ls, ((0, .int (x - y)) :: st), M)
      | _ => none
    | .imul => match st with
      | (_, .int y) :: (_, .int x) :: st => some (ls, ((0, .int (x * y)) :: st), M)
      | _ => none
    | .ineg => match st with
      | (_, .int x) :: st => some (ls, ((0, .int (-x)) :: st), M)
      | _ => none
    | .iand => match st with
      | (_, .int y) :: (_, .int x) :: st => some (ls, ((0, .int (x &&& y)) :: st), M)
      | _ => none
    | .ior => match st with
      | (_, .int y) :: (_, .int x) :: st => some (ls, ((0, .int (x ||| y)) :: st), M)
      | _ => none
    | .ixor => match st with
      | (_, .int y) :: (_, .int x) :: st => some (ls, ((0, .int (x ^^^ y)) :: st), M)
      | _ => none
    | .ishl => match st with
      | (_, .int y) :: (_, .int x) :: st => some (ls, ((0, .int (x <<< (y &&& 31))) :: st), M)
      | _ => none
    | .ishr => match st with
      | (_, .int y) :: (_, .int x) :: st => some (ls, ((0, .int (x >>> (y &&& 31))) :: st), M)
      | _ => none
    | .iushr => match st with
      | (_, .int y) :: (_, .int x) :: st => some (ls, ((0, .int (x.toUInt32 >>> (y.toUInt32 &&& Int32.toUInt32 31)).toInt32) :: st), M)
      | _ => none
    | .land => match st with
      | (_, .long y) :: (_, .long x) :: st => some (ls, ((0, .long (x &&& y)) :: st), M)
      | _ => none
    | .lor => match st with
      | (_, .long y) :: (_, .long x) :: st => some (ls, ((0, .long (x ||| y)) :: st), M)
      | _ => none
    | .lshl => match st with
      | (_, .int y) :: (_, .long x) :: st => some (ls, ((0, .long (x <<< (y.toInt64 &&& 63))) :: st), M)
      | _ => none
    | .lshr => match st with
      | (_, .int y) :: (_, .long x) :: st => some (ls, ((0, .long (x >>> (y.toInt64 &&& 63))) :: st), M)
      | _ => none
    | .lcmp => match st with
      | (_, .long y) :: (_, .long x) :: st => some (ls, ((0, .int (lg_cmp x y)) :: st), M)
      | _ => none
    | .i2l => match st with
      | (_, .int x) :: st => some (ls, ((0, .long x.toInt64) :: st), M)
      | _ => none
    | .l2i => match st with
      | (_, .long x) :: st => some (ls, ((0, .int x.toInt32) :: st), M)
      | _ => none
    | .i2b => match st with
      | (_, .int x) :: st => some (ls, ((0, .int x.toInt8.toInt32) :: st), M)
      | _ => none
    | .i2c => match st with
      | (_, .int x) :: st => some (ls, ((0, .int (x.toUInt32 % 65536).toInt32) :: st), M)
      | _ => none
    | .i2f => match st with
      | (_, .int x) :: st => some (ls, ((0, .float (FP.i2f x)) :: st), M)
      | _ => none
    | .i2d => match st with
      | (_, .int x) :: st => some (ls, ((0, .double (FP.i2d x)) :: st), M)
      | _ => none
    | .fcmp op => match st with
      | (_, .float y) :: (_, .float x) :: st => some (ls, ((0, .int (Op.cmpValue (FP.fcmp x y) op)) :: st), M)
      | _ => none
    | .dcmp op => match st with
      | (_, .double y) :: (_, .double x) :: st => some (ls, ((0, .int (Op.cmpValue (FP.dcmp x y) op)) :: st), M)
      | _ => none
    | .getfield _ => match st, aux with
      | (k, .ref o) :: st, [kx, f, tag, tk, tw] => if k = kx then (match xget kx tag tk tw f o M with
        | some v => some (ls, (v :: st), M)
        | none => none) else none
      | _, _ => none
    | .putfield _ => match st, aux with
      | v :: (k, .ref o) :: st, [kx, f, tag, tk, _] => if k = kx then (match xput kx tag tk f o v M with
        | some M => some (ls, st, M)
        | none => none) else none
      | _, _ => none
    | .getstatic _ => match aux with
      | [] => some (ls, ((0, .int kc) :: st), M)
      | [k, o] => some (ls, ((k, .ref o) :: st), M)
      | _ => none
    | .arraylength => match st with
      | (k, .ref o) :: st => match Nat.beq (xtc k) 0 with
        | true => none
        | false => some (ls, ((0, .int (Int32.ofNat (xlen k o M))) :: st), M)
      | _ => none
    | _ => none
/-- what a store into a byte[] or a boolean[] leaves -/
def xnab (t : Nat) (x : Int32) : Int32 := match t with
  | 2 => x.toInt8.toInt32
  | _ => x &&& 1
def xgd (b : Bool) (k : xR) : xR := match b with
  | true => k
  | false => none
/-- what arraycopy is used for: ints, bytes, longs -/
def xcp (t : Nat) : Bool := match t with
  | 1 => true
  | 2 => true
  | 4 => true
  | _ => false
/-- only what returns -/
def xret (r : xR) : xR := match r with
  | some (.inl v, M) => some (.inl v, M)
  | _ => none
/-- the places of a list are there, with all that they refer to -/
def xgdF (M : xM) (k o : Nat) : List (Nat × Nat × Nat) → Nat → Bool
  | [], _ => true
  | (t, _) :: r, f => (match t with
    | 0 => true
    | 1 => true
    | _ => Nat.beq (gn M (200 + k) o f) 1) && xgdF M k o r (f + 1)
def xgdA (M : xM) (k o : Nat) : Nat → Bool
  | 0 => true
  | n + 1 => Nat.beq (gn M (200 + k) o n) 1 && xgdA M k o n
def xgood (L : List (Nat × Nat)) (M : xM) : Bool := L.all (fun q => Nat.blt q.2 (gn M 101 q.1 0) && (match xra q.1 with
  | true => xgdA M q.1 q.2 (xnth xlens q.1)
  | false => xgdF M q.1 q.2 (xfd q.1) 0))
/-- arguments out of a list of things -/
def xain (L : List (Nat × Nat)) (as : List xV) : Bool := as.all (fun v => match v with
  | (k, .ref o) => !xstrk k || L.any (fun q => Nat.beq q.1 k && Nat.beq q.2 o)
  | _ => true)
/-- a call's answer, by its tag (0 none, 1 int, 2 long, 3 reference, 4 float, 5 double) -/
def xcall (t kx : Nat) (r : xR) (En : List xV → xM → xR) (st : List xV) : xR := match t with
  | 0 => xbV r (fun M => En st M)
  | 1 => xbI r (fun x M => En ((0, .int x) :: st) M)
  | 2 => xbL r (fun x M => En ((0, .long x) :: st) M)
  | 3 => xbR r kx (fun x M => En ((kx, .ref x) :: st) M)
  | 4 => xbF r (fun x M => En ((0, .float x) :: st) M)
  | 5 => xbD r (fun x M => En ((0, .double x) :: st) M)
  | _ => none
/-- no exception is held -/
def xno51 (ls : List xV) : Bool := ls.all (fun v => !Nat.beq v.1 51)
/-- the receiver is of the kind -/
def xrcv (rk : Nat) (as : List xV) : Bool := match rk, as with
  | 0, _ => true
  | r + 1, (k, .ref _) :: _ => Nat.beq k (r + 1)
  | _, _ => false
/-- how many words the arguments have -/
def xaw (as : List xV) : Nat := match as with
  | [] => 0
  | a :: r => (match xwide a with
    | true => 2
    | false => 1) + xaw r
/-- a call. aux: method, arguments, answer's tag, its kind, and the manner: none; [0]: a callee that returns; [1, i]: of a list of places; [2, rows that catch ..] -/
def xinvoke (tab : Nat → List xE) (ml : Nat → Nat) (Ec En : List xE → List xE → List xV → List xV → xM → xR) (aux : List Nat) (C cs : List xE) (ls st : List xV) (M : xM) : xR := match aux with
  | y :: n :: t :: kx :: rk :: hs => match xtake n st [] with
    | some (as, st) => match Nat.ble (xaw st) 8 && (xrcv rk as && (Nat.beq y 9999 || Nat.ble (xaw as) (ml y))) with
      | true => match hs with
        | [] => xcall t kx (Ec (tab y) (tab y) (xarg (ml y) as) [] M) (fun st M => En C cs ls st M) st
        | 0 :: _ => xcall t kx (xret (Ec (tab y) (tab y) (xarg (ml y) as) [] M)) (fun st M => En C cs ls st M) st
        | 1 :: i :: _ => xgd (xgood (xsl i) M && xain (xsl i) as) (xcall t kx (xret (Ec (tab y) (tab y) (xarg (ml y) as) [] M)) (fun st M => En C cs ls st M) st)
        | 2 :: hs => match xno51 ls, t with
          | true, 1 => xhI (Ec (tab y) (tab y) (xarg (ml y) as) [] M) (fun x M => En C cs ls ((0, .int x) :: st) M) (fun E M => xhand hs E M (fun t => En C (C.drop t) ls [(51, .ref 1)] M))
          | true, 4 => xhF (Ec (tab y) (tab y) (xarg (ml y) as) [] M) (fun x M => En C cs ls ((0, .float x) :: st) M) (fun E M => xhand hs E M (fun t => En C (C.drop t) ls [(51, .ref 1)] M))
          | _, _ => none
        | 3 :: _ => match as with
          | [(ks, .ref os), (_, .int sp), (kd, .ref od), (_, .int dp), (_, .int l)] => match Nat.blt kd 60 && (Nat.beq (xtc ks) (xtc kd) && xcp (xtc kd)) with
            | true => xgd (xmut kd od) (if sp < 0 ∨ dp < 0 ∨ l < 0 ∨ xlen ks os M < ix sp + ix l ∨ xlen kd od M < ix dp + ix l then none else En C cs ls st (xcpy M ks os kd od (ix sp) (ix dp) (ix l)))
            | false => none
          | _ => none
        | 4 :: kd :: _ => match as, Nat.blt kd 60 && Nat.beq (xtc kd) 2 with
          | [(ks, .ref os)], true => xgd (Nat.beq ks 49) (En C cs ls ((kd, .ref (gn M 101 kd 0)) :: st) (xcpy (xnewD M kd (xlen ks os M)) ks os kd (gn M 101 kd 0) 0 0 (xlen ks os M)))
          | _, _ => none
        | 5 :: _ => match as with
          | [(k, .ref _)] => xgd (!Nat.beq k 51) (En C cs ls st M)
          | _ => none
        | _ => none
      | false => none
    | none => none
  | _ => none
/-- the others. aux: jumps: [target]; invoke: method, arguments, answer's tag, its kind, handlers .. -/
def xctl (tab : Nat → List xE) (ml : Nat → Nat) (Ec En : List xE → List xE → List xV → List xV → xM → xR) (i : Instr) (aux : List Nat) (kc : Int32) (C cs : List xE) (ls st : List xV) (M : xM) : xR := match i with
    | .idiv => match st with
      | (_, .int y) :: (_, .int x) :: st => if y = 0 then none else En C cs ls ((0, .int (x / y)) :: st) M
      | _ => none
    | .irem => match st with
      | (_, .int y) :: (_, .int x) :: st => if y = 0 then none else En C cs ls ((0, .int (x - x / y * y)) :: st) M
      | _ => none
    | .f2d => match st with
      | (_, .float x) :: st => if FP.f2d x &&& 0x7fffffffffffffff ≤ 0x7ff0000000000000 then En C cs ls ((0, .double (FP.f2d x)) :: st) M else none
      | _ => none
    | .fdiv => match st with
      | (_, .float y) :: (_, .float x) :: st => if FP.fdiv x y &&& 0x7fffffff ≤ 0x7f800000 then En C cs ls ((0, .float (FP.fdiv x y)) :: st) M else none
      | _ => none
    | .ddiv => match st with
      | (_, .double y) :: (_, .double x) :: st => if FP.ddiv x y &&& 0x7fffffffffffffff ≤ 0x7ff0000000000000 then En C cs ls ((0, .double (FP.ddiv x y)) :: st) M else none
      | _ => none
    | .goto _ => En C (C.drop (aux.headD 0)) ls st M
    | .ifnonnull _ => match st with
      | (k, .ref _) :: st => xgd (!Nat.beq k 51) (En C (C.drop (aux.headD 0)) ls st M)
      | _ => none
    | .ifCond c _ => match st with
      | (_, .int x) :: st => match c with
        | .eq => if x = 0 then En C (C.drop (aux.headD 0)) ls st M else En C cs ls st M
        | .ne => if x = 0 then En C cs ls st M else En C (C.drop (aux.headD 0)) ls st M
        | .lt => if x < 0 then En C (C.drop (aux.headD 0)) ls st M else En C cs ls st M
        | .ge => if x < 0 then En C cs ls st M else En C (C.drop (aux.headD 0)) ls st M
        | .gt => if 0 < x then En C (C.drop (aux.headD 0)) ls st M else En C cs ls st M
        | .le => if 0 < x then En C cs ls st M else En C (C.drop (aux.headD 0)) ls st M
      | _ => none
    | .if_icmp c _ => match st with
      | (_, .int y) :: (_, .int x) :: st => match c with
        | .eq => if x = y then En C (C.drop (aux.headD 0)) ls st M else En C cs ls st M
        | .ne => if x = y then En C cs ls st M else En C (C.drop (aux.headD 0)) ls st M
        | .lt => if x < y then En C (C.drop (aux.headD 0)) ls st M else En C cs ls st M
        | .ge => if x < y then En C cs ls st M else En C (C.drop (aux.headD 0)) ls st M
        | .gt => if y < x then En C (C.drop (aux.headD 0)) ls st M else En C cs ls st M
        | .le => if y < x then En C cs ls st M else En C (C.drop (aux.headD 0)) ls st M
      | _ => none
    | .if_acmp c _ => match st with
      | (ky, .ref y) :: (kx, .ref x) :: st => if kx = ky then (match Nat.beq kx 42, c with
        | true, .eq => if x = y then En C (C.drop (aux.headD 0)) ls st M else En C cs ls st M
        | true, .ne => if x = y then En C cs ls st M else En C (C.drop (aux.headD 0)) ls st M
        | _, _ => none) else none
      | _ => none
    | .tableswitch _ _ _ _ => match st, aux with
      | (_, .int x) :: st, d :: lo :: ts => xsw (fun t => En C (C.drop t) ls st M) x d lo ts
      | _, _ => none
    | .iaload | .baload => match st with
      | (_, .int i) :: (k, .ref o) :: st => xgd (match aux with
        | [] => Nat.beq (xtc k) 1
        | _ => Nat.beq (xtc k) 2 || Nat.beq (xtc k) 3) (xck i (xlen k o M) (En C cs ls ((0, .int (gi M k o (ix i))) :: st) M))
      | _ => none
    | .laload => match st with
      | (_, .int i) :: (k, .ref o) :: st => xgd (Nat.beq (xtc k) 4) (xck i (xlen k o M) (En C cs ls ((0, .long (gl M k o (ix i))) :: st) M))
      | _ => none
    | .daload => match st with
      | (_, .int i) :: (k, .ref o) :: st => xgd (Nat.beq (xtc k) 5) (xck i (xlen k o M) (En C cs ls ((0, .double (gd M k o (ix i))) :: st) M))
      | _ => none
    | .getfield _ => match st, aux with
      | (k, .ref o) :: st, [kx, f, tag, tk, tw] => if k = kx then (match tag with
        | 12 => if gn M (200 + kx) o f = 1 then En C cs ls ((tk, .ref o) :: st) M else none
        | 13 => if gn M (200 + kx) o f = 1 then En C cs ls ((tk, .ref tw) :: st) M else none
        | 14 => if gn M (200 + kx) o f = 1 then En C cs ls ((tk, .ref (gn M kx o f)) :: st) M else none
        | 15 => if gn M (200 + kx) o f = 1 then En C cs ls ((tk, .ref (o + tw)) :: st) M else none
        | _ => none) else none
      | _, _ => none
    | .putfield _ => match st, aux with
      | (k2, .ref q) :: (k, .ref o) :: st, [kx, f, tag, tk, tw] => if k = kx then (if k2 = tk then (match Nat.blt kx 60 with
        | true => xgd (xmut kx o) (match tag with
          | 12 => if q = o then En C cs ls st (xst M (200 + kx) o f (.ref 1)) else none
          | 13 => if q = tw then En C cs ls st (xst M (200 + kx) o f (.ref 1)) else none
          | 14 => En C cs ls st (xst (xst M kx o f (.ref q)) (200 + kx) o f (.ref 1))
          | _ => none)
        | false => none) else none) else none
      | (_, .int x) :: (k, .ref o) :: st, [kx, f, 10, _, _] => if k = kx then (match Nat.blt kx 60 with
        | true => xgd (xmut kx o) (if x = 0 then En C cs ls st (xst M kx o f (.int 0)) else none)
        | false => none) else none
      | _, _ => none
    | .newarray _ | .anewarray _ => match st, aux with
      | (_, .int x) :: st, [k] => match Nat.blt k 60, xdyn k with
        | true, true => if x < 0 ∨ 65536 < ix x then none else En C cs ls ((k, .ref (gn M 101 k 0)) :: st) (xnewD M k (ix x))
        | true, false => if x = Int32.ofNat (xnth xlens k) then En C cs ls ((k, .ref (gn M 101 k 0)) :: st) (xnew M k (xnth xlens k)) else none
        | _, _ => none
      | _, _ => none
    | .checkcast _ => match st, aux with
      | (k, .ref o) :: st, [1] => xgd (Nat.beq k 47 && xmut k o) (En C cs ls ((k, .ref o) :: st) M)
      | _, _ => none
    | .aastore => match st, aux with
      | (k2, .ref q) :: (_, .int i) :: (k, .ref o) :: st, [kx, tk, tw] => if k = kx then (if k2 = tk then (match Nat.blt kx 60 with
        | true => xck i (xnth xlens kx) (if q = ix i + tw then En C cs ls st (xst M (200 + kx) o (ix i) (.ref 1)) else none)
        | false => none) else none) else none
      | _, _ => none
    | .aaload => match st, aux with
      | (_, .int i) :: (k, .ref o) :: st, [kx, tk, tw, _] => if k = kx then xck i (xnth xlens kx) (if gn M (200 + kx) o (ix i) = 1 then En C cs ls ((tk, .ref (ix i + tw)) :: st) M else none) else none
      | (_, .int i) :: (k, .ref _) :: st, [kx, tk, tw] => if k = kx then xck i (xnth xlens kx) (En C cs ls ((tk, .ref (ix i + tw)) :: st) M) else none
      | _, _ => none
    | .iastore => match st with
      | (_, .int x) :: (_, .int i) :: (k, .ref o) :: st => match Nat.blt k 60 && (Nat.beq (xtc k) 1 && xmut k o) with
        | true => xck i (xlen k o M) (En C cs ls st (xst M k o (ix i) (.int x)))
        | false => none
      | _ => none
    | .bastore => match st with
      | (_, .int x) :: (_, .int i) :: (k, .ref o) :: st => match Nat.blt k 60 && ((Nat.beq (xtc k) 2 || Nat.beq (xtc k) 3) && xmut k o) with
        | true => xck i (xlen k o M) (En C cs ls st (xst M k o (ix i) (.int (xnab (xtc k) x))))
        | false => none
      | _ => none
    | .lastore => match st with
      | (_, .long x) :: (_, .int i) :: (k, .ref o) :: st => match Nat.blt k 60 && (Nat.beq (xtc k) 4 && xmut k o) with
        | true => xck i (xlen k o M) (En C cs ls st (xst M k o (ix i) (.long x)))
        | false => none
      | _ => none
    | .dastore => match st with
      | (_, .double x) :: (_, .int i) :: (k, .ref o) :: st => match Nat.blt k 60 && (Nat.beq (xtc k) 5 && xmut k o) with
        | true => xck i (xlen k o M) (En C cs ls st (xst M k o (ix i) (.double x)))
        | false => none
      | _ => none
    | .new _ => match aux with
      | [E, n] => match st with
        | [] => some (.inr E, xbump M 1 n)
        | _ => none
      | [k, n, _] => match Nat.blt k 60 with
        | true => En C cs ls ((k, .ref (gn M 101 k 0)) :: st) (xnew M k n)
        | false => none
      | _ => none
    | .invokevirtual _ | .invokestatic _ | .invokespecial _ => xinvoke tab ml Ec En aux C cs ls st M
    | .ireturn => match st, aux with
      | [(_, .int x)], [] => some (.inl (some (0, .int x)), M)
      | [(_, .int x)], [t] => some (.inl (some (0, .int (xnar t x))), M)
      | _, _ => none
    | .lreturn => match st with
      | [(_, .long x)] => some (.inl (some (0, .long x)), M)
      | _ => none
    | .freturn => match st with
      | [(_, .float x)] => some (.inl (some (0, .float x)), M)
      | _ => none
    | .dreturn => match st with
      | [(_, .double x)] => some (.inl (some (0, .double x)), M)
      | _ => none
    | .areturn => match st with
      | [(k, .ref o)] => some (.inl (some (k, .ref o)), M)
      | _ => none
    | .return_ => match st with
      | [] => some (.inl none, M)
      | _ => none
    | _ => none
/-- one step -/
def xstep (tab : Nat → List xE) (ml : Nat → Nat) (Ec En : List xE → List xE → List xV → List xV → xM → xR) (C cs : List xE) (ls st : List xV) (M : xM) : xR := match cs with
  | [] => none
  | (_, i, aux, kc) :: cs => match xpure i aux kc ls st M with
    | some (ls, st, M) => En C cs ls st M
    | none => xctl tab ml Ec En i aux kc C cs ls st M
/-- the machine with fuel -/
def xexec (tab : Nat → List xE) (ml : Nat → Nat) : Nat → List xE → List xE → List xV → List xV → xM → xR
  | 0, _, _, _, _, _ => none
  | n + 1, C, cs, ls, st, M => xstep tab ml (xexec tab ml n) (xexec tab ml n) C cs ls st M
/-- what a step asks of the machine below it: at most one call and one going on -/
abbrev xP : Type := List xE → List xE → List xV → List xV → xM → xR
/-- what a machine never takes back: objects, references that are set, lengths, room -/
def xmon (M M' : xM) : Prop := (∀ k, gn M 101 k 0 ≤ gn M' 101 k 0) ∧ (∀ k o f, k < 60 → o < gn M 101 k 0 → gn M (200 + k) o f = 1 → gn M' (200 + k) o f = 1) ∧ (∀ k o, k < 60 → o < gn M 101 k 0 → gn M' (110 + k) o 0 = gn M (110 + k) o 0) ∧ gn M 100 0 0 ≤ gn M' 100 0 0 ∧ gn M 100 0 1 ≤ gn M' 100 0 1
theorem xmon_refl (M : xM) : xmon M M := ⟨fun _ => Nat.le_refl _, fun _ _ _ _ _ h => h, fun _ _ _ _ => rfl, Nat.le_refl _, Nat.le_refl _⟩
theorem xmon_trans {M M1 M2 : xM} (h1 : xmon M M1) (h2 : xmon M1 M2) : xmon M M2 :=
  ⟨fun k => Nat.le_trans (h1.1 k) (h2.1 k), fun k o f hk ho h => h2.2.1 k o f hk (Nat.lt_of_lt_of_le ho (h1.1 k)) (h1.2.1 k o f hk ho h), fun k o hk ho => (h2.2.2.1 k o hk (Nat.lt_of_lt_of_le ho (h1.1 k))).trans (h1.2.2.1 k o hk ho), Nat.le_trans h1.2.2.2.1 h2.2.2.2.1, Nat.le_trans h1.2.2.2.2 h2.2.2.2.2⟩
theorem gn_xst (M : xM) (k o s : Nat) (v : Value) (k' o' s' : Nat) : gn (xst M k o s v) k' o' s' = if k' = k ∧ o' = o ∧ s' = s then (match v with
  | .ref x => x
  | _ => 0) else gn M k' o' s' := by
  unfold gn xst
  by_cases h : k' = k ∧ o' = o ∧ s' = s
  · rw [if_pos h, if_pos h]
  · rw [if_neg h, if_neg h]
theorem gn_xst_ne {M : xM} {k o s : Nat} {v : Value} {k' o' s' : Nat} (h : k' ≠ k) : gn (xst M k o s v) k' o' s' = gn M k' o' s' := by
  rw [gn_xst, if_neg (fun q => h q.1)]
theorem gn_xcpy_ne {M : xM} {ks os kd od sp dp n : Nat} {k' o' s' : Nat} (h : k' ≠ kd) : gn (xcpy M ks os kd od sp dp n) k' o' s' = gn M k' o' s' := by
  unfold gn xcpy
  rw [if_neg (fun q => h q.1)]
theorem gn_xclr_ne {M : xM} {k o : Nat} {k' o' s' : Nat} (h : k' ≠ k) (h2 : k' ≠ 200 + k ∨ o' ≠ o) : gn (xclr M k o) k' o' s' = gn M k' o' s' := by
  unfold gn xclr
  rw [if_neg (fun q => q.1.elim h (fun e => h2.elim (fun z => z e) (fun z => z q.2)))]
theorem xmon_st {M : xM} {k o s : Nat} {v : Value} (h : Nat.blt k 60 = true) : xmon M (xst M k o s v) := by
  have hk : k < 60 := Nat.le_of_ble_eq_true h
  refine ⟨fun k' => ?_, fun k' o' f h1 h2 h3 => ?_, fun k' o' h1 h2 => ?_, ?_, ?_⟩
  · rw [gn_xst_ne (by omega)]; exact Nat.le_refl _
  · rw [gn_xst_ne (by omega)]; exact h3
  · rw [gn_xst_ne (by omega)]
  · rw [gn_xst_ne (by omega)]; exact Nat.le_refl _
  · rw [gn_xst_ne (by omega)]; exact Nat.le_refl _
theorem xmon_cpy {M : xM} {ks os kd od sp dp n : Nat} (h : Nat.blt kd 60 = true) : xmon M (xcpy M ks os kd od sp dp n) := by
  have hk : kd < 60 := Nat.le_of_ble_eq_true h
  refine ⟨fun k' => ?_, fun k' o' f h1 h2 h3 => ?_, fun k' o' h1 h2 => ?_, ?_, ?_⟩
  · rw [gn_xcpy_ne (by omega)]; exact Nat.le_refl _
  · rw [gn_xcpy_ne (by omega)]; exact h3
  · rw [gn_xcpy_ne (by omega)]
  · rw [gn_xcpy_ne (by omega)]; exact Nat.le_refl _
  · rw [gn_xcpy_ne (by omega)]; exact Nat.le_refl _
theorem xmon_fl {M : xM} {k o s : Nat} (h : Nat.blt k 60 = true) : xmon M (xst M (200 + k) o s (.ref 1)) := by
  have hk : k < 60 := Nat.le_of_ble_eq_true h
  refine ⟨fun k' => ?_, fun k' o' f h1 h2 h3 => ?_, fun k' o' h1 h2 => ?_, ?_, ?_⟩
  · rw [gn_xst]
    split
    · omega
    · exact Nat.le_refl _
  · rw [gn_xst]
    split
    · rfl
    · exact h3
  · rw [gn_xst_ne (by omega)]
  · rw [gn_xst_ne (by omega)]; exact Nat.le_refl _
  · rw [gn_xst_ne (by omega)]; exact Nat.le_refl _
theorem xmon_bump (M : xM) (c n : Nat) : xmon M (xbump M c n) := by
  refine ⟨fun k' => ?_, fun k' o' f h1 h2 h3 => ?_, fun k' o' h1 h2 => ?_, ?_, ?_⟩ <;> unfold xbump
  · rw [gn_xst_ne (by omega), gn_xst_ne (by omega)]; exact Nat.le_refl _
  · rw [gn_xst_ne (by omega), gn_xst_ne (by omega)]; exact h3
  · rw [gn_xst_ne (by omega), gn_xst_ne (by omega)]
  · rw [gn_xst, if_neg (by omega), gn_xst, if_pos ⟨rfl, rfl, rfl⟩]; exact Nat.le_add_right _ _
  · rw [gn_xst, if_pos ⟨rfl, rfl, rfl⟩]; exact Nat.le_add_right _ _
theorem xmon_new {M : xM} {k n : Nat} (h : Nat.blt k 60 = true) : xmon M (xnew M k n) := by
  have hk : k < 60 := Nat.le_of_ble_eq_true h
  unfold xnew
  refine xmon_trans ?_ (xmon_bump _ _ _)
  refine ⟨fun k' => ?_, fun k' o' f h1 h2 h3 => ?_, fun k' o' h1 h2 => ?_, ?_, ?_⟩
  · rw [gn_xst]
    split
    · rename_i q
      obtain ⟨-, rfl, -⟩ := q
      exact Nat.le_add_right _ _
    · rw [gn_xclr_ne (by omega) (Or.inl (by omega))]; exact Nat.le_refl _
  · rw [gn_xst_ne (by omega), gn_xclr_ne (by omega)]
    · exact h3
    · by_cases e : k' = k
      · subst e; exact Or.inr (by omega)
      · exact Or.inl (by omega)
  · rw [gn_xst_ne (by omega), gn_xclr_ne (by omega) (Or.inl (by omega))]
  · rw [gn_xst_ne (by omega), gn_xclr_ne (by omega) (Or.inl (by omega))]; exact Nat.le_refl _
  · rw [gn_xst_ne (by omega), gn_xclr_ne (by omega) (Or.inl (by omega))]; exact Nat.le_refl _
theorem gn_xnew_cnt {M : xM} {k n : Nat} (h : Nat.blt k 60 = true) (k' : Nat) : gn (xnew M k n) 101 k' 0 = if k' = k then gn M 101 k 0 + 1 else gn M 101 k' 0 := by
  have hk : k < 60 := Nat.le_of_ble_eq_true h
  unfold xnew xbump
  rw [gn_xst_ne (by omega), gn_xst_ne (by omega), gn_xst]
  by_cases e : k' = k
  · subst e; rw [if_pos ⟨rfl, rfl, rfl⟩, if_pos rfl]
  · rw [if_neg (fun q => e q.2.1), if_neg e, gn_xclr_ne (by omega) (Or.inl (by omega))]
theorem xmon_newD {M : xM} {k n : Nat} (h : Nat.blt k 60 = true) : xmon M (xnewD M k n) := by
  have hk : k < 60 := Nat.le_of_ble_eq_true h
  have h0 := xmon_new (M := M) (n := n) h
  unfold xnewD
  refine ⟨fun k' => ?_, fun k' o' f h1 h2 h3 => ?_, fun k' o' h1 h2 => ?_, ?_, ?_⟩
  · rw [gn_xst_ne (by omega)]; exact h0.1 k'
  · rw [gn_xst_ne (by omega)]; exact h0.2.1 k' o' f h1 h2 h3
  · rw [gn_xst, if_neg (fun q => by have e : k' = k := by omega
                                    subst e; omega)]
    exact h0.2.2.1 k' o' h1 h2
  · rw [gn_xst_ne (by omega)]; exact h0.2.2.2.1
  · rw [gn_xst_ne (by omega)]; exact h0.2.2.2.2
def xneeds (F : xP → xP → xR) (Ec En : xP) (M : xM) (r : (Option xV ⊕ Nat) × xM) : Prop :=
  ∃ (c : Option ((List xE × List xE × List xV × List xV × xM) × ((Option xV ⊕ Nat) × xM))) (n : Option (List xE × List xE × List xV × List xV × xM)),
    (∀ q, c = some q → Ec q.1.1 q.1.2.1 q.1.2.2.1 q.1.2.2.2.1 q.1.2.2.2.2 = some q.2) ∧ (∀ q, n = some q → En q.1 q.2.1 q.2.2.1 q.2.2.2.1 q.2.2.2.2 = some r) ∧
    (∀ Ec' En' : xP, (∀ q, c = some q → Ec' q.1.1 q.1.2.1 q.1.2.2.1 q.1.2.2.2.1 q.1.2.2.2.2 = some q.2) → (∀ q, n = some q → En' q.1 q.2.1 q.2.2.1 q.2.2.2.1 q.2.2.2.2 = some r) → F Ec' En' = some r) ∧
    (∀ q, c = some q → q.1.2.2.2.2 = M) ∧ xmon ((c.map fun q => q.2.2).getD M) ((n.map fun q => q.2.2.2.2).getD r.2)
theorem xneeds_c {F : xP → xP → xR} {Ec En : xP} {M : xM} {r} (hm : xmon M r.2) (h : ∀ Ec' En', F Ec' En' = some r) : xneeds F Ec En M r :=
  ⟨none, none, fun _ h => (nomatch h), fun _ h => (nomatch h), fun Ec' En' _ _ => h Ec' En', fun _ h => (nomatch h), hm⟩
theorem xneeds_n {F : xP → xP → xR} {Ec En : xP} {M0 : xM} {r} (C cs : List xE) (ls st : List xV) (M : xM) (hm : xmon M0 M) (h : En C cs ls st M = some r) (hF : ∀ Ec' En', En' C cs ls st M = some r → F Ec' En' = some r) : xneeds F Ec En M0 r :=
  ⟨none, some (C, cs, ls, st, M), fun _ h => (nomatch h), fun q hq => by cases hq; exact h, fun Ec' En' _ h2 => hF Ec' En' (h2 _ rfl), fun _ h => (nomatch h), hm⟩
theorem xneeds_cn {F : xP → xP → xR} {Ec En : xP} {r r1} (C1 cs1 : List xE) (ls1 st1 : List xV) (M1 : xM) (C cs : List xE) (ls st : List xV) (M : xM) (hm : xmon r1.2 M) (h1 : Ec C1 cs1 ls1 st1 M1 = some r1) (h : En C cs ls st M = some r) (hF : ∀ Ec' En', Ec' C1 cs1 ls1 st1 M1 = some r1 → En' C cs ls st M = some r → F Ec' En' = some r) : xneeds F Ec En M1 r :=
  ⟨some ((C1, cs1, ls1, st1, M1), r1), some (C, cs, ls, st, M), fun q hq => by cases hq; exact h1, fun q hq => by cases hq; exact h, fun Ec' En' h2 h3 => hF Ec' En' (h2 _ rfl) (h3 _ rfl), fun q hq => by cases hq; rfl, hm⟩
theorem xneeds_d {F : xP → xP → xR} {Ec En : xP} {r r1} (C1 cs1 : List xE) (ls1 st1 : List xV) (M1 : xM) (hm : xmon r1.2 r.2) (h1 : Ec C1 cs1 ls1 st1 M1 = some r1) (hF : ∀ Ec' En', Ec' C1 cs1 ls1 st1 M1 = some r1 → F Ec' En' = some r) : xneeds F Ec En M1 r :=
  ⟨some ((C1, cs1, ls1, st1, M1), r1), none, fun q hq => by cases hq; exact h1, fun _ h => (nomatch h), fun Ec' En' h2 _ => hF Ec' En' (h2 _ rfl), fun q hq => by cases hq; rfl, hm⟩
