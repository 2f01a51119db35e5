/-! ARRAYS: made, copied, cloned. (wip/p65/gen14.py writes this) -/
set_option maxRecDepth 100000 in
theorem xac_int : Cond.arrayClass .int ∈ xwA := xwA_mem (i := 127) rfl rfl
set_option maxRecDepth 100000 in
theorem xac_long : Cond.arrayClass .long ∈ xwA := xwA_mem (i := 126) rfl rfl
set_option maxRecDepth 100000 in
theorem xac_byte : Cond.arrayClass .byte ∈ xwA := xwA_mem (i := 171) rfl rfl
set_option maxRecDepth 100000 in
theorem xac_boolean : Cond.arrayClass .boolean ∈ xwA := xwA_mem (i := 170) rfl rfl
def xnat : List (Nat × Nat) := [(0, 44), (8, 212), (17, 150)]
def xobj : List (Nat × Nat) := [(0, 3), (1, 3), (2, 3), (3, 3), (4, 1), (5, 3), (6, 3), (7, 3), (8, 1), (11, 1), (16, 3), (20, 1)]
set_option maxRecDepth 100000 in
theorem xnat_ok : ∀ q ∈ xnat, Cond.methodLink (xcn q.1) q.2 arraycopyName ∈ xwA := xwA_map [562, 1035, 982] _ (by decide +kernel) (fun _ => rfl)
set_option maxRecDepth 100000 in
theorem xobj_ok : ∀ q ∈ xobj, Cond.methodLink (xcn q.1) q.2 Lib.objectInit ∈ xwA := xwA_map [68, 133, 159, 153, 222, 215, 254, 248, 1107, 60, 926, 654] _ (by decide +kernel) (fun _ => rfl)
set_option maxRecDepth 100000 in
theorem xnat_s : Cond.static arraycopyName ∈ xwA := xwA_mem (i := 563) rfl rfl
set_option maxRecDepth 100000 in
theorem xnat_n : Cond.native arraycopyName ∈ xwA := xwA_mem (i := 564) rfl rfl
set_option maxRecDepth 100000 in
theorem xnat_i : Cond.initialized "java/lang/System" ∈ xwA := xwA_mem (i := 45) rfl rfl
set_option maxRecDepth 100000 in
theorem xobj_i : Cond.instanceMethod Lib.objectInit ∈ xwA := xwA_mem (i := 61) rfl rfl
set_option maxRecDepth 100000 in
theorem xobj_c : Cond.code Lib.objectInit ⟨#[0xb1]⟩ 1 none ∈ xwA := xwA_mem (i := 62) rfl rfl
set_option maxRecDepth 100000 in
theorem xcl_l : Cond.methodLink "java/util/Arrays" 310 ⟨"[B", "clone", "()Ljava/lang/Object;"⟩ ∈ xwA := xwA_mem (i := 974) rfl rfl
set_option maxRecDepth 100000 in
theorem xcl_s : Cond.sameMethod "[B" "java/lang/Object" "clone" "()Ljava/lang/Object;" ∈ xwA := xwA_mem (i := 975) rfl rfl
set_option maxRecDepth 100000 in
theorem xcl_n : Cond.native ⟨"java/lang/Object", "clone", "()Ljava/lang/Object;"⟩ ∈ xwA := xwA_mem (i := 976) rfl rfl
set_option maxRecDepth 100000 in
theorem xcl_i : Cond.instanceMethod ⟨"java/lang/Object", "clone", "()Ljava/lang/Object;"⟩ ∈ xwA := xwA_mem (i := 977) rfl rfl
set_option maxRecDepth 100000 in
theorem xcl_e : Cond.selects "[B" ⟨"[B", "clone", "()Ljava/lang/Object;"⟩ ⟨"java/lang/Object", "clone", "()Ljava/lang/Object;"⟩ ∈ xwA := xwA_mem (i := 978) rfl rfl
set_option maxRecDepth 100000 in
theorem xca_l : Cond.classLink "java/util/Arrays" 311 "[B" ∈ xwA := xwA_mem (i := 980) rfl rfl
theorem xac_ok {a : ArrayType} {k : Nat} (h : xat k = some (newarray.typeOf a)) (hk : k < 60) : Cond.arrayClass (newarray.typeOf a) ∈ xwA := by
  have h1 : (List.range 60).all (fun k => match xat k with
    | some .char => false
    | some .short => false
    | some .float => false
    | some .double => false
    | _ => true) = true := by decide +kernel
  have h2 := List.all_eq_true.mp h1 k (List.mem_range.mpr hk)
  rw [h] at h2
  cases a
  · exact xac_boolean
  · cases h2
  · cases h2
  · cases h2
  · exact xac_byte
  · cases h2
  · exact xac_int
  · exact xac_long
section XARR
variable {p : Program} {l : Launch} {e : Env} {R : Room} {s : State} {m : MethodId} {args : Array Value} {below : List Frame} {meth : Method} {c : Code} {H : Heap} {locs : List Loc} {cells slots : Nat} {Q : State → Prop}
variable {cc : ByteArray} {pc : Nat} {ls : Array Slot} {rest : List Value} {A : Nat → Prop} {ad : xA} {M : xM}
theorem xav_def {k o j : Nat} (hae : xae k = none ∨ gn M (200 + k) o j = 0) (h1 : gi M k o j = 0) (h2 : gl M k o j = 0) (h3 : gd M k o j = 0) {ty : FieldType} (hty : xat k = some ty) (hpr : (List.range 60).all (fun k => match xat k with
    | some .char => false
    | some .short => false
    | some .float => false
    | some .double => false
    | some (.array _) => false
    | _ => true) = true) (hk : k < 60) : xav ad M k o j = defaultValue ty := by
  have h9 := List.all_eq_true.mp hpr k (List.mem_range.mpr hk)
  rw [hty] at h9
  unfold xav
  rw [hty]
  cases ty <;> first
    | (simp at h9; done)
    | (simp only; rw [h1]; rfl)
    | (simp only; rw [h2]; rfl)
    | (simp only; rw [h3]; rfl)
    | (simp only
       split
       · rename_i hz
         rcases hae with h | h
         · rw [h] at hz; cases hz
         · rw [if_neg (by omega)]; rfl
       · rfl)
theorem xpr_all : (List.range 60).all (fun k => match xat k with
    | some .char => false
    | some .short => false
    | some .float => false
    | some .double => false
    | some (.array _) => false
    | _ => true) = true := by decide +kernel
theorem xat_fd {k : Nat} {ty : FieldType} (hk : k < 60) (hty : xat k = some ty) : xfd k = [] ∧ k ≠ 42 := by
  have h1 := List.all_eq_true.mp xtc_at k (List.mem_range.mpr hk)
  rw [hty] at h1
  rw [Bool.and_eq_true, List.isEmpty_iff] at h1
  exact ⟨h1.1, fun e => by rw [e] at hty; cases hty⟩
/-- an array made: its number n of components is its length in the new store -/
theorem xw_newarr (hx : p.tables.exec = Jvm.exec) (hb : c.code = cc) (hts : ∀ w ∈ xwA, w.before args s = true) {a : ArrayType} {k N : Nat} {n : Int32} {M' : xM} (hk : k < 60) (hat : xat k = some (newarray.typeOf a)) (I : xInv s A ad M s.heap H locs) (hA : ∀ q, s.heap.size ≤ q → A q) (hmu : xmut k 13 = true) (hn : ¬ n < 0) (hN : n.toNatClampNeg = N) (hsm : N ≤ 65536)
    (hm : xmk M M' k) (h0 : ∀ f, gi M' k (xc M k) f = 0 ∧ gl M' k (xc M k) f = 0 ∧ gd M' k (xc M k) f = 0 ∧ gn M' (200 + k) (xc M k) f = 0) (hlen : xlen k (xc M k) M' = N) (hdl : xdyn k = true → gn M' (110 + k) (xc M k) 0 ≤ 65536) (hdg : decode cc pc = .ok (.newarray a, 2)) (hcells : cells + 1 ≤ R.cells) (hslots : slots + N ≤ R.slots)
    (kk : ∀ H1 : Heap, xInv s A (xup ad k (xc M k) H.size) M' s.heap H1 locs → W p l e R s m args below meth c H1 locs (cells + 1) (slots + N) Q (F0 m (pc + 2) ls (.ref H.size :: rest))) : W p l e R s m args below meth c H locs cells slots Q (F0 m pc ls (.int n :: rest)) := by
  obtain ⟨hW, hP, hT, hB, hK, hS⟩ := I
  obtain ⟨hfd, h42⟩ := xat_fd hk hat
  have hcb : componentBytes (newarray.typeOf a) ≤ 8 := by cases a <;> decide
  refine va_newaK hx hb (hts _ (xac_ok hat hk)) rfl hdg rfl hn hN (Nat.le_trans (Nat.mul_le_mul hsm hcb) (by decide)) hcells hslots rfl fun H1 cA e1 e2 e3 g1 g2 => ?_
  have hcst : xcst k (xc M k) = false := by unfold xcst; rw [xmut_c hmu hK rfl]; rfl
  have hr3 := xrest_mk hk hm hT hB hK (fun f => ⟨(h0 f).1, (h0 f).2.2.2⟩) hdl
  refine kk H1 ⟨xWd_mk hW hT hm e3 (fun h => absurd hfd h) (fun ty hty => ?_), xAp_mk hk h42 hP hW hm hcst (hA _ hS.1), hr3.1, hr3.2.1, hr3.2.2, va_S_more hS (by omega) e3⟩
  obtain rfl : newarray.typeOf a = ty := Option.some.inj (hat.symm.trans hty)
  refine ⟨_, by rw [xup_eq]; exact e1, g1 _ _, (fun z => by cases z), fun _ => ⟨rfl, fun hb9 => ?_, fun C hC => ?_⟩, by rw [hlen, arrV_size], fun j hj => ?_⟩
  · rw [hb9] at g2
    exact g2
  · cases a <;> cases hC
  · rw [hlen] at hj
    rw [arrV_read _ _ hj, xav_def (Or.inr (h0 j).2.2.2) (h0 j).1 (h0 j).2.1 (h0 j).2.2.1 hat xpr_all hk]
theorem xarr_all : xarr.all (fun q => Nat.blt q.2 60 && (!xdyn q.2 && (match xae q.2, xat q.2 with
  | some (tk, _), some (.object C) => (xcl tk == C) && (C == "ProjectPlanner$Plan" || C == "ProjectPlanner$Command")
  | _, _ => false))) = true := by decide +kernel
theorem xw_anewarr (hx : p.tables.exec = Jvm.exec) (hb : c.code = cc) (hts : ∀ w ∈ xwA, w.before args s = true) {oc ix k : Nat} {n : Int32} (hown : s.vm.findClass (xcn oc) = some m.cls) (hl : ((oc, ix), k) ∈ xarr) (Z : xCs A ad s) (I : xInv s A ad M s.heap H locs) (hA : ∀ q, s.heap.size ≤ q → A q) (hmu : xmut k 13 = true) (hn : n = Int32.ofNat (xnth xlens k)) (hdg : decode cc pc = .ok (.anewarray ix, 3)) (hcells : cells + 1 ≤ R.cells) (hslots : slots + xnth xlens k ≤ R.slots)
    (kk : ∀ H1 : Heap, xInv s A (xup ad k (xc M k) H.size) (xnew M k (xnth xlens k)) s.heap H1 locs → W p l e R s m args below meth c H1 locs (cells + 1) (slots + xnth xlens k) Q (F0 m (pc + 3) ls (.ref H.size :: rest))) : W p l e R s m args below meth c H locs cells slots Q (F0 m pc ls (.int n :: rest)) := by
  obtain ⟨hW, hP, hT, hB, hK, hS⟩ := I
  have h1 := List.all_eq_true.mp xarr_all _ hl
  simp only [Bool.and_eq_true] at h1
  obtain ⟨hk1, hdy, h2⟩ := h1
  have hk : k < 60 := Nat.le_of_ble_eq_true hk1
  split at h2
  rotate_left
  · cases h2
  rename_i tk tw C hae hat
  rw [Bool.and_eq_true, beq_iff_eq] at h2
  obtain ⟨hC, hC2⟩ := h2
  have hover : va_AO C s := by
    rcases (Bool.or_eq_true _ _).mp hC2 with h | h
    · rw [beq_iff_eq.mp h]; exact Z.2.2.2.1
    · rw [beq_iff_eq.mp h]; exact Z.2.2.2.2.1
  have hlk := hts _ (xarr_ok _ hl)
  simp only [hae, hC] at hlk
  obtain ⟨hfd, h42⟩ := xat_fd hk hat
  have hbig : (List.range 60).all (fun k => Nat.blt (xnth xlens k) 100000) = true := by decide +kernel
  have hsm : xnth xlens k < 100000 := Nat.le_of_ble_eq_true (List.all_eq_true.mp hbig k (List.mem_range.mpr hk))
  have hN : n.toNatClampNeg = xnth xlens k := by rw [hn]; exact nI_clamp (by omega)
  have hm := xmk_new (M := M) (n := xnth xlens k) hk
  have hdy' : xdyn k = false := by simpa using hdy
  refine W.anew hx hb hown hlk (va_AO.use hover) rfl hdg rfl (by rw [hn]; exact nI_pos (by omega)) (by rw [hN]; omega) hcells (by rw [hN]; exact hslots) fun cA kA comp f1 f2 f3 f4 => ?_
  rw [hN]
  have e3 : ∀ q, q < H.size → (H.push ({ cls := cA, slots := Array.replicate (xnth xlens k) .null, vm := .none } : Cell))[q]? = H[q]? := fun q hq => by
    rw [Array.getElem?_push]
    split
    · omega
    · rfl
  have e1 : (H.push ({ cls := cA, slots := Array.replicate (xnth xlens k) .null, vm := .none } : Cell))[H.size]? = some ({ cls := cA, slots := Array.replicate (xnth xlens k) .null, vm := .none } : Cell) := by simp
  have hcst : xcst k (xc M k) = false := by unfold xcst; rw [xmut_c hmu hK rfl]; rfl
  have hr3 := xrest_mk hk hm hT hB hK (fun f => ⟨(xnew_def (n := xnth xlens k) (f := f) hk).1, (xnew_def (n := xnth xlens k) (f := f) hk).2.2.2⟩) (fun hy => by rw [hdy'] at hy; cases hy)
  have hlen : xlen k (xc M k) (xnew M k (xnth xlens k)) = xnth xlens k := by unfold xlen; rw [hdy']
  refine kk _ ⟨xWd_mk hW hT hm e3 (fun h => absurd hfd h) (fun ty hty => ?_), xAp_mk hk h42 hP hW hm hcst (hA _ hS.1), hr3.1, hr3.2.1, hr3.2.2, va_S_more hS (by simp) e3⟩
  obtain rfl : .object C = ty := Option.some.inj (hat.symm.trans hty)
  refine ⟨_, by rw [xup_eq]; exact e1, ⟨(fun z hz => by cases hz), kA, f2, comp, f3⟩, (fun z => by cases z), fun _ => ⟨rfl, (fun hb9 => by cases hb9), fun C' hC' => by cases hC'; exact ⟨kA, comp, f2, f3, f4⟩⟩, by rw [hlen]; simp, fun j hj => ?_⟩
  rw [hlen] at hj
  obtain ⟨d1, d2, d3, d4⟩ := xnew_def (M := M) (n := xnth xlens k) (f := j) hk
  rw [xav_def (Or.inr d4) d1 d2 d3 hat xpr_all hk]
  simp [hj]
  rfl
end XARR

