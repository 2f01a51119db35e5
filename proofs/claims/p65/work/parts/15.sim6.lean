/-! ARRAYS COPIED AND CLONED. -/
theorem xcpy_at {M : xM} {ks os kd od sp dp n k o j : Nat} : xcpy M ks os kd od sp dp n k o j = if k = kd ∧ o = od ∧ dp ≤ j ∧ j < dp + n then M ks os (sp + (j - dp)) else M k o j := rfl
theorem xcpy_in {M : xM} {ks os kd od sp dp n j : Nat} (h : dp ≤ j ∧ j < dp + n) : xcpy M ks os kd od sp dp n kd od j = M ks os (sp + (j - dp)) := if_pos ⟨rfl, rfl, h.1, h.2⟩
theorem xcpy_out {M : xM} {ks os kd od sp dp n k o j : Nat} (h : ¬ (k = kd ∧ o = od ∧ dp ≤ j ∧ j < dp + n)) : xcpy M ks os kd od sp dp n k o j = M k o j := if_neg h
/-- two stores that differ at one thing -/
def xcq (M M' : xM) (k o : Nat) : Prop := (∀ k', xc M' k' = xc M k') ∧ (∀ k' o' f', k' < 60 → ¬ (k' = k ∧ o' = o) → M' k' o' f' = M k' o' f') ∧ (∀ k' o' f', k' < 60 → gn M' (200 + k') o' f' = gn M (200 + k') o' f') ∧ ∀ k' o', k' < 60 → gn M' (110 + k') o' 0 = gn M (110 + k') o' 0
theorem xcq_cpy {M : xM} {ks os kd od sp dp n : Nat} (hk : kd < 60) : xcq M (xcpy M ks os kd od sp dp n) kd od :=
  ⟨fun k' => gn_xcpy_ne (by omega), fun k' o' f' _ h2 => xcpy_out (fun q => h2 ⟨q.1, q.2.1⟩), fun k' o' f' h => gn_xcpy_ne (by omega), fun k' o' h => gn_xcpy_ne (by omega)⟩
theorem xWd_cq {s : State} {A : Nat → Prop} {ad : xA} {M M' : xM} {H H' : Heap} {k o : Nat} {ty : FieldType} (hW : xWd s A ad M H) (hP : xAp A ad M) (hk : k < 60) (ho : o < xc M k) (hc : xcst k o = false) (hM : xcq M M' k o) (hat : xat k = some ty)
    (hnew : xAr s A ad M' H' k o ty) (e3 : ∀ q, q ≠ ad k o → H'[q]? = H[q]?) : xWd s A ad M' H' := by
  have htr : xtrk k := Or.inr (by rw [hat]; exact fun h => nomatch h)
  intro k' o' hk' ho'
  rw [hM.1] at ho'
  by_cases hsame : k' = k ∧ o' = o
  · obtain ⟨rfl, rfl⟩ := hsame
    exact ⟨fun hf => absurd (xat_fd hk hat).1 hf, fun ty' hty => by obtain rfl : ty = ty' := Option.some.inj (hat.symm.trans hty); exact hnew⟩
  · have hq : ∀ (hn : xfd k' ≠ [] ∨ xat k' ≠ none), H'[ad k' o']? = H[ad k' o']? := by
      intro hn
      refine e3 _ (fun e => ?_)
      by_cases hc' : xcst k' o' = false
      · exact hsame (hP.2.1 k' o' k o hk' hk ho' ho hn htr hc' hc e)
      · have h1 := (hP.1 k o hk ho).mpr hc
        rw [← e] at h1
        exact hc' ((hP.1 k' o' hk' ho').mp h1)
    exact ⟨fun hf => ((hW k' o' hk' ho').1 hf).same rfl (hq (Or.inl hf)) (fun g d' hg => xfv_eq (hM.2.1 k' o' g hk' hsame) (hM.2.2.1 k' o' g hk')), fun ty hty => ((hW k' o' hk' ho').2 ty hty).same rfl (hq (Or.inr (by rw [hty]; exact fun h => nomatch h))) (xlen_eq (hM.2.2.2 k' o' hk')) (fun j hj => xav_eq (hM.2.1 k' o' j hk' hsame) (hM.2.2.1 k' o' j hk'))⟩
theorem xrest_cq {M M' : xM} {k o : Nat} (hk : k < 60) (hfd : xfd k = []) (hM : xcq M M' k o) (hT : xWT M) (hB : xBt M) (hK : xK M) (hby : xtc k = 2 → ∀ j, fits .byte (.int (gi M' k o j)) = true) : xWT M' ∧ xBt M' ∧ xK M' := by
  refine ⟨⟨fun k' o' f' t tk tw hk' ho' hd' ht hf => ?_, fun k' o' tk tw j hk' ho' hae' hj hf => ?_⟩, ⟨fun k' o' j ht ho' => ?_, fun k' o' hy hk' ho' => ?_⟩, ?_⟩
  · rw [hM.1] at ho' ⊢
    have hne : k' ≠ k := fun e => by rw [e, hfd] at hd'; simp at hd'
    have e3 : gn M' k' o' f' = gn M k' o' f' := by unfold gn; rw [hM.2.1 k' o' f' hk' (fun q => hne q.1)]
    rw [e3]
    exact hT.1 k' o' f' t tk tw hk' ho' hd' ht (by show gn M (200 + k') o' f' = 1; rw [← hM.2.2.1 k' o' f' hk']; exact hf)
  · rw [hM.1] at ho' ⊢
    exact hT.2 k' o' tk tw j hk' ho' hae' hj (by show gn M (200 + k') o' j = 1; rw [← hM.2.2.1 k' o' j hk']; exact hf)
  · rw [hM.1] at ho'
    by_cases e : k' = k ∧ o' = o
    · obtain ⟨rfl, rfl⟩ := e
      exact hby ht j
    · have e3 : gi M' k' o' j = gi M k' o' j := by unfold gi; rw [hM.2.1 k' o' j (xtc_lt k' (by rw [ht]; decide)) e]
      rw [e3]
      exact hB.1 k' o' j ht ho'
  · rw [hM.1] at ho'
    rw [hM.2.2.2 k' o' hk']
    exact hB.2 k' o' hy hk' ho'
  · obtain ⟨a, b, c, e1, e2, e3, e4, e5⟩ := hK
    exact ⟨by rw [hM.1]; exact a, by rw [hM.1]; exact b, by rw [hM.1]; exact c, by rw [hM.1]; exact e1, by rw [hM.1]; exact e2, by rw [hM.1]; exact e3, by rw [hM.1]; exact e4, by rw [hM.1]; exact e5⟩
/-- the values of an array of numbers, by its type alone -/
theorem xav_cp {ad : xA} {M M' : xM} {k k' o o' j j' : Nat} {t : Nat} (h1 : xtc k = t) (h2 : xtc k' = t) (ht : t = 1 ∨ t = 2 ∨ t = 4) (h : M' k' o' j' = M k o j) : xav ad M' k' o' j' = xav ad M k o j := by
  have g1 : gi M' k' o' j' = gi M k o j := by unfold gi; rw [h]
  have g2 : gl M' k' o' j' = gl M k o j := by unfold gl; rw [h]
  have h0 : t ≠ 0 := by omega
  obtain ⟨-, -, ty1, e1, a1, a2, -, a4, -⟩ := xat_of h1 h0
  obtain ⟨-, -, ty2, e2, b1, b2, -, b4, -⟩ := xat_of h2 h0
  unfold xav
  rcases ht with ht | ht | ht
  · rw [e1, e2, a1 ht, b1 ht]; simp only; rw [g1]
  · rw [e1, e2, a2 ht, b2 ht]; simp only; rw [g1]
  · rw [e1, e2, a4 ht, b4 ht]; simp only; rw [g2]
theorem xav_fit {ad : xA} {M : xM} {k o j t : Nat} {ty : FieldType} (hB : xBt M) (ho : o < xc M k) (h1 : xtc k = t) (ht : t = 1 ∨ t = 2 ∨ t = 4) (hty : xat k = some ty) : fits ty (xav ad M k o j) = true ∧ ∀ (U : State) (x : ClassId), U.takes x (xav ad M k o j) := by
  have h0 : t ≠ 0 := by omega
  obtain ⟨-, -, ty1, e1, a1, a2, -, a4, -⟩ := xat_of h1 h0
  obtain rfl : ty1 = ty := Option.some.inj (e1.symm.trans hty)
  unfold xav
  rcases ht with ht | ht | ht
  · rw [e1, a1 ht]; exact ⟨rfl, fun _ _ => trivial⟩
  · rw [e1, a2 ht]; exact ⟨hB.1 k o j (by rw [h1, ht]) ho, fun _ _ => trivial⟩
  · rw [e1, a4 ht]; exact ⟨rfl, fun _ _ => trivial⟩
theorem xnn {z : Int32} (hz : ¬ z < 0) : z.toInt = (z.toNatClampNeg : Int) := by
  have hz0 : (0 : Int) ≤ z.toInt := by
    have := Int32.not_lt.mp hz
    simpa using Int32.le_iff_toInt_le.mp this
  show z.toInt = ((z.toInt.toNat : Nat) : Int)
  omega
section XCPY
variable {p : Program} {l : Launch} {e : Env} {R : Room} {s : State} {m : MethodId} {args : Array Value} {below : List Frame} {meth : Method} {c : Code} {H : Heap} {locs : List Loc} {cells slots : Nat} {Q : State → Prop}
variable {cc : ByteArray} {pc : Nat} {ls : Array Slot} {rest : List Value} {A : Nat → Prop} {ad : xA} {M : xM}
theorem xw_copy (hx : p.tables.exec = Jvm.exec) (hb : c.code = cc) (hml : ls.size = c.maxLocals) (hts : ∀ w ∈ xwA, w.before args s = true) {oc idx ks os kd od t : Nat} (hown : s.vm.findClass (xcn oc) = some m.cls) (hl : (oc, idx) ∈ xnat) (I : xInv s A ad M s.heap H locs) (hos : os < xc M ks) (hod : od < xc M kd) (h1 : xtc ks = t) (h2 : xtc kd = t) (ht : t = 1 ∨ t = 2 ∨ t = 4) (hmu : xcst kd od = false)
    {sp dp n : Int32} (g1 : ¬ sp < 0) (g2 : ¬ dp < 0) (g3 : ¬ n < 0) (g4 : ix sp + ix n ≤ xlen ks os M) (g5 : ix dp + ix n ≤ xlen kd od M) (hframes : 1 ≤ R.frames) (hlocals : (rest.map fun v => v.category).sum + (nativeFrameWords "java/lang/System" "arraycopy" 5 + 11) ≤ R.locals) (hdg : decode cc pc = .ok (.invokestatic idx, 3))
    (kk : ∀ (H1 : Heap) (locs1 : List Loc), xInv s A ad (xcpy M ks os kd od (ix sp) (ix dp) (ix n)) s.heap H1 locs1 → W p l e R s m args below meth c H1 locs1 cells slots Q (F0 m (pc + 3) ls rest)) : W p l e R s m args below meth c H locs cells slots Q (F0 m pc ls (.int n :: .int dp :: .ref (ad kd od) :: .int sp :: .ref (ad ks os) :: rest)) := by
  obtain ⟨hW, hP, hT, hB, hK, hS⟩ := I
  have h0 : t ≠ 0 := by omega
  obtain ⟨hks, -, ts, es, -⟩ := xat_of h1 h0
  obtain ⟨hkd, hfd, td, ed, -⟩ := xat_of h2 h0
  obtain ⟨cs, s1, s2, s3, -, s5, s6⟩ := (hW ks os hks hos).2 ts es
  obtain ⟨cd, d1, d2, d3, d4, d5, d6⟩ := (hW kd od hkd hod).2 td ed
  obtain ⟨sv, kS, hkS, cmS, hkkS⟩ := s2
  obtain ⟨dv, kD, hkD, cmD, hkkD⟩ := d2
  have hty : ts = td := by
    obtain ⟨-, -, ts', es', a1, a2, -, a4, -⟩ := xat_of h1 h0
    obtain ⟨-, -, td', ed', b1, b2, -, b4, -⟩ := xat_of h2 h0
    obtain rfl : ts' = ts := Option.some.inj (es'.symm.trans es)
    obtain rfl : td' = td := Option.some.inj (ed'.symm.trans ed)
    rcases ht with ht | ht | ht
    · rw [a1 ht, b1 ht]
    · rw [a2 ht, b2 ht]
    · rw [a4 ht, b4 ht]
  subst hty
  have hprim : refKind ts = false := by
    obtain ⟨-, -, ts', es', a1, a2, -, a4, -⟩ := xat_of h1 h0
    obtain rfl : ts' = ts := Option.some.inj (es'.symm.trans es)
    rcases ht with ht | ht | ht
    · rw [a1 ht]; rfl
    · rw [a2 ht]; rfl
    · rw [a4 ht]; rfl
  have hA : A (ad kd od) := (hP.1 kd od hkd hod).mpr hmu
  have hget : ∀ i, i < ix n → cs.slots.getD (ix sp + i) .null = xav ad M ks os (ix sp + i) := fun i hi => by
    rw [Array.getD_eq_getD_getElem?, s6 _ (by omega)]
    rfl
  intro T hTH X
  obtain ⟨vm', X', step⟩ := X.arraycopy hx hown (hts _ (xnat_ok _ hl)) (hts _ xnat_n) (hts _ xnat_s) (hts _ xnat_i) (src := ad ks os) (dst := ad kd od) (cs := cs) (cd := cd) (srcPos := sp) (destPos := dp) (n := n) (by rw [hTH]; exact s1) (by rw [hTH]; exact d1)
    sv dv s3 d3 hkS hkD hkkS hkkD (by simp [hprim]) g1 g2 g3
    (by rw [xnn g1, xnn g3, s5]; show ¬ _; have := g4; show ¬ ((ix sp : Int) + (ix n : Int) > _); omega)
    (by rw [xnn g2, xnn g3, d5]; show ¬ ((ix dp : Int) + (ix n : Int) > _); omega)
    (fun vm₁ _ i hi => by
      show fits ts (cs.slots.getD (ix sp + i) .null) = true ∧ (T.setVm vm₁).takes cmD (cs.slots.getD (ix sp + i) .null)
      rw [hget i hi]
      obtain ⟨f1, f2⟩ := xav_fit (ad := ad) (j := ix sp + i) hB hos h1 ht es
      exact ⟨f1, f2 _ _⟩)
    (g := F0 m pc ls (.int n :: .int dp :: .ref (ad kd od) :: .int sp :: .ref (ad ks os) :: rest)) rfl hml rfl (by rw [hb]; exact hdg) hframes (by show 2 * 0 + _ + _ ≤ _; omega)
  have hlt : ad kd od < (T.setVm vm').heap.size := by
    show ad kd od < T.heap.size
    rw [hTH]
    exact (Array.getElem?_eq_some_iff.mp d1).1
  have e1 := heapAt_setCell_self (s := T.setVm vm') (cd.storeRun (ix dp) (cs.stretch (ix sp) (ix n))) hlt
  have e2 : ((T.setVm vm').setCell (ad kd od) (cd.storeRun (ix dp) (cs.stretch (ix sp) (ix n)))).heap.size = H.size := by rw [size_setCell]; show T.heap.size = _; rw [hTH]
  have e3 : ∀ q, q ≠ ad kd od → ((T.setVm vm').setCell (ad kd od) (cd.storeRun (ix dp) (cs.stretch (ix sp) (ix n)))).heap[q]? = H[q]? := fun q hq => by rw [heapAt_setCell_ne _ (Ne.symm hq)]; show T.heap[q]? = _; rw [hTH]
  obtain ⟨r1, r2, r3, -, -⟩ := cd.storeRun_facts (ix dp) (cs.stretch (ix sp) (ix n))
  have hM := xcq_cpy (M := M) (ks := ks) (os := os) (od := od) (sp := ix sp) (dp := ix dp) (n := ix n) hkd
  have hlen : (cs.stretch (ix sp) (ix n)).length = ix n := by simp [Cell.stretch]
  have hr3 := xrest_cq hkd hfd hM hT hB hK (fun h9 j => by
    by_cases hj : ix dp ≤ j ∧ j < ix dp + ix n
    · have e9 : gi (xcpy M ks os kd od (ix sp) (ix dp) (ix n)) kd od j = gi M ks os (ix sp + (j - ix dp)) := by unfold gi; rw [xcpy_in hj]
      rw [e9]
      exact hB.1 ks os _ (h1.trans (h2.symm.trans h9)) hos
    · have e9 : gi (xcpy M ks os kd od (ix sp) (ix dp) (ix n)) kd od j = gi M kd od j := by unfold gi; rw [xcpy_out (fun q => hj q.2.2)]
      rw [e9]
      exact hB.1 kd od j h9 hod)
  have hfin : va_S A s.heap ((T.setVm vm').setCell (ad kd od) (cd.storeRun (ix dp) (cs.stretch (ix sp) (ix n)))).heap (locs ++ (cs.stretch (ix sp) (ix n)).zipIdx.map fun q => ⟨ad kd od, ix dp + q.2⟩) := by
    refine ⟨by rw [e2]; exact hS.1, fun q q1 q2 => ?_, fun q hq => ?_⟩
    · rw [e3 q (fun e => q2 (by rw [e]; exact hA))]
      exact hS.2.1 q q1 q2
    · rcases List.mem_append.mp hq with h | h
      · exact hS.2.2 q h
      · obtain ⟨z, -, rfl⟩ := List.mem_map.mp h
        exact hA
  obtain ⟨t9, a1, b1⟩ := kk _ _ ⟨xWd_cq hW hP hkd hod hmu hM ed ⟨_, e1, ⟨fun k hk9 => dv k (by rw [← r2]; exact hk9), kD, by rw [r1]; exact hkD, cmD, hkkD⟩, by rw [r2]; exact d3, fun hA9 => ⟨by rw [r2]; exact (d4 hA9).1, fun hb9 => by rw [r1]; exact (d4 hA9).2.1 hb9, fun C hC => by rw [r1]; exact (d4 hA9).2.2 C hC⟩, by rw [r3, d5]; exact (xlen_eq (hM.2.2.2 kd od hkd)).symm, fun j hj => by
      rw [xlen_eq (hM.2.2.2 kd od hkd)] at hj
      rw [Cell.storeRun_get _ _ _ _ (by rw [hlen, d5]; exact g5), hlen]
      by_cases hin : ix dp ≤ j ∧ j < ix dp + ix n
      · rw [if_pos hin]
        unfold Cell.stretch
        rw [List.getElem?_map, List.getElem?_range (by omega)]
        show some (cs.slots.getD (ix sp + (j - ix dp)) .null) = _
        rw [hget _ (by omega), xav_cp h1 h2 ht (xcpy_in hin)]
      · rw [if_neg hin, d6 j hj, xav_cp h2 h2 ht (xcpy_out (fun q => hin q.2.2))]⟩ e3, hP.ch hM.1, hr3.1, hr3.2.1, hr3.2.2, hfin⟩ _ rfl X'
  exact ⟨t9, step t9 a1, b1⟩
theorem xw_clone (hx : p.tables.exec = Jvm.exec) (hb : c.code = cc) (hml : ls.size = c.maxLocals) (hts : ∀ w ∈ xwA, w.before args s = true) (hown : s.vm.findClass (xcn 17) = some m.cls) (Z : xCs A ad s) (I : xInv s A ad M s.heap H locs) (hAA : ∀ q, s.heap.size ≤ q → A q) {ks os : Nat} (hos : os < xc M ks) (h1 : xtc ks = 2) (hmu : xcst ks os = false) (hdyn : xdyn ks = true)
    (hframes : 1 ≤ R.frames) (hlocals : (rest.map fun v => v.category).sum + 14 ≤ R.locals) (hcells : cells + 1 ≤ R.cells) (hslots : slots + xlen ks os M ≤ R.slots) (hdg : decode cc pc = .ok (.invokevirtual 310, 3))
    (kk : ∀ H1 : Heap, xInv s A (xup ad 47 (xc M 47) H.size) (xcpy (xnewD M 47 (xlen ks os M)) ks os 47 (xc M 47) 0 0 (xlen ks os M)) s.heap H1 locs → W p l e R s m args below meth c H1 locs (cells + 1) (slots + xlen ks os M) Q (F0 m (pc + 3) ls (.ref H.size :: rest))) : W p l e R s m args below meth c H locs cells slots Q (F0 m pc ls (.ref (ad ks os) :: rest)) := by
  obtain ⟨hW, hP, hT, hB, hK, hS⟩ := I
  obtain ⟨hks, -, ts, es, -, a2, -⟩ := xat_of h1 (by decide)
  obtain rfl := a2 rfl
  obtain ⟨cs, s1, s2, s3, s4, s5, s6⟩ := (hW ks os hks hos).2 _ es
  have hA : A (ad ks os) := (hP.1 ks os hks hos).mpr hmu
  obtain ⟨hvm, hbn, -⟩ := s4 hA
  have hnm := hbn rfl
  obtain ⟨c0, t0', f1, f2, f3⟩ := Cond.castable_spec (va_Nw.use (A := args) rfl Z.2.2.2.2.2.1)
  cases hnm.symm.trans f1
  obtain ⟨sv, kS, hkS, cmS, hkkS⟩ := s2
  have hlen0 : xlen ks os M ≤ 65536 := by
    unfold xlen
    rw [hdyn]
    exact hB.2 ks os hdyn hks hos
  intro T hTH X
  have hal : s.vm.Alike T.vm := X.warmed.alike
  obtain ⟨kA, hkA, heA⟩ := hal.2.2 _ _ hkS
  have hkindA : kA.kind = .array cmS .byte := by rw [heA]; exact hkkS
  have hsv : ∀ (i : Nat) (v : Value), cs.slots[i]? = some v → fits .byte v = true := by
    intro i v hv
    have hi : i < xlen ks os M := by rw [← s5]; exact (Array.getElem?_eq_some_iff.mp hv).1
    rw [s6 i hi] at hv
    cases hv
    exact (xav_fit hB hos h1 (Or.inr (Or.inl rfl)) es).1
  obtain ⟨vm', X', st⟩ := X.cloneArray hx hown (hts _ xcl_l) (hts _ xcl_s) (hts _ xcl_n) (hts _ xcl_i) (hts _ xcl_e) (a := ad ks os) (cell := cs) (by rw [hTH]; exact s1) sv s3 hnm f2 f3
    (fun i v hv => by simpa [State.fitsSlot, State.slotType?, hkA, hkindA] using hsv i v hv)
    (g := F0 m pc ls (.ref (ad ks os) :: rest)) rfl hml rfl (by rw [hb]; exact hdg) hframes (by show 2 * 0 + _ + 14 ≤ _; omega) hcells (by rw [s5]; exact hslots) (hloader := Vm.clonesLoader_of_array hkS hkkS)
  rw [s5] at X'
  generalize hH1 : H.push ({ cls := cs.cls, slots := cs.slots } : Cell) = H1
  have z1 : H1.size = H.size + 1 := by rw [← hH1, Array.size_push]
  have e1 : H1[H.size]? = some ({ cls := cs.cls, slots := cs.slots } : Cell) := by rw [← hH1, Array.getElem?_push_size]
  have e3 : ∀ q : Nat, q < H.size → H1[q]? = H[q]? := fun q hq => by rw [← hH1, Array.getElem?_push, if_neg (Nat.ne_of_lt hq)]
  have hmD := xmk_newD (M := M) (k := 47) (n := xlen ks os M) (by decide)
  have hne : ¬ (ks = 47 ∧ os = xc M 47) := fun q => by rw [q.1] at hos; rw [q.2] at hos; omega
  have hold : ∀ f, xnewD M 47 (xlen ks os M) ks os f = M ks os f := fun f => (hmD.2.2.1 ks os f hks hos).1
  have hm : xmk M (xcpy (xnewD M 47 (xlen ks os M)) ks os 47 (xc M 47) 0 0 (xlen ks os M)) 47 := by
    refine ⟨by rw [xc, gn_xcpy_ne (by decide)]; exact hmD.1, fun k' h => by rw [xc, gn_xcpy_ne (by decide)]; exact hmD.2.1 k' h, fun k' o' f' q1 q2 => ⟨?_, by rw [gn_xcpy_ne (by omega)]; exact (hmD.2.2.1 k' o' f' q1 q2).2⟩, fun k' o' q1 q2 => by rw [gn_xcpy_ne (by omega)]; exact hmD.2.2.2 k' o' q1 q2⟩
    rw [xcpy_out (fun q => by rw [q.1] at q2; rw [q.2.1] at q2; omega)]
    exact (hmD.2.2.1 k' o' f' q1 q2).1
  have hc47 : xcst 47 (xc M 47) = false := by
    show (!Nat.ble 13 (xc M 47)) = false
    rw [Nat.ble_eq_true_of_le hK.2.2.2.2.2.1]
    rfl
  have hcv : ∀ j, j < xlen ks os M → xcpy (xnewD M 47 (xlen ks os M)) ks os 47 (xc M 47) 0 0 (xlen ks os M) 47 (xc M 47) j = M ks os j := fun j hj => by
    rw [xcpy_in (by omega), show 0 + (j - 0) = j by omega]
    exact hold j
  have hl47 : xlen 47 (xc M 47) (xcpy (xnewD M 47 (xlen ks os M)) ks os 47 (xc M 47) 0 0 (xlen ks os M)) = xlen ks os M := by
    show gn _ 157 _ 0 = _
    rw [gn_xcpy_ne (by decide)]
    exact (xnewD_def (k := 47) (f := 0) (by decide)).2.2.2.2
  have hW1 : xWd s A (xup ad 47 (xc M 47) H.size) (xcpy (xnewD M 47 (xlen ks os M)) ks os 47 (xc M 47) 0 0 (xlen ks os M)) H1 := by
    refine xWd_mk hW hT hm e3 (fun h => absurd rfl h) (fun ty hty => ?_)
    obtain rfl : FieldType.byte = ty := by injection hty
    refine ⟨({ cls := cs.cls, slots := cs.slots } : Cell), by rw [xup_eq]; exact e1, ⟨(fun z hz => by cases hz), kS, hkS, cmS, hkkS⟩, (fun z => by cases z), fun _ => ⟨rfl, fun _ => hnm, fun C hC => by cases hC⟩, by rw [hl47]; exact s5, fun j hj => ?_⟩
    rw [hl47] at hj
    show cs.slots[j]? = _
    rw [s6 j hj, xav_cp (t := 2) h1 rfl (Or.inr (Or.inl rfl)) (hcv j hj)]
    have : ∀ j, xav (xup ad 47 (xc M 47) H.size) M ks os j = xav ad M ks os j := fun j => by unfold xav; rw [es]
    rw [← this j]
  have hr1 := xrest_mk (k := 47) (by decide) hmD hT hB hK (fun f => ⟨(xnewD_def (k := 47) (f := f) (by decide)).1, (xnewD_def (k := 47) (f := f) (by decide)).2.2.2.1⟩) (fun _ => by rw [(xnewD_def (k := 47) (f := 0) (by decide)).2.2.2.2]; exact hlen0)
  have hr3 := xrest_cq (k := 47) (o := xc M 47) (by decide) rfl (xcq_cpy (M := xnewD M 47 (xlen ks os M)) (ks := ks) (os := os) (sp := 0) (dp := 0) (n := xlen ks os M) (by decide)) hr1.1 hr1.2.1 hr1.2.2 (fun _ j => by
    by_cases hj : j < xlen ks os M
    · have e9 : gi (xcpy (xnewD M 47 (xlen ks os M)) ks os 47 (xc M 47) 0 0 (xlen ks os M)) 47 (xc M 47) j = gi M ks os j := by unfold gi; rw [hcv j hj]
      rw [e9]
      exact hB.1 ks os j h1 hos
    · have e9 : gi (xcpy (xnewD M 47 (xlen ks os M)) ks os 47 (xc M 47) 0 0 (xlen ks os M)) 47 (xc M 47) j = gi (xnewD M 47 (xlen ks os M)) 47 (xc M 47) j := by unfold gi; rw [xcpy_out (by omega)]
      rw [e9, (xnewD_def (k := 47) (f := j) (by decide)).1]
      rfl)
  obtain ⟨t9, b1, b2⟩ := kk H1 ⟨hW1, xAp_mk (by decide) (by decide) hP hW hm hc47 (hAA _ hS.1), hr3.1, hr3.2.1, hr3.2.2, va_S_more hS (by omega) e3⟩ _ (by rw [← hH1, ← hTH]; rfl) X'
  refine ⟨t9, st t9 ?_, b2⟩
  have hTs : T.heap.size = H.size := by rw [hTH]
  rw [← hTs] at b1
  exact b1
theorem xw_cast (hx : p.tables.exec = Jvm.exec) (hb : c.code = cc) (hts : ∀ w ∈ xwA, w.before args s = true) (hown : s.vm.findClass (xcn 17) = some m.cls) (I : xInv s A ad M s.heap H locs) {o : Nat} (ho : o < xc M 47) (hmu : xcst 47 o = false) (hdg : decode cc pc = .ok (.checkcast 311, 3))
    (kk : W p l e R s m args below meth c H locs cells slots Q (F0 m (pc + 3) ls (.ref (ad 47 o) :: rest))) : W p l e R s m args below meth c H locs cells slots Q (F0 m pc ls (.ref (ad 47 o) :: rest)) := by
  obtain ⟨hW, hP, -⟩ := I
  obtain ⟨cs, s1, s2, s3, s4, -⟩ := (hW 47 o (by decide) ho).2 .byte rfl
  obtain ⟨hvm, hbn, -⟩ := s4 ((hP.1 47 o (by decide) ho).mpr hmu)
  exact va_castE hx hb hown (hts _ xca_l) ⟨cs, s1, by rw [hvm]; rfl, hbn rfl⟩ hdg kk
end XCPY
