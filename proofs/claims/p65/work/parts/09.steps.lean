/-! INSTRUCTIONS OVER THE WORLD OF A STORE, one row each. -/
section XST
variable {p : Program} {l : Launch} {e : Env} {R : Room} {s : State} {m : MethodId} {args : Array Value} {below : List Frame} {meth : Method} {c : Code} {H H0 : Heap} {locs : List Loc} {cells slots : Nat} {Q : State → Prop}
variable {cc : ByteArray} {pc : Nat} {ls : Array Slot} {rest : List Value} {A : Nat → Prop} {ad : xA} {M : xM}
theorem xw_get (hx : p.tables.exec = Jvm.exec) (hb : c.code = cc) (hts : ∀ w ∈ xwA, w.before args s = true) {oc ix kx f o : Nat} (hown : s.vm.findClass (xcn oc) = some m.cls) (hl : ((oc, ix), kx, f) ∈ xfl) (hW : xWd s A ad M H) (hk : kx < 60) (ho : o < xc M kx) {d : Nat × Nat × Nat} (hd : (xfd kx)[f]? = some d) (hdg : decode cc pc = .ok (.getfield ix, 3))
    (kk : W p l e R s m args below meth c H locs cells slots Q (F0 m (pc + 3) ls (xfv ad M kx o f d :: rest))) : W p l e R s m args below meth c H locs cells slots Q (F0 m pc ls (.ref (ad kx o) :: rest)) := by
  obtain ⟨cell, h1, h2, h3, h4, h5, h6⟩ := (hW kx o hk ho).1 (fun h => by rw [h] at hd; simp at hd)
  obtain ⟨cf, kf, i, fd, g1, g2, g3⟩ := h6 f d hd
  exact W.getf hx hb hown (hts _ (xfl_ok _ hl)) g1 g2 h1 h3 g3 rfl rfl hdg kk
/-- kinds whose things are made -/
theorem xins {k : Nat} (h : xnewL.any (fun q => Nat.beq q.2.1 k) = true) (hts : ∀ w ∈ xwA, w.before args s = true) : ∃ (cC : ClassId) (kC : Class), s.vm.findClass (xcl k) = some cC ∧ s.vm.classes[cC]? = some kC ∧ kC.kind = .ordinary := by
  obtain ⟨q, hq, he⟩ := List.any_eq_true.mp h
  have hk := Nat.eq_of_beq_eq_true he
  obtain ⟨cC, kC, h1, h2, h3, -⟩ := Cond.instantiable_spec (hts _ (xnew2_ok q hq))
  rw [hk] at h1
  exact ⟨cC, kC, h1, h2, h3⟩
theorem xins_all : (List.range 60).all (fun k => (xfd k).isEmpty || (Nat.beq k 43 || (xnewL.any (fun q => Nat.beq q.2.1 k) && (xat k).isNone))) = true := by decide +kernel
theorem xins_of {k f : Nat} {d : Nat × Nat × Nat} (hk : k < 60) (h43 : k ≠ 43) (hd : (xfd k)[f]? = some d) : xnewL.any (fun q => Nat.beq q.2.1 k) = true ∧ xat k = none := by
  have h1 := List.all_eq_true.mp xins_all k (List.mem_range.mpr hk)
  rcases (Bool.or_eq_true _ _).mp h1 with h | h
  · rw [List.isEmpty_iff] at h
    rw [h] at hd
    simp at hd
  · rcases (Bool.or_eq_true _ _).mp h with h | h
    · exact absurd (Nat.eq_of_beq_eq_true h) h43
    · rw [Bool.and_eq_true] at h
      exact ⟨h.1, by simpa using h.2⟩
theorem xw_put (hx : p.tables.exec = Jvm.exec) (hb : c.code = cc) (hts : ∀ w ∈ xwA, w.before args s = true) {oc ix kx f o : Nat} (hown : s.vm.findClass (xcn oc) = some m.cls) (hl : ((oc, ix), kx, f) ∈ xfl) (hW : xWd s A ad M H) (hP : xAp A ad M) (hS : va_S A H0 H locs) (hk : kx < 60) (h43 : kx ≠ 43) (ho : o < xc M kx) (hc : xcst kx o = false) {d : Nat × Nat × Nat} (hd : (xfd kx)[f]? = some d)
    (hfin : (xTf kx f).2.2.2 = false ∨ ((xTf kx f).1 = xcn oc ∧ meth.name = "<init>")) {M' : xM} (hM : xch M M' kx o f) {v : Value} (hv : xfv ad M' kx o f d = v) (hn : ∀ ty, parseFieldDescriptor (xTf kx f).2.2.1 = some ty → narrow ty v = v ∧ fits ty v = true) (hdg : decode cc pc = .ok (.putfield ix, 3))
    (kk : ∀ (H1 : Heap) (locs1 : List Loc), xWd s A ad M' H1 → xAp A ad M' → va_S A H0 H1 locs1 → W p l e R s m args below meth c H1 locs1 cells slots Q (F0 m (pc + 3) ls rest)) : W p l e R s m args below meth c H locs cells slots Q (F0 m pc ls (v :: .ref (ad kx o) :: rest)) := by
  obtain ⟨cell, h1, h2, h3, h4, h5, h6⟩ := (hW kx o hk ho).1 (fun h => by rw [h] at hd; simp at hd)
  obtain ⟨cf, kf, i, fd, g1, g2, g3⟩ := h6 f d hd
  have hA : A (ad kx o) := (hP.1 kx o hk ho).mpr hc
  obtain ⟨q1, q2⟩ := xins_of hk h43 hd
  obtain ⟨cC, kC, i1, i2, i3⟩ := xins q1 hts
  cases h5.symm.trans i1
  have hlt : fd.slot < cell.slots.size := (Array.getElem?_eq_some_iff.mp g3).1
  obtain ⟨ty, hty, -⟩ := xtypes hk hd
  obtain ⟨n1, n2⟩ := hn ty hty
  rcases xlays hts hk h43 hd with ⟨hf0, hlay⟩ | ⟨hf1, hlay⟩
  · refine W.putK hx hb (f := fd) ⟨hown, hts _ (xfl_ok _ hl), ⟨_, _, _, g1⟩, g2⟩ (u_store i1 i2 i3 hlay g1 hty n1 n2) h1 (h4 hA) hlt rfl rfl hdg fun H' e1 e2 e3 => ?_
    exact kk H' _ (xWd_put hts hW hP hk ho h43 hc hd hM q2 h1 g1 hlt hv e1 e3) (hP.ch hM.1) (hS.put e2 e3 hA)
  · obtain ⟨hdecl, hin⟩ := hfin.resolve_left (by rw [hf1]; exact fun h => nomatch h)
    have hcf : m.cls = cf := by
      obtain ⟨_, _, c', _, _, _, -, -, hf', -, -, -, hown2, -⟩ := Cond.laysFinal_spec hlay
      have e1 : c' = cf := by have := g1.symm.trans hf'; simp at this; exact this.1.symm
      rw [hdecl] at hown2
      rw [← e1]
      exact Option.some.inj (hown.symm.trans hown2)
    refine W.putFinK hx hb hown (hts _ (xfl_ok _ hl)) g1 g2 hcf hin (u_fits i1 i2 i3 (Or.inr hlay) g1 hty n1 n2) h1 (h4 hA) hlt rfl rfl hdg fun H' e1 e2 e3 => ?_
    exact kk H' _ (xWd_put hts hW hP hk ho h43 hc hd hM q2 h1 g1 hlt hv e1 e3) (hP.ch hM.1) (hS.put e2 e3 hA)
/-- what an array's kind says -/
theorem xtc_at : (List.range 60).all (fun k => match xat k with
  | none => Nat.beq (xtc k) 0
  | some ty => (xfd k).isEmpty && (match ty with
    | .int => Nat.beq (xtc k) 1
    | .byte => Nat.beq (xtc k) 2
    | .boolean => Nat.beq (xtc k) 3
    | .long => Nat.beq (xtc k) 4
    | .double => Nat.beq (xtc k) 5
    | .object C => Nat.beq (xtc k) 6 && (match xae k with
      | some (tk, _) => xcl tk == C && Nat.blt tk 60
      | none => false)
    | _ => false)) = true := by decide +kernel
theorem xtc_lt (k : Nat) (h : xtc k ≠ 0) : k < 60 := by
  unfold xtc at h
  split at h <;> first | omega | exact absurd rfl h
theorem xat_of {k t : Nat} (ht : xtc k = t) (h0 : t ≠ 0) : k < 60 ∧ xfd k = [] ∧ ∃ ty, xat k = some ty ∧ (t = 1 → ty = .int) ∧ (t = 2 → ty = .byte) ∧ (t = 3 → ty = .boolean) ∧ (t = 4 → ty = .long) ∧ (t = 5 → ty = .double) ∧ (t = 6 → ∃ tk tw, xae k = some (tk, tw) ∧ ty = .object (xcl tk) ∧ tk < 60) := by
  have hk := xtc_lt k (by rw [ht]; exact h0)
  have h1 := List.all_eq_true.mp xtc_at k (List.mem_range.mpr hk)
  split at h1
  · exact absurd ((Nat.eq_of_beq_eq_true h1).symm.trans ht).symm h0
  · rename_i ty hty
    rw [Bool.and_eq_true, List.isEmpty_iff] at h1
    refine ⟨hk, h1.1, ty, hty, ?_⟩
    have h2 := h1.2
    split at h2
    all_goals first
      | (have e := (Nat.eq_of_beq_eq_true h2); rw [ht] at e; subst e; simp)
      | skip
    · rw [Bool.and_eq_true] at h2
      have e := Nat.eq_of_beq_eq_true h2.1
      rw [ht] at e
      subst e
      split at h2
      · rename_i C tk tw hae
        rw [Bool.and_eq_true] at h2
        have h3 := h2.2
        refine ⟨by simp, by simp, by simp, by simp, by simp, fun _ => ⟨tk, tw, hae, ?_, Nat.le_of_ble_eq_true h3.2⟩⟩
        have h4 := h3.1
        rw [beq_iff_eq] at h4
        rw [h4]
      · simp at h2
    · cases h2
theorem xw_alen (hx : p.tables.exec = Jvm.exec) (hb : c.code = cc) {k o : Nat} (hW : xWd s A ad M H) (ho : o < xc M k) (ht : xtc k ≠ 0) (hlt : xlen k o M < 2 ^ 31) (hdg : decode cc pc = .ok (.arraylength, 1))
    (kk : W p l e R s m args below meth c H locs cells slots Q (F0 m (pc + 1) ls (.int (Int32.ofNat (xlen k o M)) :: rest))) : W p l e R s m args below meth c H locs cells slots Q (F0 m pc ls (.ref (ad k o) :: rest)) := by
  obtain ⟨hk, -, ty, hty, -⟩ := xat_of rfl ht
  obtain ⟨cell, h1, h2, h3, h4, h5, h6⟩ := (hW k o hk ho).2 ty hty
  exact W.alen hx hb h1 h2 (by rw [h5]) rfl rfl hdg kk
theorem xw_ald (hx : p.tables.exec = Jvm.exec) (hb : c.code = cc) {k o t : Nat} {i : Int32} {ins : Instr} (hW : xWd s A ad M H) (ho : o < xc M k) (ht : xtc k = t) (hin : ¬ (i < 0 ∨ xlen k o M ≤ ix i)) (hi : (ins = .iaload ∧ t = 1) ∨ (ins = .baload ∧ (t = 2 ∨ t = 3)) ∨ (ins = .laload ∧ t = 4) ∨ (ins = .daload ∧ t = 5) ∨ (ins = .aaload ∧ t = 6)) (hdg : decode cc pc = .ok (ins, 1))
    (kk : W p l e R s m args below meth c H locs cells slots Q (F0 m (pc + 1) ls (xav ad M k o (ix i) :: rest))) : W p l e R s m args below meth c H locs cells slots Q (F0 m pc ls (.int i :: .ref (ad k o) :: rest)) := by
  have h0 : t ≠ 0 := by omega
  obtain ⟨hk, -, ty, hty, t1, t2, t3, t4, t5, t6⟩ := xat_of ht h0
  obtain ⟨cell, h1, h2, h3, h4, h5, h6⟩ := (hW k o hk ho).2 ty hty
  have hin' : ¬ (i < 0 ∨ cell.slots.size ≤ i.toNatClampNeg) := by rw [h5]; exact hin
  have hv := h6 (ix i) (Nat.not_le.mp fun q => hin (Or.inr q))
  rcases hi with ⟨rfl, h⟩ | ⟨rfl, h | h⟩ | ⟨rfl, h⟩ | ⟨rfl, h⟩ | ⟨rfl, h⟩
  · exact W.iald hx hb h1 (t1 h ▸ h2) h3 hin' hv rfl rfl hdg kk
  · exact W.bald hx hb h1 (t2 h ▸ h2) h3 hin' hv rfl rfl hdg kk
  · exact W.zald hx hb h1 (t3 h ▸ h2) h3 hin' hv rfl rfl hdg kk
  · exact W.lald hx hb h1 (t4 h ▸ h2) h3 hin' hv rfl rfl hdg kk
  · exact W.dald hx hb h1 (t5 h ▸ h2) h3 hin' hv rfl rfl hdg kk
  · obtain ⟨tk, tw, -, e, -⟩ := t6 h
    exact W.aald hx hb h1 h2 (by rw [e]; rfl) h3 hin' hv rfl rfl hdg kk
theorem xw_ast (hx : p.tables.exec = Jvm.exec) (hb : c.code = cc) {k o t : Nat} {i : Int32} {ins : Instr} {w v : Value} (hW : xWd s A ad M H) (hP : xAp A ad M) (hS : va_S A H0 H locs) (ho : o < xc M k) (ht : xtc k = t) (hc : xcst k o = false) (hin : ¬ (i < 0 ∨ xlen k o M ≤ ix i)) {M' : xM} (hM : xch M M' k o (ix i)) (hv : xav ad M' k o (ix i) = v)
    (hi : (ins = .iastore ∧ t = 1 ∧ ∃ x, w = .int x ∧ v = .int x) ∨ (ins = .bastore ∧ (t = 2 ∨ t = 3) ∧ ∃ x, w = .int x ∧ v = .int (xnab t x)) ∨ (ins = .lastore ∧ t = 4 ∧ ∃ x, w = .long x ∧ v = .long x) ∨ (ins = .dastore ∧ t = 5 ∧ ∃ x, w = .double x ∧ v = .double x)) (hdg : decode cc pc = .ok (ins, 1))
    (kk : ∀ (H1 : Heap) (locs1 : List Loc), xWd s A ad M' H1 → xAp A ad M' → va_S A H0 H1 locs1 → W p l e R s m args below meth c H1 locs1 cells slots Q (F0 m (pc + 1) ls rest)) : W p l e R s m args below meth c H locs cells slots Q (F0 m pc ls (w :: .int i :: .ref (ad k o) :: rest)) := by
  have h0 : t ≠ 0 := by omega
  obtain ⟨hk, hfd, ty, hty, t1, t2, t3, t4, t5, -⟩ := xat_of ht h0
  obtain ⟨cell, h1, h2, h3, h4, h5, h6⟩ := (hW k o hk ho).2 ty hty
  have hA : A (ad k o) := (hP.1 k o hk ho).mpr hc
  have hin' : ¬ (i < 0 ∨ cell.slots.size ≤ i.toNatClampNeg) := by rw [h5]; exact hin
  have hlt : ix i < cell.slots.size := Nat.not_le.mp fun q => hin' (Or.inr q)
  rcases hi with ⟨rfl, h, x, rfl, rfl⟩ | ⟨rfl, h | h, x, rfl, rfl⟩ | ⟨rfl, h, x, rfl, rfl⟩ | ⟨rfl, h, x, rfl, rfl⟩
  · exact W.iast hx hb h1 (t1 h ▸ h2) h3 hin' rfl rfl hdg fun H1 e1 e2 e3 => kk H1 _ (xWd_ast hW hP hk ho hc hM hfd hty h1 hlt hv e1 e3) (hP.ch hM.1) (hS.put e2 e3 hA)
  · subst h
    exact W.bast hx hb h1 (t2 rfl ▸ h2) h3 hin' rfl rfl hdg fun H1 e1 e2 e3 => kk H1 _ (xWd_ast hW hP hk ho hc hM hfd hty h1 hlt hv e1 e3) (hP.ch hM.1) (hS.put e2 e3 hA)
  · subst h
    exact W.zast hx hb h1 (t3 rfl ▸ h2) h3 hin' rfl rfl hdg fun H1 e1 e2 e3 => kk H1 _ (xWd_ast hW hP hk ho hc hM hfd hty h1 hlt hv e1 e3) (hP.ch hM.1) (hS.put e2 e3 hA)
  · exact W.last hx hb h1 (t4 h ▸ h2) h3 hin' rfl rfl hdg fun H1 e1 e2 e3 => kk H1 _ (xWd_ast hW hP hk ho hc hM hfd hty h1 hlt hv e1 e3) (hP.ch hM.1) (hS.put e2 e3 hA)
  · exact W.dast hx hb h1 (t5 h ▸ h2) h3 hin' rfl rfl hdg fun H1 e1 e2 e3 => kk H1 _ (xWd_ast hW hP hk ho hc hM hfd hty h1 hlt hv e1 e3) (hP.ch hM.1) (hS.put e2 e3 hA)
theorem xw_aast (hx : p.tables.exec = Jvm.exec) (hb : c.code = cc) (hts : ∀ w ∈ xwA, w.before args s = true) {k o tk tw q : Nat} {i : Int32} (hW : xWd s A ad M H) (hP : xAp A ad M) (hS : va_S A H0 H locs) (ho : o < xc M k) (hae : xae k = some (tk, tw)) (hc : xcst k o = false) (hq : q < xc M tk) (hfq : xfd tk ≠ []) (h43 : tk ≠ 43) (hin : ¬ (i < 0 ∨ xlen k o M ≤ ix i)) {M' : xM} (hM : xch M M' k o (ix i)) (hv : xav ad M' k o (ix i) = .ref (ad tk q)) (ht : xtc k = 6) (hdg : decode cc pc = .ok (.aastore, 1))
    (kk : ∀ (H1 : Heap) (locs1 : List Loc), xWd s A ad M' H1 → xAp A ad M' → va_S A H0 H1 locs1 → W p l e R s m args below meth c H1 locs1 cells slots Q (F0 m (pc + 1) ls rest)) : W p l e R s m args below meth c H locs cells slots Q (F0 m pc ls (.ref (ad tk q) :: .int i :: .ref (ad k o) :: rest)) := by
  obtain ⟨hk, hfd, ty, hty, -, -, -, -, -, t6⟩ := xat_of ht (by decide)
  obtain ⟨tk', tw', hae', rfl, htk⟩ := t6 rfl
  cases hae.symm.trans hae'
  obtain ⟨cell, h1, h2, h3, h4, h5, h6⟩ := (hW k o hk ho).2 _ hty
  have hA : A (ad k o) := (hP.1 k o hk ho).mpr hc
  obtain ⟨hvm, -, hC⟩ := h4 hA
  obtain ⟨kA, comp, g1, g2, g3⟩ := hC _ rfl
  have hin' : ¬ i < 0 ∧ i.toNatClampNeg < cell.slots.size := by rw [h5]; exact ⟨fun z => hin (Or.inl z), Nat.not_le.mp fun z => hin (Or.inr z)⟩
  obtain ⟨cv, v1, v2, v3, -, v5, -⟩ := (hW tk q htk hq).1 hfq
  have hcomp : comp = cv.cls := Option.some.inj (g3.symm.trans v5)
  cases hfd0 : (xfd tk)[0]? with
  | none =>
    cases hz : xfd tk with
    | nil => exact absurd hz hfq
    | cons a r => rw [hz] at hfd0; simp at hfd0
  | some d0 =>
    obtain ⟨q1, -⟩ := xins_of htk h43 hfd0
    obtain ⟨cC, kC, i1, i2, i3⟩ := xins q1 hts
    cases v5.symm.trans i1
    subst hcomp
    refine W.aast hx hb h1 (fun z hz => by rw [hvm] at hz; cases hz) (by rw [hvm]; exact fun z => by cases z) g1 g2 rfl i2 hin' v1 (fun z hz => by rw [hz] at v2; cases v2) i2 (va_assign ⟨i1, kC, i2, i3⟩) rfl rfl hdg fun H1 e1 e2 e3 => ?_
    exact kk H1 _ (xWd_ast hW hP hk ho hc hM hfd hty h1 hin'.2 hv e1 e3) (hP.ch hM.1) (hS.put e2 e3 hA)
end XST
