/-! THE END OF A FRAME: returns and throws; what a method owes. -/
/-- the exceptions -/
def xEn (E : Nat) : String := match E with
  | 0 => "java/lang/IllegalStateException"
  | 1 => "java/lang/IllegalArgumentException"
  | _ => "java/lang/IndexOutOfBoundsException"
/-- what a frame leaves -/
def xPo (A : Nat → Prop) (ad0 : xA) (M0 : xM) (ad : xA) (M : xM) (st t : State) : Prop :=
  (∀ k o, k < 60 → k ≠ 51 → o < xc M0 k → ad k o = ad0 k o) ∧ xWd t A ad M t.heap ∧ xAp A ad M ∧ xWT M ∧ xBt M ∧ va_F A st t
def xQc (A : Nat → Prop) (ad0 : xA) (M0 : xM) (rg : Option (List (Nat × Nat))) (r : (Option xV ⊕ Nat) × xM) : Array Value → State → Outcome → State → Prop := fun _ st o t =>
  ∃ (v : Option xV) (ad : xA), r.1 = .inl v ∧ o = .returned (v.map (xenc ad)) ∧ (∀ x, v = some x → xvok rg r.2 x) ∧ xPo A ad0 M0 ad r.2 st t
def xXC (A : Nat → Prop) (ad0 : xA) (M0 : xM) (r : (Option xV ⊕ Nat) × xM) : String → State → State → Prop := fun E st t =>
  ∃ (k : Nat) (ad : xA), r.1 = .inr k ∧ E = xEn k ∧ k < 4 ∧ xPo A ad0 M0 ad r.2 st t
theorem xPo_of {s t : State} {A : Nat → Prop} {ad0 ad : xA} {M0 M : xM} {H : Heap} {locs : List Loc} (hb : ∀ k o, k < 60 → k ≠ 51 → o < xc M0 k → ad k o = ad0 k o) (I : xInv s A ad M s.heap H locs) (ht : t.heap = H) (hv : s.vm.Alike t.vm) : xPo A ad0 M0 ad M s t :=
  ⟨hb, by rw [ht]; exact I.1.moved hv, I.2.1, I.2.2.1, I.2.2.2.1, by rw [ht]; exact I.2.2.2.2.2.1, fun q h1 h2 => by rw [ht]; exact I.2.2.2.2.2.2.1 q h1 h2⟩
section NR
variable {p : Program} {l : Launch} {e : Env} {R : Room} {s : State} {m : MethodId} {args : Array Value} {below : List Frame} {meth : Method} {c : Code} {H : Heap} {locs : List Loc} {cells slots : Nat}
theorem xw_nret {cc : ByteArray} {Qc : Array Value → State → Outcome → State → Prop} {free : Addr → Prop} {v w : Int32} {ty : FieldType} (hexec : p.tables.exec = Jvm.exec) (hb : c.code = cc) (hr : meth.sig.returnType = some ty) (hn : narrow ty (.int v) = .int w)
    (hq : ∀ t : State, t.heap = H → s.WarmedH t.vm → Qc args s (.returned (some (.int w))) t) (hf : ∀ q ∈ locs, free q.base)
    {pc : Nat} {ls : Array Slot} (hdg : decode cc pc = .ok (.ireturn, 1)) (hlocks : meth.locks = false) : W p l e R s m args below meth c H locs cells slots (MQ below Qc args s cells slots free) (F0 m pc ls [.int v]) := by
  intro T hT X
  have hlocks : meth.locks = false := hlocks
  obtain ⟨fs, hret, hrun, hended, hW, hframe⟩ := X.leave (v := some (.int w)) (fun h => by rw [hr] at h; cases h)
  have hmeth' : T.vm.method? m = some meth := X.method'
  refine ⟨T.setFrames fs, ?_, .returned (some (.int w)), hrun, hended, hq _ hT hW, locs, ⟨⟨_, rfl⟩, hW, hframe⟩, hf⟩
  jvm_step X.here [X.here.top, hexec, hb, hdg, hmeth', hr, hn]
  (try refine ⟨rfl, ?_⟩); (try refine ⟨rfl, ?_⟩)
  first | (intro acts; rw [hret _ acts rfl rfl rfl]) | rw [hret _ _ rfl rfl rfl]
  exact Steps.refl _
end NR
theorem xnar_char (x : Int32) : narrow .char (.int x) = .int (xnar 2 x) := by
  show Value.int _ = Value.int _
  refine congrArg Value.int ?_
  show x.toUInt32.toUInt16.toUInt32.toInt32 = (x.toUInt32 % 65536).toInt32
  refine congrArg UInt32.toInt32 ?_
  exact UInt32.toNat_inj.mp (by simp)
theorem xrt_obj {t : FieldType} (h : t.isReference = true) : (∃ n, t = .object n) ∨ ∃ u, t = .array u := by
  cases t <;> first | (cases h; done) | exact Or.inl ⟨_, rfl⟩ | exact Or.inr ⟨_, rfl⟩
def xrets (i : Instr) : Bool := match i with
  | .ireturn => true
  | .lreturn => true
  | .freturn => true
  | .dreturn => true
  | .areturn => true
  | .return_ => true
  | _ => false
set_option maxHeartbeats 4000000 in
/-- returns -/
theorem xret_W {p : Program} {l : Launch} {e : Env} {R : Room} {s : State} {m : MethodId} {args : Array Value} {below : List Frame} {meth : Method} {c : Code} {H : Heap} {locs : List Loc} {cells slots : Nat} {A : Nat → Prop} {ad ad0 : xA} {tab : Nat → List xE} {ml : Nat → Nat} {Ec En : xP}
    {y pc nx fc fs : Nat} {i : Instr} {aux : List Nat} {kc : Int32} {C cs : List xE} {ls st : List xV} {M M0 : xM} {r : (Option xV ⊕ Nat) × xM} {la : Array Slot} {rg : Option (List (Nat × Nat))}
    (F : xFx y p l s m args meth c) (I : xInv s A ad M s.heap H locs) (vs : ∀ v ∈ st, xvok rg M v) (hb : ∀ k o, k < 60 → k ≠ 51 → o < xc M0 k → ad k o = ad0 k o)
    (hok : xok y C (pc, i, aux, kc) nx = true) (hi : xrets i = true) (h : xctl tab ml Ec En i aux kc C cs ls st M = some r) (hc : cells + gn r.2 100 0 0 ≤ fc + gn M 100 0 0) (hs : slots + gn r.2 100 0 1 ≤ fs + gn M 100 0 1) :
    W p l e R s m args below meth c H locs cells slots (vx_MQ below (xQc A ad0 M0 rg r) (xXC A ad0 M0 r) args s fc fs A) (F0 m pc la (st.map (xenc ad))) := by
  obtain ⟨hx, hbc, hml, hown, hts, hlk, hrt, hnm, htr⟩ := F
  have hfr : ∀ q ∈ locs, A q.base := I.2.2.2.2.2.2.2
  cases i with
  | ireturn =>
    simp only [xctl] at h
    split at h
    · cases h
      obtain ⟨hd, hX⟩ := xok_dec2 hok
      refine W.widen (k := fc) (n := fs) (by simp only at hc; omega) (by simp only at hs; omega) (vx_ret (W.iret hx hbc (hrt.trans (of_decide_eq_true hX)) (fun t ht hv => ⟨_, ad, rfl, rfl, fun x hx => (by cases hx; trivial), xPo_of hb I ht hv.alike⟩) hfr hd hlk))
    · rename_i t
      cases h
      obtain ⟨hd, hX⟩ := xok_dec2 hok
      refine W.widen (k := fc) (n := fs) (by simp only at hc; omega) (by simp only at hs; omega) (vx_ret ?_)
      simp only [xokX] at hX
      split at hX
      · rename_i e; cases e
      · rename_i e; cases e
        exact xw_nret hx hbc (hrt.trans (of_decide_eq_true hX)) rfl (fun t' ht hv => ⟨_, ad, rfl, rfl, fun x hx => (by cases hx; trivial), xPo_of hb I ht hv.alike⟩) hfr hd hlk
      · rename_i e; cases e
        exact xw_nret hx hbc (hrt.trans (of_decide_eq_true hX)) (xnar_char _) (fun t' ht hv => ⟨_, ad, rfl, rfl, fun x hx => (by cases hx; trivial), xPo_of hb I ht hv.alike⟩) hfr hd hlk
      · rename_i e; cases e
        exact xw_nret hx hbc (hrt.trans (of_decide_eq_true hX)) rfl (fun t' ht hv => ⟨_, ad, rfl, rfl, fun x hx => (by cases hx; trivial), xPo_of hb I ht hv.alike⟩) hfr hd hlk
      · cases hX
    · cases h
  | lreturn =>
    simp only [xctl] at h
    split at h
    · cases h
      obtain ⟨hd, hX⟩ := xok_dec2 hok
      refine W.widen (k := fc) (n := fs) (by simp only at hc; omega) (by simp only at hs; omega) (vx_ret (W.lret hx hbc (hrt.trans (of_decide_eq_true hX)) (fun t ht hv => ⟨_, ad, rfl, rfl, fun x hx => (by cases hx; trivial), xPo_of hb I ht hv.alike⟩) hfr hd hlk))
    · cases h
  | freturn =>
    simp only [xctl] at h
    split at h
    · cases h
      obtain ⟨hd, hX⟩ := xok_dec2 hok
      refine W.widen (k := fc) (n := fs) (by simp only at hc; omega) (by simp only at hs; omega) (vx_ret (W.fret hx hbc (hrt.trans (of_decide_eq_true hX)) (fun t ht hv => ⟨_, ad, rfl, rfl, fun x hx => (by cases hx; trivial), xPo_of hb I ht hv.alike⟩) hfr hd hlk))
    · cases h
  | dreturn =>
    simp only [xctl] at h
    split at h
    · cases h
      obtain ⟨hd, hX⟩ := xok_dec2 hok
      refine W.widen (k := fc) (n := fs) (by simp only at hc; omega) (by simp only at hs; omega) (vx_ret (W.dret hx hbc (hrt.trans (of_decide_eq_true hX)) (fun t ht hv => ⟨_, ad, rfl, rfl, fun x hx => (by cases hx; trivial), xPo_of hb I ht hv.alike⟩) hfr hd hlk))
    · cases h
  | areturn =>
    simp only [xctl] at h
    split at h
    · cases h
      obtain ⟨hd, hX⟩ := xok_dec2 hok
      simp only [xokX] at hX
      split at hX
      · rename_i rt hrt2
        refine W.widen (k := fc) (n := fs) (by simp only at hc; omega) (by simp only at hs; omega) (vx_ret (W.aret hx hbc (hrt.trans hrt2) (xrt_obj hX) (xenc_rn ad _ _) (fun t ht hv => ⟨_, ad, rfl, rfl, fun x hx => (by cases hx; exact vs _ List.mem_cons_self), xPo_of hb I ht hv.alike⟩) hfr hd hlk))
      · cases hX
    · cases h
  | return_ =>
    simp only [xctl] at h
    split at h
    · cases h
      obtain ⟨hd, hX⟩ := xok_dec2 hok
      refine W.widen (k := fc) (n := fs) (by simp only at hc; omega) (by simp only at hs; omega) (vx_ret (W.vret hx hbc (hrt.trans (of_decide_eq_true hX)) (fun t ht hv => ⟨_, ad, rfl, rfl, fun x hx => (by cases hx), xPo_of hb I ht hv.alike⟩) hfr hd hlk))
    · cases h
  | _ => exact absurd hi (by simp [xrets])
