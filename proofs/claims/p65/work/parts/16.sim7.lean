/-! THE INSTRUCTIONS THAT JUMP, LOOK, STORE INTO ARRAYS, MAKE THINGS, over the world of a store. -/
theorem xok_dec2 {y pc nx n : Nat} {i : Instr} {e X : Bool} (h : (xdec y pc i n && ((e || Nat.beq nx (pc + n)) && X)) = true) : decode (xCode y) pc = .ok (i, n) ∧ X = true := by
  rw [Bool.and_eq_true, Bool.and_eq_true] at h
  exact ⟨of_decide_eq_true h.1, h.2.2⟩
/-- addresses of the same things -/
def xSm (ad ad' : xA) (M : xM) : Prop := (∀ k o, k < 60 → k ≠ 51 → o < xc M k → ad' k o = ad k o) ∧ ∀ o, ad' 60 o = ad 60 o
theorem xSm.refl (ad : xA) (M : xM) : xSm ad ad M := ⟨fun _ _ _ _ _ => rfl, fun _ => rfl⟩
theorem xSm.trans {ad ad1 ad2 : xA} {M M1 : xM} (h : xSm ad ad1 M) (hm : xmon M M1) (h1 : xSm ad1 ad2 M1) : xSm ad ad2 M := ⟨fun k o hk h5 ho => (h1.1 k o hk h5 (Nat.lt_of_lt_of_le ho (hm.1 k))).trans (h.1 k o hk h5 ho), fun o => (h1.2 o).trans (h.2 o)⟩
theorem xenc_sm {ad ad' : xA} {M : xM} {rg : Option (List (Nat × Nat))} {v : xV} (h : xSm ad ad' M) (hv : xvok rg M v) : xenc ad' v = xenc ad v := by
  obtain ⟨k, w⟩ := v
  cases w with
  | ref o =>
    by_cases h51 : k = 51
    · subst h51
      unfold xenc
      simp only
      rw [h.2 o]
    · rcases hv with q | ⟨q1, q2, -⟩
      · exact absurd q h51
      · rw [xenc_ref h51, xenc_ref h51, h.1 k o q1 h51 q2]
  | _ => rfl
theorem xmap_sm {ad ad' : xA} {M : xM} {rg : Option (List (Nat × Nat))} {st : List xV} (h : xSm ad ad' M) (hv : ∀ v ∈ st, xvok rg M v) : st.map (xenc ad') = st.map (xenc ad) := List.map_congr_left fun v hm => xenc_sm h (hv v hm)
theorem xSm_up {ad : xA} {M : xM} {k a : Nat} (hk : k < 60) : xSm ad (xup ad k (xc M k) a) M := by
  refine ⟨fun k' o' _ _ ho => xup_ne (fun q => ?_), fun o' => xup_ne (fun q => Nat.lt_irrefl 60 (by rw [← q.1] at hk; exact hk))⟩
  rw [q.1] at ho
  rw [q.2] at ho
  omega
/-- what a switch answers -/
theorem xsw_spec {f : Nat → xR} {x : Int32} {d : Nat} : ∀ (ts : List Nat) (k : Nat), k + ts.length < 1000 → (∃ (j : Nat) (t : Nat), ts[j]? = some t ∧ x.toInt = ((k + j : Nat) : Int) ∧ xsw f x d k ts = f t) ∨ ((x.toInt < (k : Int) ∨ ((k + ts.length : Nat) : Int) ≤ x.toInt) ∧ xsw f x d k ts = f d)
  | [], k, _ => Or.inr ⟨by simp only [List.length_nil, Nat.add_zero]; omega, rfl⟩
  | t :: r, k, hl => by
    have hk : (Int32.ofNat k).toInt = (k : Int) := nI_toInt (by simp at hl; omega)
    by_cases h : x = Int32.ofNat k
    · exact Or.inl ⟨0, t, rfl, by rw [h, hk]; rfl, if_pos h⟩
    · have e : xsw f x d k (t :: r) = xsw f x d (k + 1) r := if_neg h
      have hne : x.toInt ≠ (k : Int) := fun q => h (Int32.toInt_inj.mp (q.trans hk.symm))
      rcases xsw_spec (f := f) (x := x) (d := d) r (k + 1) (by simp at hl ⊢; omega) with ⟨j, t', h1, h2, h3⟩ | ⟨h1, h2⟩
      · exact Or.inl ⟨j + 1, t', by simpa using h1, by rw [h2]; omega, e.trans h3⟩
      · refine Or.inr ⟨?_, e.trans h2⟩
        simp only [List.length_cons]
        omega
/-- array stores -/
theorem xrest_ast {M M' : xM} {k o j t : Nat} (hk : k < 60) (ht : xtc k = t) (h0 : t ≠ 0) (hM : xch M M' k o j) (hT : xWT M) (hB : xBt M) (hK : xK M) (hae : ∀ tk tw, xae k = some (tk, tw) → xf M' k o j → j + tw < xc M tk) (hby : t = 2 → fits .byte (.int (gi M' k o j)) = true) : xWT M' ∧ xBt M' ∧ xK M' := by
  obtain ⟨-, hfd, -⟩ := xat_of ht h0
  refine ⟨⟨fun k' o' f' t tk tw hk' ho' hd' ht hf => ?_, fun k' o' tk tw j' hk' ho' hae' hj hf => ?_⟩, ⟨fun k' o' j' ht' ho' => ?_, fun k' o' hy hk' ho' => ?_⟩, ?_⟩
  · rw [hM.1] at ho' ⊢
    have hne : k' ≠ k := fun e => by rw [e, hfd] at hd'; simp at hd'
    obtain ⟨q1, q2⟩ := hM.2.1 k' o' f' hk' (fun q => hne q.1)
    have e3 : gn M' k' o' f' = gn M k' o' f' := by unfold gn; rw [q1]
    rw [e3]
    exact hT.1 k' o' f' t tk tw hk' ho' hd' ht (by show gn M (200 + k') o' f' = 1; rw [← q2]; exact hf)
  · rw [hM.1] at ho' ⊢
    by_cases e : k' = k ∧ o' = o ∧ j' = j
    · obtain ⟨rfl, rfl, rfl⟩ := e
      exact hae tk tw hae' hf
    · obtain ⟨-, q2⟩ := hM.2.1 k' o' j' hk' e
      exact hT.2 k' o' tk tw j' hk' ho' hae' hj (by show gn M (200 + k') o' j' = 1; rw [← q2]; exact hf)
  · rw [hM.1] at ho'
    by_cases e : k' = k ∧ o' = o ∧ j' = j
    · obtain ⟨rfl, rfl, rfl⟩ := e
      exact hby (ht.symm.trans ht')
    · obtain ⟨q1, -⟩ := hM.2.1 k' o' j' (xtc_lt k' (by rw [ht']; decide)) e
      have e3 : gi M' k' o' j' = gi M k' o' j' := by unfold gi; rw [q1]
      rw [e3]
      exact hB.1 k' o' j' ht' ho'
  · rw [hM.1] at ho'
    rw [hM.2.2 k' o' hk']
    exact hB.2 k' o' hy hk' ho'
  · obtain ⟨a, b, c, e1, e2, e3, e4, e5⟩ := hK
    exact ⟨by rw [hM.1]; exact a, by rw [hM.1]; exact b, by rw [hM.1]; exact c, by rw [hM.1]; exact e1, by rw [hM.1]; exact e2, by rw [hM.1]; exact e3, by rw [hM.1]; exact e4, by rw [hM.1]; exact e5⟩
theorem xnab_fit (x : Int32) : fits .byte (.int (xnab 2 x)) = true := by
  show fits .byte (.int x.toInt8.toInt32) = true
  exact pk_fb x
/-- arrays of references -/
theorem xae_all : (List.range 60).all (fun k => match xae k with
  | none => true
  | some (tk, _) => Nat.beq (xtc k) 6 && (!xdyn k && (Nat.blt tk 60 && (!Nat.beq tk 51 && (Nat.beq tk 43 || (!(xfd tk).isEmpty && xmut k 0 && !Nat.beq k 46 && !Nat.beq k 47)))))) = true := by decide +kernel
theorem xae_lt {k : Nat} {q : Nat × Nat} (h : xae k = some q) : k < 60 := by
  unfold xae at h
  split at h <;> first | omega | cases h
theorem xae_facts {k tk tw : Nat} (h : xae k = some (tk, tw)) : k < 60 ∧ xtc k = 6 ∧ (∀ {o : Nat} {M : xM}, xlen k o M = xnth xlens k) ∧ k ≠ 51 ∧ tk < 60 ∧ tk ≠ 51 := by
  have hk := xae_lt h
  have h1 := List.all_eq_true.mp xae_all k (List.mem_range.mpr hk)
  rw [h] at h1
  simp only [Bool.and_eq_true] at h1
  obtain ⟨q1, q2, q3, q4, -⟩ := h1
  refine ⟨hk, Nat.eq_of_beq_eq_true q1, fun {o M} => ?_, fun e => ?_, Nat.le_of_ble_eq_true q3, fun e => ?_⟩
  · unfold xlen
    have : xdyn k = false := by simpa using q2
    rw [this]
  · rw [e] at h; cases h
  · rw [e] at q4; cases q4
theorem xae_mut {k tk tw : Nat} (h : xae k = some (tk, tw)) (h43 : tk ≠ 43) : xfd tk ≠ [] ∧ ∀ o, xcst k o = false := by
  have hk := xae_lt h
  have h1 := List.all_eq_true.mp xae_all k (List.mem_range.mpr hk)
  rw [h] at h1
  simp only [Bool.and_eq_true] at h1
  obtain ⟨-, -, -, -, q5⟩ := h1
  rcases (Bool.or_eq_true _ _).mp q5 with z | z
  · exact absurd (Nat.eq_of_beq_eq_true z) h43
  · simp only [Bool.and_eq_true] at z
    obtain ⟨⟨⟨z1, z2⟩, z3⟩, z4⟩ := z
    refine ⟨fun e => (by rw [e] at z1; cases z1), fun o => ?_⟩
    have h46 : k ≠ 46 := fun e => by rw [e] at z3; cases z3
    have h47 : k ≠ 47 := fun e => by rw [e] at z4; cases z4
    unfold xcst
    unfold xmut at z2 ⊢
    split <;> simp_all
theorem xav_ref {ad : xA} {M : xM} {k o j tk tw : Nat} (hk : k < 60) (hae : xae k = some (tk, tw)) (hf : xf M k o j) : xav ad M k o j = .ref (ad tk (j + tw)) := by
  obtain ⟨-, ht, -⟩ := xae_facts hae
  obtain ⟨-, -, ty, e1, -, -, -, -, -, a6⟩ := xat_of ht (by decide)
  obtain ⟨tk', tw', e2, e3, -⟩ := a6 rfl
  cases hae.symm.trans e2
  unfold xav
  rw [e1, e3]
  simp only [hae]
  rw [if_pos hf]
theorem xnew_cells {M : xM} {k n : Nat} (hk : k < 60) : gn (xnew M k n) 100 0 0 = gn M 100 0 0 + 1 := by
  unfold xnew xbump
  rw [gn_xst, if_neg (by omega), gn_xst, if_pos ⟨rfl, rfl, rfl⟩]
  show gn _ 100 0 0 + 1 = _
  rw [gn_xst_ne (by omega), gn_xclr_ne (by omega) (by omega)]
theorem xnew_slots {M : xM} {k n : Nat} (hk : k < 60) : gn (xnew M k n) 100 0 1 = gn M 100 0 1 + n := by
  unfold xnew xbump
  rw [gn_xst, if_pos ⟨rfl, rfl, rfl⟩]
  show gn _ 100 0 1 + n = _
  rw [gn_xst_ne (by omega), gn_xclr_ne (by omega) (by omega)]
theorem xae_of_at {k : Nat} {ty : FieldType} (hk : k < 60) (hty : xat k = some ty) (hn : ∀ C, ty ≠ .object C) : xae k = none := by
  have h1 : (List.range 60).all (fun k => (xae k).isNone || (match xat k with
    | some (.object _) => true
    | _ => false)) = true := by decide +kernel
  have h2 := List.all_eq_true.mp h1 k (List.mem_range.mpr hk)
  rcases (Bool.or_eq_true _ _).mp h2 with h | h
  · simpa using h
  · rw [hty] at h
    cases ty <;> first | (cases h; done) | exact absurd rfl (hn _)
/-- calls, and what ends a frame, apart -/
def xapart_i (i : Instr) (aux : List Nat) : Bool := match i with
  | .invokevirtual _ => true
  | .invokestatic _ => true
  | .invokespecial _ => true
  | .ireturn => true
  | .lreturn => true
  | .freturn => true
  | .dreturn => true
  | .areturn => true
  | .return_ => true
  | .new _ => Nat.blt aux.length 3
  | _ => false
set_option maxHeartbeats 8000000 in
theorem xctl_W {p : Program} {l : Launch} {e : Env} {R : Room} {s : State} {m : MethodId} {args : Array Value} {below : List Frame} {meth : Method} {c : Code} {H : Heap} {locs : List Loc} {cells slots : Nat} {Q : State → Prop} {A : Nat → Prop} {ad : xA} {tab : Nat → List xE} {ml : Nat → Nat} {Ec En : xP}
    {y pc fc fs : Nat} {i : Instr} {aux : List Nat} {kc : Int32} {C cs : List xE} {ls st : List xV} {M : xM} {r : (Option xV ⊕ Nat) × xM} {la : Array Slot} {rg : Option (List (Nat × Nat))}
    (F : xFx y p l s m args meth c) (Z : xCs A ad s) (I : xInv s A ad M s.heap H locs) (hl : xlr ad (xml y) la ls) (vl : ∀ v ∈ ls, xvok rg M v) (vs : ∀ v ∈ st, xvok rg M v) (hr : xrok rg M) (hrg : xreg y = false → ∃ L, rg = some L) (hrg2 : xreg y = true → rg = none) (hAA : ∀ q, s.heap.size ≤ q → A q)
    (hok : xok y C (pc, i, aux, kc) (xpc cs) = true) (hcs : ∃ j, cs = C.drop j) (hap : xapart_i i aux = false) (h : xctl tab ml Ec En i aux kc C cs ls st M = some r)
    (hmn : ∀ cs' ls' st' M', En C cs' ls' st' M' = some r → xmon M' r.2) (hc : cells + gn r.2 100 0 0 ≤ fc + gn M 100 0 0) (hs : slots + gn r.2 100 0 1 ≤ fs + gn M 100 0 1) (hfc : fc ≤ R.cells) (hfs : fs ≤ R.slots)
    (kk : ∀ (cs' : List xE) (ls' st' : List xV) (M' : xM) (ad' : xA) (H1 : Heap) (locs1 : List Loc) (la1 : Array Slot) (cells1 slots1 : Nat), En C cs' ls' st' M' = some r → (∃ j, cs' = C.drop j) → xSm ad ad' M → xmon M M' → xInv s A ad' M' s.heap H1 locs1 → xlr ad' (xml y) la1 ls' → (∀ v ∈ ls', xvok rg M' v) → (∀ v ∈ st', xvok rg M' v) → cells1 + gn r.2 100 0 0 ≤ fc + gn M' 100 0 0 → slots1 + gn r.2 100 0 1 ≤ fs + gn M' 100 0 1 → W p l e R s m args below meth c H1 locs1 cells1 slots1 Q (F0 m (xpc cs') la1 (st'.map (xenc ad')))) :
    W p l e R s m args below meth c H locs cells slots Q (F0 m pc la (st.map (xenc ad))) := by
  obtain ⟨hx, hb, hml, hown, hts, hlk, hrt, hnm, htr⟩ := F
  have kp : ∀ (cs' : List xE) (st' : List xV), En C cs' ls st' M = some r → (∃ j, cs' = C.drop j) → (∀ v ∈ st', xvok rg M v) → W p l e R s m args below meth c H locs cells slots Q (F0 m (xpc cs') la (st'.map (xenc ad))) := fun cs' st' h1 h2 h3 => kk cs' ls st' M ad H locs la cells slots h1 h2 (xSm.refl ad M) (xmon_refl M) I hl vl h3 hc hs
  have hj : ∀ {off : Int}, xjmp C pc off aux = true → (pc : Int) + off = (xpc (C.drop (aux.headD 0)) : Int) := by
    intro off hX
    unfold xjmp at hX
    split at hX
    · exact of_decide_eq_true hX
    · cases hX
  cases i with
  | ifnonnull off =>
    simp only [xctl] at h
    split at h
    · rename_i k o st2
      obtain ⟨hg, h2⟩ := xgd_some h
      obtain ⟨hd, hX⟩ := xok_dec2 hok
      rw [List.map_cons, xenc_ref (fun e => by rw [e] at hg; cases hg)]
      exact lv_ifnonnull hx hb hd (hj hX) (kp _ _ h2 ⟨_, rfl⟩ (xpop vs))
    · cases h
  | goto off =>
    simp only [xctl] at h
    obtain ⟨hd, hX⟩ := xok_dec2 hok
    exact lv_goto hx hb hd (hj hX) (kp _ _ h ⟨_, rfl⟩ vs)
  | ifCond cc off =>
    simp only [xctl] at h
    split at h
    · obtain ⟨hd, hX⟩ := xok_dec2 hok
      obtain ⟨-, hnx, -⟩ := xok_dec (e := false) hok rfl
      have vs2 := xpop vs
      have fall : ∀ st', En C cs ls st' M = some r → (∀ v ∈ st', xvok rg M v) → W p l e R s m args below meth c H locs cells slots Q (F0 m (pc + 3) la (st'.map (xenc ad))) := fun st' h1 h2 => by
        have := kp cs st' h1 hcs h2
        rw [hnx] at this
        exact this
      cases cc with
      | eq => exact lv_if_eq hx hb hd (hj hX) (fun h1 => kp _ _ (by simpa only [if_pos h1] using h) ⟨_, rfl⟩ vs2) (fun h1 => fall _ (by simpa only [if_neg h1] using h) vs2)
      | ne => exact lv_if_ne hx hb hd (hj hX) (fun h1 => kp _ _ (by simpa only [if_neg h1] using h) ⟨_, rfl⟩ vs2) (fun h1 => fall _ (by simpa only [if_pos h1] using h) vs2)
      | lt => exact lv_if_lt hx hb hd (hj hX) (fun h1 => kp _ _ (by simpa only [if_pos h1] using h) ⟨_, rfl⟩ vs2) (fun h1 => fall _ (by simpa only [if_neg h1] using h) vs2)
      | ge => exact lv_if_ge hx hb hd (hj hX) (fun h1 => kp _ _ (by simpa only [if_neg (Int32.not_lt.mpr h1)] using h) ⟨_, rfl⟩ vs2) (fun h1 => fall _ (by simpa only [if_pos (Int32.not_le.mp h1)] using h) vs2)
      | gt => exact lv_if_gt hx hb hd (hj hX) (fun h1 => kp _ _ (by simpa only [if_pos h1] using h) ⟨_, rfl⟩ vs2) (fun h1 => fall _ (by simpa only [if_neg h1] using h) vs2)
      | le => exact lv_if_le hx hb hd (hj hX) (fun h1 => kp _ _ (by simpa only [if_neg (Int32.not_lt.mpr h1)] using h) ⟨_, rfl⟩ vs2) (fun h1 => fall _ (by simpa only [if_pos (Int32.not_le.mp h1)] using h) vs2)
    · cases h
  | if_icmp cc off =>
    simp only [xctl] at h
    split at h
    · obtain ⟨hd, hX⟩ := xok_dec2 hok
      obtain ⟨-, hnx, -⟩ := xok_dec (e := false) hok rfl
      have vs2 := xpop (xpop vs)
      have fall : ∀ st', En C cs ls st' M = some r → (∀ v ∈ st', xvok rg M v) → W p l e R s m args below meth c H locs cells slots Q (F0 m (pc + 3) la (st'.map (xenc ad))) := fun st' h1 h2 => by
        have := kp cs st' h1 hcs h2
        rw [hnx] at this
        exact this
      cases cc with
      | eq => exact lv_icmp_eq hx hb hd (hj hX) (fun h1 => kp _ _ (by simpa only [if_pos h1] using h) ⟨_, rfl⟩ vs2) (fun h1 => fall _ (by simpa only [if_neg h1] using h) vs2)
      | ne => exact lv_icmp_ne hx hb hd (hj hX) (fun h1 => kp _ _ (by simpa only [if_neg h1] using h) ⟨_, rfl⟩ vs2) (fun h1 => fall _ (by simpa only [if_pos h1] using h) vs2)
      | lt => exact lv_icmp_lt hx hb hd (hj hX) (fun h1 => kp _ _ (by simpa only [if_pos h1] using h) ⟨_, rfl⟩ vs2) (fun h1 => fall _ (by simpa only [if_neg h1] using h) vs2)
      | ge => exact lv_icmp_ge hx hb hd (hj hX) (fun h1 => kp _ _ (by simpa only [if_neg (Int32.not_lt.mpr h1)] using h) ⟨_, rfl⟩ vs2) (fun h1 => fall _ (by simpa only [if_pos (Int32.not_le.mp h1)] using h) vs2)
      | gt => exact lv_icmp_gt hx hb hd (hj hX) (fun h1 => kp _ _ (by simpa only [if_pos h1] using h) ⟨_, rfl⟩ vs2) (fun h1 => fall _ (by simpa only [if_neg h1] using h) vs2)
      | le => exact lv_icmp_le hx hb hd (hj hX) (fun h1 => kp _ _ (by simpa only [if_neg (Int32.not_lt.mpr h1)] using h) ⟨_, rfl⟩ vs2) (fun h1 => fall _ (by simpa only [if_pos (Int32.not_le.mp h1)] using h) vs2)
    · cases h
  | if_acmp cc off =>
    simp only [xctl] at h
    split at h
    · rename_i ky yy kx xx st2
      split at h
      · rename_i hkk
        obtain ⟨hd, hX⟩ := xok_dec2 hok
        obtain ⟨-, hnx, -⟩ := xok_dec (e := false) hok rfl
        have vs2 := xpop (xpop vs)
        have fall : ∀ st', En C cs ls st' M = some r → (∀ v ∈ st', xvok rg M v) → W p l e R s m args below meth c H locs cells slots Q (F0 m (pc + 3) la (st'.map (xenc ad))) := fun st' h1 h2 => by
          have := kp cs st' h1 hcs h2
          rw [hnx] at this
          exact this
        have h42 : Nat.beq kx 42 = true := by
          cases hz : Nat.beq kx 42 with
          | true => rfl
          | false => rw [hz] at h; cases cc <;> cases h
        have e42 := Nat.eq_of_beq_eq_true h42
        subst e42
        subst hkk
        have hy : yy < xc M 42 := by
          rcases vs _ List.mem_cons_self with q | q
          · cases q
          · exact q.2.1
        have hxx : xx < xc M 42 := by
          rcases vs _ (List.mem_cons_of_mem _ List.mem_cons_self) with q | q
          · cases q
          · exact q.2.1
        have inj : some (ad 42 xx) = some (ad 42 yy) ↔ xx = yy := ⟨fun q => I.2.1.2.2 _ _ hxx hy (Option.some.inj q), fun q => by rw [q]⟩
        rw [List.map_cons, List.map_cons, xenc_ref (by decide), xenc_ref (by decide)]
        cases cc with
        | eq => exact lv_acmp_eq (rx := some (ad 42 xx)) (ry := some (ad 42 yy)) hx hb hd (hj hX) (fun h1 => kp _ _ (by simpa only [h42, if_pos (inj.mp h1)] using h) ⟨_, rfl⟩ vs2) (fun h1 => fall _ (by simpa only [h42, if_neg (fun q => h1 (inj.mpr q))] using h) vs2)
        | ne => exact lv_acmp_ne (rx := some (ad 42 xx)) (ry := some (ad 42 yy)) hx hb hd (hj hX) (fun h1 => kp _ _ (by simpa only [h42, if_neg (fun q => h1 (inj.mpr q))] using h) ⟨_, rfl⟩ vs2) (fun h1 => fall _ (by simpa only [h42, if_pos (inj.mp h1)] using h) vs2)
      · cases h
    · cases h
  | tableswitch dflt lo hi offs =>
    simp only [xctl] at h
    split at h
    · rename_i k x st2 d l ts
      have hok2 : ((match decode (xCode y) pc with
        | .ok (i', _) => decide (i' = Instr.tableswitch dflt lo hi offs)
        | _ => false) && (decide (lo = (l : Int)) && (decide (hi = (l : Int) + ts.length - 1) && (Nat.beq offs.size ts.length && (Nat.blt (l + ts.length) 1000 && (decide ((pc : Int) + dflt = (xpc (C.drop d) : Int)) && (List.range ts.length).all (fun j => match offs[j]?, ts[j]? with
          | some off, some t => decide ((pc : Int) + off = (xpc (C.drop t) : Int))
          | _, _ => false))))))) = true := hok
      simp only [Bool.and_eq_true] at hok2
      obtain ⟨q1, q2, q3, q4, q5, q6, q7⟩ := hok2
      have e2 := of_decide_eq_true q2
      have e3 := of_decide_eq_true q3
      have e5 := Nat.le_of_ble_eq_true q5
      have hd : ∃ n, decode (xCode y) pc = .ok (.tableswitch dflt lo hi offs, n) := by
        split at q1
        · rename_i i' n hdd
          have e9 := of_decide_eq_true q1
          subst e9
          exact ⟨n, hdd⟩
        · cases q1
      obtain ⟨n, hd⟩ := hd
      rcases xsw_spec (f := fun t => En C (C.drop t) ls st2 M) (x := x) (d := d) ts l (by omega) with ⟨j, t, g1, g2, g3⟩ | ⟨g1, g2⟩
      · rw [g3] at h
        have hjl : j < ts.length := (List.getElem?_eq_some_iff.mp g1).1
        have h7 := List.all_eq_true.mp q7 j (List.mem_range.mpr hjl)
        rw [g1] at h7
        cases ho : offs[j]? with
        | none => rw [ho] at h7; cases h7
        | some off =>
          rw [ho] at h7
          refine lv_tableIn hx hb hd (by omega) (by omega) (off := off) ?_ (of_decide_eq_true h7) (kp _ _ h ⟨_, rfl⟩ (xpop vs))
          rw [show (x.toInt - lo).toNat = j by omega]
          exact ho
      · rw [g2] at h
        exact lv_tableOut hx hb hd (by omega) (of_decide_eq_true q6) (kp _ _ h ⟨_, rfl⟩ (xpop vs))
    · cases h
  | idiv =>
    simp only [xctl] at h
    split at h
    · split at h
      · cases h
      · rename_i h0
        obtain ⟨hd, hnx, hX⟩ := xok_dec (e := false) hok rfl
        refine lv_idiv hx hb hd h0 ?_
        have := kp _ _ h hcs (xpush trivial (xpop (xpop vs)))
        rw [hnx] at this
        exact this
    · cases h
  | irem =>
    simp only [xctl] at h
    split at h
    · split at h
      · cases h
      · rename_i h0
        obtain ⟨hd, hnx, hX⟩ := xok_dec (e := false) hok rfl
        refine lv_irem hx hb hd h0 ?_
        have := kp _ _ h hcs (xpush trivial (xpop (xpop vs)))
        rw [hnx] at this
        exact this
    · cases h
  | f2d =>
    simp only [xctl] at h
    split at h
    · split at h
      · rename_i h0
        obtain ⟨hd, hnx, hX⟩ := xok_dec (e := false) hok rfl
        refine lv_f2d hx hb hd h0 ?_
        have := kp _ _ h hcs (xpush trivial (xpop vs))
        rw [hnx] at this
        exact this
      · cases h
    · cases h
  | fdiv =>
    simp only [xctl] at h
    split at h
    · split at h
      · rename_i h0
        obtain ⟨hd, hnx, hX⟩ := xok_dec (e := false) hok rfl
        refine lv_fdiv hx hb hd h0 ?_
        have := kp _ _ h hcs (xpush trivial (xpop (xpop vs)))
        rw [hnx] at this
        exact this
      · cases h
    · cases h
  | ddiv =>
    simp only [xctl] at h
    split at h
    · split at h
      · rename_i h0
        obtain ⟨hd, hnx, hX⟩ := xok_dec (e := false) hok rfl
        refine lv_ddiv hx hb hd h0 ?_
        have := kp _ _ h hcs (xpush trivial (xpop (xpop vs)))
        rw [hnx] at this
        exact this
      · cases h
    · cases h
  | laload =>
    simp only [xctl] at h
    split at h
    · rename_i ki i k o st2
      obtain ⟨hg, h⟩ := xgd_some h
      obtain ⟨hin, h⟩ := xck_some h
      obtain ⟨hd, hnx, hX⟩ := xok_dec (e := false) hok rfl
      have ht : xtc k = 4 := Nat.eq_of_beq_eq_true hg
      have h51 : k ≠ 51 := fun e9 => by rw [e9] at ht; simp [xtc] at ht
      have ho : o < xc M k := by
        rcases vs _ (List.mem_cons_of_mem _ List.mem_cons_self) with q | q
        · exact absurd q h51
        · exact q.2.1
      rw [List.map_cons, List.map_cons, xenc_ref h51]
      have this := kp _ _ h hcs (xpush trivial (xpop (xpop vs)))
      rw [hnx] at this
      have ev : xav ad M k o (ix i) = .long (gl M k o (ix i)) := by
        obtain ⟨-, -, ty, e1, a1, a2, a3, a4, a5, -⟩ := xat_of ht (by decide)
        unfold xav
        rw [e1, a4 rfl]
      exact xw_ald hx hb I.1 ho ht hin (Or.inr (Or.inr (Or.inl ⟨rfl, rfl⟩))) hd (by rw [ev]; exact this)
    · cases h
  | daload =>
    simp only [xctl] at h
    split at h
    · rename_i ki i k o st2
      obtain ⟨hg, h⟩ := xgd_some h
      obtain ⟨hin, h⟩ := xck_some h
      obtain ⟨hd, hnx, hX⟩ := xok_dec (e := false) hok rfl
      have ht : xtc k = 5 := Nat.eq_of_beq_eq_true hg
      have h51 : k ≠ 51 := fun e9 => by rw [e9] at ht; simp [xtc] at ht
      have ho : o < xc M k := by
        rcases vs _ (List.mem_cons_of_mem _ List.mem_cons_self) with q | q
        · exact absurd q h51
        · exact q.2.1
      rw [List.map_cons, List.map_cons, xenc_ref h51]
      have this := kp _ _ h hcs (xpush trivial (xpop (xpop vs)))
      rw [hnx] at this
      have ev : xav ad M k o (ix i) = .double (gd M k o (ix i)) := by
        obtain ⟨-, -, ty, e1, a1, a2, a3, a4, a5, -⟩ := xat_of ht (by decide)
        unfold xav
        rw [e1, a5 rfl]
      exact xw_ald hx hb I.1 ho ht hin (Or.inr (Or.inr (Or.inr (Or.inl ⟨rfl, rfl⟩)))) hd (by rw [ev]; exact this)
    · cases h
  | iaload =>
    simp only [xctl] at h
    split at h
    · rename_i ki i k o st2
      obtain ⟨hg, h⟩ := xgd_some h
      obtain ⟨hin, h⟩ := xck_some h
      obtain ⟨hd, hnx, hX⟩ := xok_dec (e := false) hok rfl
      have ht : xtc k = 1 := by
        cases aux with
        | nil => exact Nat.eq_of_beq_eq_true hg
        | cons a b => exact nomatch (show false = true from hX)
      have h51 : k ≠ 51 := fun e9 => by rw [e9] at ht; simp [xtc] at ht
      have ho : o < xc M k := by
        rcases vs _ (List.mem_cons_of_mem _ List.mem_cons_self) with q | q
        · exact absurd q h51
        · exact q.2.1
      rw [List.map_cons, List.map_cons, xenc_ref h51]
      have this := kp _ _ h hcs (xpush trivial (xpop (xpop vs)))
      rw [hnx] at this
      have ev : xav ad M k o (ix i) = .int (gi M k o (ix i)) := by
        obtain ⟨-, -, ty, e1, a1, a2, a3, a4, a5, -⟩ := xat_of ht (by decide)
        unfold xav
        rw [e1, a1 rfl]
      exact xw_ald hx hb I.1 ho ht hin (Or.inl ⟨rfl, rfl⟩) hd (by rw [ev]; exact this)
    · cases h
  | baload =>
    simp only [xctl] at h
    split at h
    · rename_i ki i k o st2
      obtain ⟨hg, h⟩ := xgd_some h
      obtain ⟨hin, h⟩ := xck_some h
      obtain ⟨hd, hnx, hX⟩ := xok_dec (e := false) hok rfl
      have ht : xtc k = 2 ∨ xtc k = 3 := by
        cases aux with
        | nil => exact nomatch (show false = true from hX)
        | cons a b =>
          rcases (Bool.or_eq_true _ _).mp hg with z | z
          · exact Or.inl (Nat.eq_of_beq_eq_true z)
          · exact Or.inr (Nat.eq_of_beq_eq_true z)
      have h51 : k ≠ 51 := fun e9 => by rw [e9] at ht; simp [xtc] at ht
      have ho : o < xc M k := by
        rcases vs _ (List.mem_cons_of_mem _ List.mem_cons_self) with q | q
        · exact absurd q h51
        · exact q.2.1
      rw [List.map_cons, List.map_cons, xenc_ref h51]
      have this := kp _ _ h hcs (xpush trivial (xpop (xpop vs)))
      rw [hnx] at this
      have ev : xav ad M k o (ix i) = .int (gi M k o (ix i)) := by
        unfold xav
        rcases ht with ht | ht
        · obtain ⟨-, -, ty, e1, a1, a2, a3, a4, a5, -⟩ := xat_of ht (by decide)
          rw [e1, a2 rfl]
        · obtain ⟨-, -, ty, e1, a1, a2, a3, a4, a5, -⟩ := xat_of ht (by decide)
          rw [e1, a3 rfl]
      exact xw_ald hx hb I.1 ho rfl hin (Or.inr (Or.inl ⟨rfl, ht⟩)) hd (by rw [ev]; exact this)
    · cases h
  | iastore =>
    simp only [xctl] at h
    split at h
    · rename_i kx x ki i k o st2
      split at h
      · rename_i hg
        obtain ⟨hin, h⟩ := xck_some h
        obtain ⟨hd, hnx, hX⟩ := xok_dec (e := false) hok rfl
        have hk60 : Nat.blt k 60 = true := and_l hg
        have hk := Nat.le_of_ble_eq_true hk60
        have ht : xtc k = 1 := Nat.eq_of_beq_eq_true (and_l (and_r hg))
        have hmu : xcst k o = false := by unfold xcst; rw [and_r (and_r hg)]; rfl
        have h51 : k ≠ 51 := fun e9 => by rw [e9] at ht; simp [xtc] at ht
        have ho : o < xc M k := by
          rcases vs _ (List.mem_cons_of_mem _ (List.mem_cons_of_mem _ List.mem_cons_self)) with q | q
          · exact absurd q h51
          · exact q.2.1
        rw [List.map_cons, List.map_cons, List.map_cons, xenc_ref h51]
        have hM : xch M (xst M k o (ix i) (.int x)) k o (ix i) := xch_st hk
        have hmo : xmon M (xst M k o (ix i) (.int x)) := xmon_st hk60
        have ev : xav ad (xst M k o (ix i) (.int x)) k o (ix i) = .int x := by
          obtain ⟨-, -, ty, e1, a1, a2, a3, a4, a5, -⟩ := xat_of ht (by decide)
          unfold xav
          rw [e1, a1 rfl]
          simp only
          unfold gi
          rw [xst_eq]
        have hae : xae k = none := by
          obtain ⟨-, -, ty, e1, a1, a2, a3, a4, a5, -⟩ := xat_of ht (by decide)
          exact xae_of_at hk e1 (by rw [a1 rfl]; exact fun C h => nomatch h)
        refine xw_ast hx hb I.1 I.2.1 I.2.2.2.2.2 ho ht hmu hin hM ev (Or.inl ⟨rfl, rfl, x, rfl, rfl⟩) hd (fun H1 locs1 w1 w2 w3 => ?_)
        have hr3 := xrest_ast hk ht (by decide) hM I.2.2.1 I.2.2.2.1 I.2.2.2.2.1 (fun tk tw h9 => by rw [hae] at h9; cases h9) (fun h9 => absurd h9 (by decide))
        have this := kk _ _ _ _ ad H1 locs1 la cells slots h hcs (xSm.refl ad M) hmo ⟨w1, w2, hr3.1, hr3.2.1, hr3.2.2, w3⟩ hl (fun v hv => (vl v hv).mon hmo) (fun v hv => (xpop (xpop (xpop vs)) v hv).mon hmo) (by rw [gn_xst_ne (by omega)]; exact hc) (by rw [gn_xst_ne (by omega)]; exact hs)
        rw [hnx] at this
        exact this
      · cases h
    · cases h
  | lastore =>
    simp only [xctl] at h
    split at h
    · rename_i kx x ki i k o st2
      split at h
      · rename_i hg
        obtain ⟨hin, h⟩ := xck_some h
        obtain ⟨hd, hnx, hX⟩ := xok_dec (e := false) hok rfl
        have hk60 : Nat.blt k 60 = true := and_l hg
        have hk := Nat.le_of_ble_eq_true hk60
        have ht : xtc k = 4 := Nat.eq_of_beq_eq_true (and_l (and_r hg))
        have hmu : xcst k o = false := by unfold xcst; rw [and_r (and_r hg)]; rfl
        have h51 : k ≠ 51 := fun e9 => by rw [e9] at ht; simp [xtc] at ht
        have ho : o < xc M k := by
          rcases vs _ (List.mem_cons_of_mem _ (List.mem_cons_of_mem _ List.mem_cons_self)) with q | q
          · exact absurd q h51
          · exact q.2.1
        rw [List.map_cons, List.map_cons, List.map_cons, xenc_ref h51]
        have hM : xch M (xst M k o (ix i) (.long x)) k o (ix i) := xch_st hk
        have hmo : xmon M (xst M k o (ix i) (.long x)) := xmon_st hk60
        have ev : xav ad (xst M k o (ix i) (.long x)) k o (ix i) = .long x := by
          obtain ⟨-, -, ty, e1, a1, a2, a3, a4, a5, -⟩ := xat_of ht (by decide)
          unfold xav
          rw [e1, a4 rfl]
          simp only
          unfold gl
          rw [xst_eq]
        have hae : xae k = none := by
          obtain ⟨-, -, ty, e1, a1, a2, a3, a4, a5, -⟩ := xat_of ht (by decide)
          exact xae_of_at hk e1 (by rw [a4 rfl]; exact fun C h => nomatch h)
        refine xw_ast hx hb I.1 I.2.1 I.2.2.2.2.2 ho ht hmu hin hM ev (Or.inr (Or.inr (Or.inl ⟨rfl, rfl, x, rfl, rfl⟩))) hd (fun H1 locs1 w1 w2 w3 => ?_)
        have hr3 := xrest_ast hk ht (by decide) hM I.2.2.1 I.2.2.2.1 I.2.2.2.2.1 (fun tk tw h9 => by rw [hae] at h9; cases h9) (fun h9 => absurd h9 (by decide))
        have this := kk _ _ _ _ ad H1 locs1 la cells slots h hcs (xSm.refl ad M) hmo ⟨w1, w2, hr3.1, hr3.2.1, hr3.2.2, w3⟩ hl (fun v hv => (vl v hv).mon hmo) (fun v hv => (xpop (xpop (xpop vs)) v hv).mon hmo) (by rw [gn_xst_ne (by omega)]; exact hc) (by rw [gn_xst_ne (by omega)]; exact hs)
        rw [hnx] at this
        exact this
      · cases h
    · cases h
  | dastore =>
    simp only [xctl] at h
    split at h
    · rename_i kx x ki i k o st2
      split at h
      · rename_i hg
        obtain ⟨hin, h⟩ := xck_some h
        obtain ⟨hd, hnx, hX⟩ := xok_dec (e := false) hok rfl
        have hk60 : Nat.blt k 60 = true := and_l hg
        have hk := Nat.le_of_ble_eq_true hk60
        have ht : xtc k = 5 := Nat.eq_of_beq_eq_true (and_l (and_r hg))
        have hmu : xcst k o = false := by unfold xcst; rw [and_r (and_r hg)]; rfl
        have h51 : k ≠ 51 := fun e9 => by rw [e9] at ht; simp [xtc] at ht
        have ho : o < xc M k := by
          rcases vs _ (List.mem_cons_of_mem _ (List.mem_cons_of_mem _ List.mem_cons_self)) with q | q
          · exact absurd q h51
          · exact q.2.1
        rw [List.map_cons, List.map_cons, List.map_cons, xenc_ref h51]
        have hM : xch M (xst M k o (ix i) (.double x)) k o (ix i) := xch_st hk
        have hmo : xmon M (xst M k o (ix i) (.double x)) := xmon_st hk60
        have ev : xav ad (xst M k o (ix i) (.double x)) k o (ix i) = .double x := by
          obtain ⟨-, -, ty, e1, a1, a2, a3, a4, a5, -⟩ := xat_of ht (by decide)
          unfold xav
          rw [e1, a5 rfl]
          simp only
          unfold gd
          rw [xst_eq]
        have hae : xae k = none := by
          obtain ⟨-, -, ty, e1, a1, a2, a3, a4, a5, -⟩ := xat_of ht (by decide)
          exact xae_of_at hk e1 (by rw [a5 rfl]; exact fun C h => nomatch h)
        refine xw_ast hx hb I.1 I.2.1 I.2.2.2.2.2 ho ht hmu hin hM ev (Or.inr (Or.inr (Or.inr ⟨rfl, rfl, x, rfl, rfl⟩))) hd (fun H1 locs1 w1 w2 w3 => ?_)
        have hr3 := xrest_ast hk ht (by decide) hM I.2.2.1 I.2.2.2.1 I.2.2.2.2.1 (fun tk tw h9 => by rw [hae] at h9; cases h9) (fun h9 => absurd h9 (by decide))
        have this := kk _ _ _ _ ad H1 locs1 la cells slots h hcs (xSm.refl ad M) hmo ⟨w1, w2, hr3.1, hr3.2.1, hr3.2.2, w3⟩ hl (fun v hv => (vl v hv).mon hmo) (fun v hv => (xpop (xpop (xpop vs)) v hv).mon hmo) (by rw [gn_xst_ne (by omega)]; exact hc) (by rw [gn_xst_ne (by omega)]; exact hs)
        rw [hnx] at this
        exact this
      · cases h
    · cases h
  | bastore =>
    simp only [xctl] at h
    split at h
    · rename_i kx x ki i k o st2
      split at h
      · rename_i hg
        obtain ⟨hin, h⟩ := xck_some h
        obtain ⟨hd, hnx, hX⟩ := xok_dec (e := false) hok rfl
        have hk60 : Nat.blt k 60 = true := and_l hg
        have hk := Nat.le_of_ble_eq_true hk60
        have ht : xtc k = 2 ∨ xtc k = 3 := by
          rcases (Bool.or_eq_true _ _).mp (and_l (and_r hg)) with z | z
          · exact Or.inl (Nat.eq_of_beq_eq_true z)
          · exact Or.inr (Nat.eq_of_beq_eq_true z)
        have hmu : xcst k o = false := by unfold xcst; rw [and_r (and_r hg)]; rfl
        have h51 : k ≠ 51 := fun e9 => by rw [e9] at ht; simp [xtc] at ht
        have ho : o < xc M k := by
          rcases vs _ (List.mem_cons_of_mem _ (List.mem_cons_of_mem _ List.mem_cons_self)) with q | q
          · exact absurd q h51
          · exact q.2.1
        rw [List.map_cons, List.map_cons, List.map_cons, xenc_ref h51]
        have hM : xch M (xst M k o (ix i) (.int (xnab (xtc k) x))) k o (ix i) := xch_st hk
        have hmo : xmon M (xst M k o (ix i) (.int (xnab (xtc k) x))) := xmon_st hk60
        have eg : gi (xst M k o (ix i) (.int (xnab (xtc k) x))) k o (ix i) = xnab (xtc k) x := by unfold gi; rw [xst_eq]
        have hty : ∃ ty, xat k = some ty ∧ (ty = .byte ∨ ty = .boolean) := by
          rcases ht with ht | ht
          · obtain ⟨-, -, ty, e1, a1, a2, a3, a4, a5, -⟩ := xat_of ht (by decide)
            exact ⟨ty, e1, Or.inl (a2 rfl)⟩
          · obtain ⟨-, -, ty, e1, a1, a2, a3, a4, a5, -⟩ := xat_of ht (by decide)
            exact ⟨ty, e1, Or.inr (a3 rfl)⟩
        obtain ⟨ty, e1, e2⟩ := hty
        have ev : xav ad (xst M k o (ix i) (.int (xnab (xtc k) x))) k o (ix i) = .int (xnab (xtc k) x) := by
          unfold xav
          rw [e1]
          rcases e2 with rfl | rfl
          · simp only; rw [eg]
          · simp only; rw [eg]
        have hae : xae k = none := xae_of_at hk e1 (by rcases e2 with rfl | rfl <;> exact fun C h => nomatch h)
        refine xw_ast hx hb I.1 I.2.1 I.2.2.2.2.2 ho rfl hmu hin hM ev (Or.inr (Or.inl ⟨rfl, ht, x, rfl, rfl⟩)) hd (fun H1 locs1 w1 w2 w3 => ?_)
        have hr3 := xrest_ast hk rfl (by omega) hM I.2.2.1 I.2.2.2.1 I.2.2.2.2.1 (fun tk tw h9 => by rw [hae] at h9; cases h9) (fun h9 => by rw [eg, h9]; exact xnab_fit x)
        have this := kk _ _ _ _ ad H1 locs1 la cells slots h hcs (xSm.refl ad M) hmo ⟨w1, w2, hr3.1, hr3.2.1, hr3.2.2, w3⟩ hl (fun v hv => (vl v hv).mon hmo) (fun v hv => (xpop (xpop (xpop vs)) v hv).mon hmo) (by rw [gn_xst_ne (by omega)]; exact hc) (by rw [gn_xst_ne (by omega)]; exact hs)
        rw [hnx] at this
        exact this
      · cases h
    · cases h
  | aaload =>
    simp only [xctl] at h
    split at h
    · rename_i ki i k o st2 kx tk tw z
      split at h
      · rename_i hkk
        subst hkk
        obtain ⟨hin, h⟩ := xck_some h
        split at h
        · rename_i hfl
          obtain ⟨hd, hnx, hX⟩ := xok_dec (e := false) hok rfl
          replace hX : (decide (xae k = some (tk, tw)) && !xstrk tk) = true := hX
          have hae := of_decide_eq_true (and_l hX)
          obtain ⟨hk, ht, hlen, h51, htk⟩ := xae_facts hae
          have ho : o < xc M k := by
            rcases vs _ (List.mem_cons_of_mem _ List.mem_cons_self) with q | q
            · exact absurd q h51
            · exact q.2.1
          have hji : ix i < xnth xlens k := Nat.not_le.mp fun q => hin (Or.inr q)
          have hlive := I.2.2.1.2 k o tk tw (ix i) hk ho hae hji hfl
          have this := kp _ _ h hcs (xpush (Or.inr ⟨htk.1, hlive, fun L hL hs9 => by have := and_r hX; rw [hs9] at this; cases this⟩) (xpop (xpop vs)))
          rw [hnx] at this
          rw [List.map_cons, List.map_cons, xenc_ref h51]
          refine xw_ald hx hb I.1 ho ht (by rw [hlen]; exact hin) (Or.inr (Or.inr (Or.inr (Or.inr ⟨rfl, rfl⟩)))) hd ?_
          rw [xav_ref hk hae hfl]
          rw [List.map_cons, xenc_ref htk.2] at this
          exact this
        · cases h
      · cases h
    · rename_i ki i k o st2 kx tk tw
      split at h
      · rename_i hkk
        subst hkk
        obtain ⟨hin, h⟩ := xck_some h
        obtain ⟨hd, hnx, hX⟩ := xok_dec (e := false) hok rfl
        replace hX : (decide (xae k = some (tk, tw)) && (!xreg y && xstrk k)) = true := hX
        have hae := of_decide_eq_true (and_l hX)
        obtain ⟨hk, ht, hlen, h51, htk⟩ := xae_facts hae
        obtain ⟨L, rfl⟩ := hrg (by have := and_l (and_r hX); simpa using this)
        have hmem : (k, o) ∈ L ∧ o < xc M k := by
          rcases vs _ (List.mem_cons_of_mem _ List.mem_cons_self) with q | q
          · exact absurd q h51
          · exact ⟨q.2.2 L rfl (and_r (and_r hX)), q.2.1⟩
        obtain ⟨hg, hcl⟩ := hr L rfl
        have hra : xra k = true := by
          have h1 := List.all_eq_true.mp xra_ae k (List.mem_range.mpr hk)
          rw [hae] at h1
          simpa using h1
        have hji : ix i < xnth xlens k := Nat.not_le.mp fun q => hin (Or.inr q)
        have hfl := (xgood_spec hg hmem.1).2.2 hra (ix i) hji
        have hlive := I.2.2.1.2 k o tk tw (ix i) hk hmem.2 hae hji hfl
        have this := kp _ _ h hcs (xpush (Or.inr ⟨htk.1, hlive, fun L' hL hs9 => by
          cases hL
          have h2 := List.all_eq_true.mp hcl (k, o) hmem.1
          simp only [hae, hs9] at h2
          have h3 := List.all_eq_true.mp (by simpa using h2 : (List.range (xnth xlens k)).all (fun i => L.contains (tk, i + tw)) = true) (ix i) (List.mem_range.mpr hji)
          exact List.contains_iff_mem.mp h3⟩) (xpop (xpop vs)))
        rw [hnx] at this
        rw [List.map_cons, List.map_cons, xenc_ref h51]
        refine xw_ald hx hb I.1 hmem.2 ht (by rw [hlen]; exact hin) (Or.inr (Or.inr (Or.inr (Or.inr ⟨rfl, rfl⟩)))) hd ?_
        rw [xav_ref hk hae hfl]
        rw [List.map_cons, xenc_ref htk.2] at this
        exact this
      · cases h
    · cases h
  | aastore =>
    simp only [xctl] at h
    split at h
    · rename_i k2 q ki i k o st2 kx tk tw
      split at h
      · rename_i hkk
        subst hkk
        split at h
        · rename_i hk2
          subst hk2
          split at h
          · rename_i hg
            obtain ⟨hin, h⟩ := xck_some h
            split at h
            · rename_i hq
              obtain ⟨hd, hnx, hX⟩ := xok_dec (e := false) hok rfl
              replace hX : (decide (xae k = some (k2, tw)) && !Nat.beq k2 43) = true := hX
              have hae := of_decide_eq_true (and_l hX)
              obtain ⟨hk, ht, hlen, h51, htk⟩ := xae_facts hae
              have ho : o < xc M k := by
                rcases vs _ (List.mem_cons_of_mem _ (List.mem_cons_of_mem _ List.mem_cons_self)) with z | z
                · exact absurd z h51
                · exact z.2.1
              have hql : q < xc M k2 := by
                rcases vs _ List.mem_cons_self with z | z
                · exact absurd z htk.2
                · exact z.2.1
              have h43 : k2 ≠ 43 := fun e9 => by have := and_r hX; rw [e9] at this; cases this
              have hmu : xcst k o = false := by
                obtain ⟨-, h9⟩ := xae_mut hae h43
                exact h9 o
              have hfq := (xae_mut hae h43).1
              have hM : xch M (xst M (200 + k) o (ix i) (.ref 1)) k o (ix i) := xch_fl hk
              have hmo : xmon M (xst M (200 + k) o (ix i) (.ref 1)) := xmon_fl hg
              have hfl : xf (xst M (200 + k) o (ix i) (.ref 1)) k o (ix i) := by
                show gn _ _ _ _ = 1
                rw [gn_xst, if_pos ⟨rfl, rfl, rfl⟩]
              rw [List.map_cons, List.map_cons, List.map_cons, xenc_ref h51, xenc_ref htk.2]
              refine xw_aast hx hb hts I.1 I.2.1 I.2.2.2.2.2 ho hae hmu hql hfq h43 (by rw [hlen]; exact hin) hM (by rw [xav_ref hk hae hfl, hq]) ht hd (fun H1 locs1 w1 w2 w3 => ?_)
              have hr3 := xrest_ast hk ht (by decide) hM I.2.2.1 I.2.2.2.1 I.2.2.2.2.1 (fun tk' tw' h9 _ => by cases hae.symm.trans h9; rw [← hq]; exact hql) (fun h9 => absurd h9 (by decide))
              have this := kk _ _ _ _ ad H1 locs1 la cells slots h hcs (xSm.refl ad M) hmo ⟨w1, w2, hr3.1, hr3.2.1, hr3.2.2, w3⟩ hl (fun v hv => (vl v hv).mon hmo) (fun v hv => (xpop (xpop (xpop vs)) v hv).mon hmo) (by rw [gn_xst_ne (by omega)]; exact hc) (by rw [gn_xst_ne (by omega)]; exact hs)
              rw [hnx] at this
              exact this
            · cases h
          · cases h
        · cases h
      · cases h
    · cases h
  | getfield ix =>
    simp only [xctl] at h
    split at h
    · rename_i k o st2 kx f tag tk tw
      split at h
      · rename_i hkk
        subst hkk
        obtain ⟨hd, hnx, hX⟩ := xok_dec (e := false) hok rfl
        simp only [xokX, Bool.and_eq_true] at hX
        obtain ⟨hX1, hX2, hX3, hX4⟩ := hX
        have hk := Nat.le_of_ble_eq_true hX2
        have hfd := of_decide_eq_true hX3
        have h51 : k ≠ 51 := fun e => by rw [e] at hfd; cases hfd
        have ho : o < xc M k := by
          rcases vs _ List.mem_cons_self with q | q
          · exact absurd q h51
          · exact q.2.1
        have main : ∀ t, 2 ≤ t → t < 6 → tag = t + 10 → (!xstrk tk || xreg y) = true → xf M k o f → En C cs ls ((tk, .ref (xtg t tw o (gn M k o f))) :: st2) M = some r → W p l e R s m args below meth c H locs cells slots Q (F0 m pc la (((k, Value.ref o) :: st2).map (xenc ad))) := by
          intro t h2 h6 e hst hfl h
          have e10 : tag % 10 = t := by omega
          rw [e10] at hfd
          obtain ⟨-, htk, htk51⟩ := xtk_lt hk hfd
          have hlive := I.2.2.1.1 k o f t tk tw hk ho hfd h2 hfl
          have this := kp _ _ h hcs (xpush (Or.inr ⟨htk, hlive, fun L hL hs9 => by
            rcases (Bool.or_eq_true _ _).mp hst with z | z
            · rw [hs9] at z; cases z
            · rw [hrg2 z] at hL; cases hL⟩) (xpop vs))
          rw [hnx] at this
          rw [List.map_cons, xenc_ref h51]
          refine xw_get hx hb hts hown (List.contains_iff_mem.mp hX1) I.1 hk ho hfd hd ?_
          rw [xfv_ref h2 hfl]
          rw [List.map_cons, xenc_ref htk51] at this
          exact this
        split at h
        · split at h
          · rename_i hfl
            exact main 2 (by decide) (by decide) rfl hX4 hfl h
          · cases h
        · split at h
          · rename_i hfl
            exact main 3 (by decide) (by decide) rfl hX4 hfl h
          · cases h
        · split at h
          · rename_i hfl
            exact main 4 (by decide) (by decide) rfl hX4 hfl h
          · cases h
        · split at h
          · rename_i hfl
            exact main 5 (by decide) (by decide) rfl hX4 hfl h
          · cases h
        · cases h
      · cases h
    · cases h
  | putfield ix =>
    simp only [xctl] at h
    split at h
    · rename_i k2 q k o st2 kx f tag tk tw
      split at h
      · rename_i hkk
        subst hkk
        split at h
        · rename_i hk2
          subst hk2
          split at h
          · rename_i hg
            obtain ⟨hmu', h⟩ := xgd_some h
            have hc9 : xcst k o = false := by unfold xcst; rw [hmu']; rfl
            obtain ⟨hd, hnx, hX⟩ := xok_dec (e := false) hok rfl
            simp only [xokX, Bool.and_eq_true] at hX
            obtain ⟨hX1, hX2, hX3, hX4, hX5, hX6⟩ := hX
            have hk := Nat.le_of_ble_eq_true hX2
            have hfd := of_decide_eq_true hX3
            have h51 : k ≠ 51 := fun e => by rw [e] at hfd; cases hfd
            have h43 : k ≠ 43 := fun e => by rw [e] at hX4; cases hX4
            have ho : o < xc M k := by
              rcases vs _ (List.mem_cons_of_mem _ List.mem_cons_self) with q | q
              · exact absurd q h51
              · exact q.2.1
            have hfin : (xTf k f).2.2.2 = false ∨ ((xTf k f).1 = xcn (xoc y) ∧ meth.name = "<init>") := by
              rcases (Bool.or_eq_true _ _).mp hX5 with h9 | h9
              · exact Or.inl (by simpa using h9)
              · rw [Bool.and_eq_true, beq_iff_eq, beq_iff_eq] at h9
                exact Or.inr ⟨h9.1, hnm h9.2⟩
            have hq51 : ∀ t, 2 ≤ t → tag % 10 = t → k2 < 60 ∧ k2 ≠ 51 := fun t _ e9 => by rw [e9] at hfd; exact (xtk_lt hk hfd).2
            have main : ∀ (t : Nat) (M' : xM), 2 ≤ t → tag % 10 = t → xch M M' k o f → xmon M M' → xf M' k o f → xtg t tw o (gn M' k o f) = q → gn M' 100 0 0 = gn M 100 0 0 → gn M' 100 0 1 = gn M 100 0 1 → En C cs ls st2 M' = some r → W p l e R s m args below meth c H locs cells slots Q (F0 m pc la (((k2, Value.ref q) :: (k, Value.ref o) :: st2).map (xenc ad))) := by
              intro t M' h2 e9 hM hmo hfl htg n1 n2 h
              obtain ⟨hk260, hk251⟩ := hq51 t h2 e9
              have hql : q < xc M k2 := by
                rcases vs _ List.mem_cons_self with z | z
                · exact absurd z hk251
                · exact z.2.1
              rw [e9] at hfd
              rw [List.map_cons, List.map_cons, xenc_ref h51, xenc_ref hk251]
              refine xw_put hx hb hts hown (List.contains_iff_mem.mp hX1) I.1 I.2.1 I.2.2.2.2.2 hk h43 ho hc9 hfd hfin hM (v := .ref (ad k2 q)) (by rw [xfv_ref h2 hfl, htg]) (fun ty hty => ?_) hd (fun H1 locs1 w1 w2 w3 => ?_)
              · obtain ⟨ty', hty', -, -, h9⟩ := xtypes hk hfd
                obtain rfl : ty' = ty := Option.some.inj (hty'.symm.trans hty)
                exact xnarrow_ref (h9 h2)
              · have hr3 := xrest_fld hk hfd hM I.2.2.1 I.2.2.2.1 I.2.2.2.2.1 (fun _ _ => by show xtg t tw o (gn M' k o f) < xc M k2; rw [htg]; exact hql)
                have this := kk _ _ _ _ ad H1 locs1 la cells slots h hcs (xSm.refl ad M) hmo ⟨w1, w2, hr3.1, hr3.2.1, hr3.2.2, w3⟩ hl (fun v hv => (vl v hv).mon hmo) (fun v hv => (xpop (xpop vs) v hv).mon hmo) (by rw [n1]; exact hc) (by rw [n2]; exact hs)
                rw [hnx] at this
                exact this
            have hfl1 : ∀ M1 : xM, xf (xst M1 (200 + k) o f (.ref 1)) k o f := fun M1 => by
              show gn _ _ _ _ = 1
              rw [gn_xst, if_pos ⟨rfl, rfl, rfl⟩]
            split at h
            · split at h
              · rename_i hqo
                exact main 2 _ (by decide) rfl (xch_fl hk) (xmon_fl hg) (hfl1 M) hqo.symm (gn_xst_ne (by omega)) (gn_xst_ne (by omega)) h
              · cases h
            · split at h
              · rename_i hqo
                exact main 3 _ (by decide) rfl (xch_fl hk) (xmon_fl hg) (hfl1 M) hqo.symm (gn_xst_ne (by omega)) (gn_xst_ne (by omega)) h
              · cases h
            · exact main 4 _ (by decide) rfl (xch_sf hk) (xmon_trans (xmon_st hg) (xmon_fl hg)) (hfl1 _) (by show gn _ k o f = q; rw [gn_xst_ne (by omega), gn_xst, if_pos ⟨rfl, rfl, rfl⟩]) (by rw [gn_xst_ne (by omega), gn_xst_ne (by omega)]) (by rw [gn_xst_ne (by omega), gn_xst_ne (by omega)]) h
            · cases h
          · cases h
        · cases h
      · cases h
    · rename_i kx0 x k o st2 kx f z1 z2
      split at h
      · rename_i hkk
        subst hkk
        split at h
        · rename_i hg
          replace h := xgd_some h
          have hmu' := h.1
          replace h := h.2
          have hc9 : xcst k o = false := by unfold xcst; rw [hmu']; rfl
          split at h
          · rename_i hx0
            subst hx0
            obtain ⟨hd, hnx, hX⟩ := xok_dec (e := false) hok rfl
            simp only [xokX, Bool.and_eq_true] at hX
            obtain ⟨hX1, hX2, hX3, hX4, hX5, hX6⟩ := hX
            have hk := Nat.le_of_ble_eq_true hX2
            have hfd := of_decide_eq_true hX3
            have h51 : k ≠ 51 := fun e => by rw [e] at hfd; cases hfd
            have h43 : k ≠ 43 := fun e => by rw [e] at hX4; cases hX4
            have ho : o < xc M k := by
              rcases vs _ (List.mem_cons_of_mem _ List.mem_cons_self) with q | q
              · exact absurd q h51
              · exact q.2.1
            have hfin : (xTf k f).2.2.2 = false ∨ ((xTf k f).1 = xcn (xoc y) ∧ meth.name = "<init>") := by
              rcases (Bool.or_eq_true _ _).mp hX5 with h9 | h9
              · exact Or.inl (by simpa using h9)
              · rw [Bool.and_eq_true, beq_iff_eq, beq_iff_eq] at h9
                exact Or.inr ⟨h9.1, hnm h9.2⟩
            have hM : xch M (xst M k o f (.int 0)) k o f := xch_st hk
            have hmo : xmon M (xst M k o f (.int 0)) := xmon_st hg
            rw [List.map_cons, List.map_cons, xenc_ref h51]
            refine xw_put hx hb hts hown (List.contains_iff_mem.mp hX1) I.1 I.2.1 I.2.2.2.2.2 hk h43 ho hc9 hfd hfin hM (v := .int 0) (by show Value.int (gi _ k o f) = _; unfold gi; rw [xst_eq]) (fun ty hty => by rw [beq_iff_eq.mp hX6] at hty; cases hty; exact ⟨rfl, rfl⟩) hd (fun H1 locs1 w1 w2 w3 => ?_)
            have hr3 := xrest_fld hk hfd hM I.2.2.1 I.2.2.2.1 I.2.2.2.2.1 (fun h9 => absurd (show 2 ≤ 0 from h9) (by decide))
            have this := kk _ _ _ _ ad H1 locs1 la cells slots h hcs (xSm.refl ad M) hmo ⟨w1, w2, hr3.1, hr3.2.1, hr3.2.2, w3⟩ hl (fun v hv => (vl v hv).mon hmo) (fun v hv => (xpop (xpop vs) v hv).mon hmo) (by rw [gn_xst_ne (by omega)]; exact hc) (by rw [gn_xst_ne (by omega)]; exact hs)
            rw [hnx] at this
            exact this
          · cases h
        · cases h
      · cases h
    · cases h
  | checkcast ix =>
    simp only [xctl] at h
    split at h
    · rename_i k o st2
      obtain ⟨hg, h⟩ := xgd_some h
      obtain ⟨hd, hnx, hX⟩ := xok_dec (e := false) hok rfl
      have hk := Nat.eq_of_beq_eq_true (and_l hg)
      subst hk
      replace hX : (Nat.beq (xoc y) 17 && Nat.beq ix 311) = true := hX
      have e1 := Nat.eq_of_beq_eq_true (and_l hX)
      have e2 := Nat.eq_of_beq_eq_true (and_r hX)
      subst e2
      rw [e1] at hown
      have ho : o < xc M 47 := by
        rcases vs _ List.mem_cons_self with z | z
        · cases z
        · exact z.2.1
      have this := kp _ _ h hcs vs
      rw [hnx, List.map_cons, xenc_ref (by decide)] at this
      rw [List.map_cons, xenc_ref (by decide)]
      exact xw_cast hx hb hts hown I ho (by unfold xcst; rw [and_r hg]; rfl) hd this
    · cases h
  | new ix =>
    simp only [xctl] at h
    split at h
    · cases hap
    · rename_i k n z
      split at h
      · rename_i hg
        obtain ⟨hd, hnx, hX⟩ := xok_dec (e := false) hok rfl
        replace hX : (xnewL.contains ((xoc y, ix), k, n) && (xmut k 13 && ((!xstrk k || xreg y) && Nat.beq z 0))) = true := hX
        have hmem := List.contains_iff_mem.mp (and_l hX)
        have hk := Nat.le_of_ble_eq_true hg
        have h51 : k ≠ 51 := fun e9 => by
          have h1 := List.all_eq_true.mp xnewL_all _ hmem
          rw [e9] at h1
          simp [xfd] at h1
        have hmo : xmon M (xnew M k n) := xmon_new hg
        have hrr := hmn _ _ _ _ h
        have n1 : gn (xnew M k n) 100 0 0 = gn M 100 0 0 + 1 := xnew_cells hk
        have n2 : gn (xnew M k n) 100 0 1 = gn M 100 0 1 + n := xnew_slots hk
        have z1 := hrr.2.2.2.1
        have z2 := hrr.2.2.2.2
        have hsm := xSm_up (ad := ad) (M := M) (a := H.size) hk
        refine xw_new hx hb hts hown hmem I hAA (and_l (and_r hX)) hd (by omega) (by omega) (fun H1 I1 => ?_)
        have this := kk _ _ _ _ _ H1 locs la (cells + 1) (slots + n) h hcs hsm hmo I1 (hl.ad (fun v hv => xenc_sm hsm (vl v hv))) (fun v hv => (vl v hv).mon hmo) (xpush (Or.inr ⟨hk, by rw [(xmk_new (M := M) (n := n) hk).1]; exact Nat.lt_succ_self _, fun L hL hs9 => by
          rcases (Bool.or_eq_true _ _).mp (and_l (and_r (and_r hX))) with q | q
          · rw [hs9] at q; cases q
          · rw [hrg2 q] at hL; cases hL⟩) (fun v hv => (vs v hv).mon hmo)) (by omega) (by omega)
        rw [hnx, List.map_cons, xmap_sm hsm vs, xenc_ref h51, xup_eq] at this
        exact this
      · cases h
    · cases h
  | newarray a =>
    simp only [xctl] at h
    split at h
    · rename_i kx x st2 k
      obtain ⟨hd, hnx, hX⟩ := xok_dec (e := false) hok rfl
      replace hX : (decide (xat k = some (newarray.typeOf a)) && (xmut k 13 && (!xstrk k || xreg y))) = true := hX
      have hat := of_decide_eq_true (and_l hX)
      have h51 : k ≠ 51 := fun e9 => by rw [e9] at hat; cases hat
      have vs2 := xpop vs
      have fin : ∀ (M' : xM) (N : Nat), k < 60 → ¬ x < 0 → x.toNatClampNeg = N → N ≤ 65536 → xmk M M' k → xmon M M' → (∀ f, gi M' k (xc M k) f = 0 ∧ gl M' k (xc M k) f = 0 ∧ gd M' k (xc M k) f = 0 ∧ gn M' (200 + k) (xc M k) f = 0) → xlen k (xc M k) M' = N → (xdyn k = true → gn M' (110 + k) (xc M k) 0 ≤ 65536) → gn M' 100 0 0 = gn M 100 0 0 + 1 → gn M' 100 0 1 = gn M 100 0 1 + N → En C cs ls ((k, .ref (gn M 101 k 0)) :: st2) M' = some r → W p l e R s m args below meth c H locs cells slots Q (F0 m pc la (((kx, Value.int x) :: st2).map (xenc ad))) := by
        intro M' N hk g1 g2 g3 hm hmo h0 hlen hdl n1 n2 h
        have hrr := hmn _ _ _ _ h
        have z1 := hrr.2.2.2.1
        have z2 := hrr.2.2.2.2
        have hsm := xSm_up (ad := ad) (M := M) (a := H.size) hk
        refine xw_newarr hx hb hts hk hat I hAA (and_l (and_r hX)) g1 g2 g3 hm h0 hlen hdl hd (by omega) (by omega) (fun H1 I1 => ?_)
        have this := kk _ _ _ _ _ H1 locs la (cells + 1) (slots + N) h hcs hsm hmo I1 (hl.ad (fun v hv => xenc_sm hsm (vl v hv))) (fun v hv => (vl v hv).mon hmo) (xpush (Or.inr ⟨hk, by rw [hm.1]; exact Nat.lt_succ_self _, fun L hL hs9 => by
          rcases (Bool.or_eq_true _ _).mp (and_r (and_r hX)) with q | q
          · rw [hs9] at q; cases q
          · rw [hrg2 q] at hL; cases hL⟩) (fun v hv => (vs2 v hv).mon hmo)) (by omega) (by omega)
        rw [hnx, List.map_cons, xmap_sm hsm vs2, xenc_ref h51, xup_eq] at this
        exact this
      split at h
      · rename_i hg hdy
        split at h
        · cases h
        · rename_i hn
          have hk := Nat.le_of_ble_eq_true hg
          have q := fun f => xnewD_def (M := M) (k := k) (n := ix x) (f := f) hk
          have n3 : gn (xnewD M k (ix x)) 100 0 0 = gn (xnew M k (ix x)) 100 0 0 := gn_xst_ne (by omega)
          have n4 : gn (xnewD M k (ix x)) 100 0 1 = gn (xnew M k (ix x)) 100 0 1 := gn_xst_ne (by omega)
          exact fin _ (ix x) hk (fun z => hn (Or.inl z)) rfl (Nat.not_lt.mp fun z => hn (Or.inr z)) (xmk_newD hk) (xmon_newD hg) (fun f => ⟨(q f).1, (q f).2.1, (q f).2.2.1, (q f).2.2.2.1⟩) (by unfold xlen; rw [hdy]; exact (q 0).2.2.2.2) (fun _ => by rw [(q 0).2.2.2.2]; exact Nat.not_lt.mp fun z => hn (Or.inr z)) (n3.trans (xnew_cells hk)) (n4.trans (xnew_slots hk)) h
      · rename_i hg hdy
        split at h
        · rename_i hn
          have hk := Nat.le_of_ble_eq_true hg
          have hbig : (List.range 60).all (fun k => Nat.blt (xnth xlens k) 60000) = true := by decide +kernel
          have hsm9 : xnth xlens k < 60000 := Nat.le_of_ble_eq_true (List.all_eq_true.mp hbig k (List.mem_range.mpr hk))
          exact fin _ (xnth xlens k) hk (by rw [hn]; exact nI_pos (by omega)) (by rw [hn]; exact nI_clamp (by omega)) (by omega) (xmk_new hk) (xmon_new hg) (fun f => xnew_def hk) (by unfold xlen; rw [hdy]) (fun z => by rw [hdy] at z; cases z) (xnew_cells hk) (xnew_slots hk) h
        · cases h
      · cases h
    · cases h
  | anewarray ix =>
    simp only [xctl] at h
    split at h
    · rename_i kx x st2 k
      obtain ⟨hd, hnx, hX⟩ := xok_dec (e := false) hok rfl
      replace hX : (xarr.contains ((xoc y, ix), k) && (xmut k 13 && xreg y)) = true := hX
      have hmem := List.contains_iff_mem.mp (and_l hX)
      have hfa := List.all_eq_true.mp xarr_all _ hmem
      simp only [Bool.and_eq_true] at hfa
      have hdy' : xdyn k = false := by simpa using hfa.2.1
      have h51 : k ≠ 51 := fun e9 => by
        have h1 := hfa.2.2
        rw [e9] at h1
        simp [xae] at h1
      have vs2 := xpop vs
      split at h
      · rename_i hg hdy
        rw [hdy'] at hdy
        cases hdy
      · rename_i hg hdy
        split at h
        · rename_i hn
          have hk := Nat.le_of_ble_eq_true hg
          have hmo : xmon M (xnew M k (xnth xlens k)) := xmon_new hg
          have hrr := hmn _ _ _ _ h
          have n1 : gn (xnew M k (xnth xlens k)) 100 0 0 = gn M 100 0 0 + 1 := xnew_cells hk
          have n2 : gn (xnew M k (xnth xlens k)) 100 0 1 = gn M 100 0 1 + xnth xlens k := xnew_slots hk
          have z1 := hrr.2.2.2.1
          have z2 := hrr.2.2.2.2
          have hsm := xSm_up (ad := ad) (M := M) (a := H.size) hk
          refine xw_anewarr hx hb hts hown hmem Z I hAA (and_l (and_r hX)) hn hd (by omega) (by omega) (fun H1 I1 => ?_)
          have this := kk _ _ _ _ _ H1 locs la (cells + 1) (slots + xnth xlens k) h hcs hsm hmo I1 (hl.ad (fun v hv => xenc_sm hsm (vl v hv))) (fun v hv => (vl v hv).mon hmo) (xpush (Or.inr ⟨hk, by rw [(xmk_new (M := M) (n := xnth xlens k) hk).1]; exact Nat.lt_succ_self _, fun L hL hs9 => by rw [hrg2 (and_r (and_r hX))] at hL; cases hL⟩) (fun v hv => (vs2 v hv).mon hmo)) (by omega) (by omega)
          rw [hnx, List.map_cons, xmap_sm hsm vs2, xenc_ref h51, xup_eq] at this
          exact this
        · cases h
      · cases h
    · cases h
  | invokevirtual n =>
    cases hap
  | invokestatic n =>
    cases hap
  | invokespecial n =>
    cases hap
  | ireturn =>
    cases hap
  | lreturn =>
    cases hap
  | freturn =>
    cases hap
  | dreturn =>
    cases hap
  | areturn =>
    cases hap
  | return_ =>
    cases hap
  | _ => simp [xctl] at h
