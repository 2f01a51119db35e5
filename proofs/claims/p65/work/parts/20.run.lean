/-! CALLS: what the instruction of a call does. -/
theorem xtake_spec : ∀ (n : Nat) {st acc as st' : List xV}, xtake n st acc = some (as, st') → ∃ bs, st = bs ++ st' ∧ as = bs.reverse ++ acc ∧ bs.length = n
  | 0, st, acc, as, st', h => by
    unfold xtake at h
    cases h
    exact ⟨[], rfl, rfl, rfl⟩
  | n + 1, [], acc, as, st', h => by
    unfold xtake at h
    cases h
  | n + 1, v :: st, acc, as, st', h => by
    unfold xtake at h
    obtain ⟨bs, h1, h2, h3⟩ := xtake_spec n h
    exact ⟨v :: bs, by rw [h1]; rfl, by rw [h2]; simp, by simp [h3]⟩
theorem xtake_ok {n : Nat} {st as st' : List xV} (h : xtake n st [] = some (as, st')) : st = as.reverse ++ st' ∧ as.length = n := by
  obtain ⟨bs, h1, h2, h3⟩ := xtake_spec n h
  rw [List.append_nil] at h2
  exact ⟨by rw [h1, h2, List.reverse_reverse], by rw [h2, List.length_reverse, h3]⟩
theorem vcat_le (v : Value) : v.category ≤ 2 := by cases v <;> first | exact Nat.le_refl 2 | exact Nat.le_succ 1
theorem vcat_sum : ∀ (l : List Value), (l.map fun v => v.category).sum ≤ 2 * l.length
  | [] => Nat.le_refl _
  | v :: r => by
    have h1 := vcat_le v
    have h2 := vcat_sum r
    simp only [List.map_cons, List.sum_cons, List.length_cons]
    omega
theorem vcat_1 {v : Value} (h : ¬ v.category = 2) : v.category = 1 := by cases v <;> first | rfl | exact absurd rfl h
theorem xcat_sum (ad : xA) : ∀ (st : List xV), ((st.map (xenc ad)).map fun v => v.category).sum ≤ xaw st
  | [] => Nat.le_refl _
  | v :: r => by
    have ih := xcat_sum ad r
    have e : xaw (v :: r) = (match xwide v with
      | true => 2
      | false => 1) + xaw r := rfl
    rw [e]
    simp only [List.map_cons, List.sum_cons]
    cases hw : xwide v with
    | true =>
      have := vcat_le (xenc ad v)
      simp only
      omega
    | false =>
      have := vcat_1 (xenc_cat (ad := ad) hw)
      simp only
      omega
theorem xroom {m : MethodId} {pc : Nat} {la : Array Slot} {S : List Value} {ad : xA} {st : List xV} (h : xaw st ≤ 8) : 2 * (F0 m pc la S).monitorRoom + ((st.map (xenc ad)).map fun v => v.category).sum ≤ 8 := by
  have h2 := xcat_sum ad st
  show 2 * 0 + _ ≤ 8
  omega
section VL
variable {p : Program} {l : Launch} {e : Env} {R : Room} {s : State} {m : MethodId} {args : Array Value} {below : List Frame} {meth : Method} {c : Code} {H : Heap} {locs : List Loc} {cells slots : Nat}
theorem vx_of_va {mc ms : Nat} {g : JFrame} {rest : List Value} {Qa : State → Outcome → State → Prop} {XC : String → State → State → Prop} {free : Addr → Prop} (h : va_Run p l e R s m args below meth c H locs cells slots mc ms g rest Qa free) : vx_Run p l e R s m args below meth c H locs cells slots mc ms g rest Qa XC free := fun T hT X => Or.inl (h T hT X)
end VL
set_option maxRecDepth 100000 in
theorem xcalS : (xTb[1113]? = some (Cond.methodLink (xcn 8) 549 ⟨"java/lang/AbstractStringBuilder", "length", "()I"⟩) ∧ xTb[1115]? = some (Cond.sameMethod "java/lang/AbstractStringBuilder" "java/lang/AbstractStringBuilder" "length" "()I")) ∧ (xTb[1114]? = some (Cond.instanceMethod ⟨"java/lang/AbstractStringBuilder", "length", "()I"⟩) ∧ xTb[1116]? = some (Cond.selects "java/lang/StringBuilder" ⟨"java/lang/AbstractStringBuilder", "length", "()I"⟩ (xY 68)) ∧ xTb[1117]? = some (Cond.instanceMethod (xY 68))) := by decide +kernel
set_option maxRecDepth 100000 in
theorem xcalA : (xTb[938]? = some (Cond.methodLink (xcn 16) 43 ⟨"java/lang/AbstractStringBuilder", "append", "(Ljava/lang/String;)Ljava/lang/AbstractStringBuilder;"⟩) ∧ xTb[940]? = some (Cond.sameMethod "java/lang/AbstractStringBuilder" "java/lang/AbstractStringBuilder" "append" "(Ljava/lang/String;)Ljava/lang/AbstractStringBuilder;")) ∧ (xTb[939]? = some (Cond.instanceMethod ⟨"java/lang/AbstractStringBuilder", "append", "(Ljava/lang/String;)Ljava/lang/AbstractStringBuilder;"⟩) ∧ xTb[941]? = some (Cond.selects "java/lang/StringBuilder" ⟨"java/lang/AbstractStringBuilder", "append", "(Ljava/lang/String;)Ljava/lang/AbstractStringBuilder;"⟩ (xY 55)) ∧ xTb[942]? = some (Cond.instanceMethod (xY 55))) := by decide +kernel
theorem xcal_57 : xcal.all (fun q => match q.2.1 with
  | 5 => false
  | 7 => decide (q = ((8, 549), 7, 68, 50)) || decide (q = ((16, 43), 7, 55, 50))
  | _ => true) = true := by decide +kernel
theorem xcal_6 : xcal.all (fun q => match q.2.1 with
  | 6 => Nat.beq q.2.2.2 50
  | _ => true) = true := by decide +kernel
theorem xSB_new : xTb[918]? = some (Cond.instantiable "java/lang/StringBuilder" 4) := by decide +kernel
theorem xcal_f {a : (Nat × Nat) × Nat × Nat × Nat} {k : Nat} (h : xcal.contains a = true) (hk : a.2.1 = k) : a ∈ xcal.filter (fun q => Nat.beq q.2.1 k) := List.mem_filter.mpr ⟨List.contains_iff_mem.mp h, by rw [hk]; exact Nat.beq_refl k⟩
theorem xwM_n {y : Nat} (h : (xhh y).isEmpty = true) : xwM y = Cond.code (xY y) (xCode y) (xml y) (xRet y) :: xwA := by unfold xwM; rw [xwH_n h]
theorem xwM_h {y : Nat} (h : (xhh y).isEmpty = false) : xwM y = Cond.codeWith (xY y) (xCode y) (xml y) (xRet y) (xhh y) :: xwA := by unfold xwM; rw [xwH_h h]
theorem xwA_l4 {a b c d : Cond} {y : Nat} (hy : y < 196) (ha : a ∈ xwA) (hb : b ∈ xwA) (hc : c ∈ xwA) (hd : d ∈ xwA) : GoodIn xwA ([a, b, c, d] ++ xwM y) := xwA_in fun w hw => by
  simp only [List.cons_append, List.nil_append, List.mem_cons] at hw
  rcases hw with rfl | rfl | rfl | rfl | h
  · exact ha
  · exact hb
  · exact hc
  · exact hd
  · exact xwM_mem hy w h
theorem xwA_l3 {a b c : Cond} {y : Nat} (hy : y < 196) (ha : a ∈ xwA) (hb : b ∈ xwA) (hc : c ∈ xwA) : GoodIn xwA ([a, b, c] ++ xwM y) := xwA_in fun w hw => by
  simp only [List.cons_append, List.nil_append, List.mem_cons] at hw
  rcases hw with rfl | rfl | rfl | h
  · exact ha
  · exact hb
  · exact hc
  · exact xwM_mem hy w h
theorem xwA_l5 {a b c d f : Cond} {y : Nat} (hy : y < 196) (ha : a ∈ xwA) (hb : b ∈ xwA) (hc : c ∈ xwA) (hd : d ∈ xwA) (hf : f ∈ xwA) : GoodIn xwA ([a, b, c, d, f] ++ xwM y) := xwA_in fun w hw => by
  simp only [List.cons_append, List.nil_append, List.mem_cons] at hw
  rcases hw with rfl | rfl | rfl | rfl | rfl | h
  · exact ha
  · exact hb
  · exact hc
  · exact hd
  · exact hf
  · exact xwM_mem hy w h
theorem xwA_l6 {a b c d f g : Cond} {y : Nat} (hy : y < 196) (ha : a ∈ xwA) (hb : b ∈ xwA) (hc : c ∈ xwA) (hd : d ∈ xwA) (hf : f ∈ xwA) (hg : g ∈ xwA) : GoodIn xwA ([a, b, c, d, f, g] ++ xwM y) := xwA_in fun w hw => by
  simp only [List.cons_append, List.nil_append, List.mem_cons] at hw
  rcases hw with rfl | rfl | rfl | rfl | rfl | rfl | h
  · exact ha
  · exact hb
  · exact hc
  · exact hd
  · exact hf
  · exact hg
  · exact xwM_mem hy w h
theorem xini_y {y : Nat} (hy : y < 196) : Cond.initialized (xY y).cls ∈ xwA := xini_of (xmfact_n (Nat.lt_succ_of_lt hy)).2.2.2.2
/-- the receiver -/
theorem xrcv_ok {rk : Nat} {as : List xV} (h0 : 0 < rk) (h : xrcv rk as = true) : ∃ o as', as = (rk, .ref o) :: as' := by
  obtain ⟨r, rfl⟩ : ∃ r, rk = r + 1 := ⟨rk - 1, by omega⟩
  unfold xrcv at h
  split at h
  · omega
  · rename_i k o as' e
    cases e
    rw [Nat.eq_of_beq_eq_true h]
    exact ⟨o, as', rfl⟩
  · cases h
theorem xrev {ad : xA} (as st : List xV) : (as.reverse ++ st).map (xenc ad) = (as.map (xenc ad)).reverse ++ st.map (xenc ad) := by rw [List.map_append, List.map_reverse]
theorem xrev1 {ad : xA} (k o : Nat) (as st : List xV) (hk : k ≠ 51) : (((k, .ref o) :: as).reverse ++ st).map (xenc ad) = (as.map (xenc ad)).reverse ++ .ref (ad k o) :: st.map (xenc ad) := by
  rw [xrev, List.map_cons, xenc_ref hk, List.reverse_cons, List.append_assoc]
  rfl
theorem xrets_no {r : (Option xV ⊕ Nat) × xM} (h : ∃ v, r.1 = .inl v) : ∃ v M', r = (.inl v, M') := by
  obtain ⟨v, hv⟩ := h
  obtain ⟨a, b⟩ := r
  exact ⟨v, b, by rw [← hv]⟩
set_option maxHeartbeats 2000000 in
theorem xrunV {p : Program} {l : Launch} {e : Env} {R : Room} {s : State} {m : MethodId} {args : Array Value} {below : List Frame} {meth : Method} {c : Code} {H : Heap} {locs : List Loc} {cells slots : Nat} {A : Nat → Prop} {ad : xA}
    {y y2 n t kx rk pc ix : Nat} {hs : List Nat} {C : List xE} {M : xM} {as st : List xV} {r : (Option xV ⊕ Nat) × xM} {la : Array Slot} {rg rg2 : Option (List (Nat × Nat))}
    (F : xFx y p l s m args meth c) (I : xInv s A ad M s.heap H locs) (Z : xCs A ad s) (Ze : xCe A s) (hAA : ∀ q, s.heap.size ≤ q → A q) (va : ∀ v ∈ as, xvok rg M v) (hM : xMt l y2 A ad M rg2 as r)
    (h9 : Nat.beq y2 9999 = false) (hok : xokCV y C pc ix (y2 :: n :: t :: kx :: rk :: hs) = true) (has : as.length = n) (hrk : xrcv rk as = true) (hrt : xrets0 hs = true → ∃ v, r.1 = .inl v) (hst : xaw st ≤ 8) (hla : la.size = xml y) (hd : decode (xCode y) pc = .ok (.invokevirtual ix, 3))
    (hf : cells + (gn r.2 100 0 0 - gn M 100 0 0) ≤ R.cells ∧ slots + (gn r.2 100 0 1 - gn M 100 0 1) ≤ R.slots) (hRf : 10 + xdp y ≤ R.frames) (hRl : 240 + 40 * xdp y ≤ R.locals) :
    vx_Run p l e R s m args below meth c H locs cells slots (gn r.2 100 0 0 - gn M 100 0 0) (gn r.2 100 0 1 - gn M 100 0 1) (F0 m pc la ((as.reverse ++ st).map (xenc ad))) (st.map (xenc ad)) (xQc A ad M rg2 r (as.map (xenc ad)).toArray) (xXC A ad M r) A := by
  obtain ⟨hx, hb, hml, hown, hts, hlk, hret, hnm, htr⟩ := F
  unfold xokCV at hok
  simp only [h9] at hok
  have hY := and_l (and_l hok)
  have hy2 : y2 < 196 := Nat.le_of_ble_eq_true (and_l (and_l hY))
  have hdp : xdp y2 < xdp y := Nat.le_of_ble_eq_true (and_r (and_l hY))
  have hok := and_r hok
  have hn0 : 0 < n := Nat.le_of_ble_eq_true (and_l (and_l (and_l hok)))
  have hk0 : 0 < rk := Nat.le_of_ble_eq_true (and_r (and_l (and_l hok)))
  have hk51 : rk < 51 := Nat.le_of_ble_eq_true (and_l (and_r (and_l hok)))
  have hfd : xfd rk ≠ [] := fun e9 => by
    have h1 := and_r (and_r (and_l hok))
    rw [e9] at h1
    cases h1
  have hok := and_r hok
  have hpn := xpn_ok (and_l (and_l hok))
  have hem := and_r (and_l hok)
  have hok := and_r hok
  obtain ⟨o, as', rfl⟩ := xrcv_ok hk0 hrk
  have hlen : as'.length = n - 1 := by rw [← has]; simp
  have P := xPc_of I Z Ze hAA (a := (((rk, Value.ref o) :: as').map (xenc ad)).toArray) rfl
  have hv : o < xc M rk := by
    rcases va _ List.mem_cons_self with z | z
    · omega
    · exact z.2.1
  obtain ⟨cell, hc1, hc2, -, -, hc5, -⟩ := (I.1 rk o (by omega) hv).1 hfd
  have e1 : ((rk, Value.ref o) :: as').map (xenc ad) = .ref (ad rk o) :: as'.map (xenc ad) := by rw [List.map_cons, xenc_ref (by omega)]
  have e2 := xrev1 (ad := ad) rk o as' st (by omega)
  rw [e2]
  rw [e1] at P ⊢
  have hp : PreV s H (xcl rk) (ad rk o) (xPc A ad M ((rk, .ref o) :: as')) (as'.map (xenc ad)) := ⟨xPc_blind, ⟨cell, hc1, hc2, hc5⟩, P⟩
  have hlm : (as'.map (xenc ad)).length = n - 1 := by rw [List.length_map]; exact hlen
  obtain ⟨-, hmh, hvh, hml2, hoc2⟩ := xmfact_n (Nat.lt_succ_of_lt hy2)
  have hR9 : (xrm y2 M r).frames + 1 ≤ R.frames ∧ 8 + (xml y2 + 11) + (xrm y2 M r).locals ≤ R.locals := by
    show 10 + xdp y2 + 1 ≤ _ ∧ 8 + (xml y2 + 11) + (240 + 40 * xdp y2) ≤ _
    omega
  rcases (Bool.or_eq_true _ _).mp hok with h | h
  · have hq := xcal_f h rfl
    exact vx_runV (C := xcl rk) (bytes := xCode y2) (maxL := xml y2) (ret := xRet y2) (ws := xwM y2) (n := n - 1) ⟨hx, hb, hml, hown, hts⟩ hM ⟨callB_of (n - 1) hts (xwM_in hy2) (xwM_n hem) rfl rfl (hts _ (xini_y hy2)) (hts _ (xcalL0 _ hq)) ⟨hmh, hvh, hpn⟩ hR9, hts _ (xcalI0 _ hq), hts _ (xcalV0 _ hq)⟩ hp rfl hlm hla rfl (xroom hst) hd hf
  · obtain ⟨v, M', rfl⟩ := xrets_no (hrt (and_l h))
    have hM := xMt_ret hM
    rcases (Bool.or_eq_true _ _).mp (and_r h) with h | h
    · have hq := List.all_eq_true.mp xcal_57 _ (List.contains_iff_mem.mp (and_l h))
      cases hq
    · have hq := List.all_eq_true.mp xcal_57 _ (List.contains_iff_mem.mp (and_l h))
      have hrk9 := Nat.eq_of_beq_eq_true (and_r h)
      rcases (Bool.or_eq_true _ _).mp hq with hq | hq
      · have hq := of_decide_eq_true hq
        simp only [Prod.mk.injEq] at hq
        obtain ⟨⟨hyo, rfl⟩, -, rfl, -⟩ := hq
        subst hrk9
        rw [hyo] at hown
        refine vx_of_va (va_runU (C := "java/lang/StringBuilder") (owner := "java/lang/AbstractStringBuilder") (x := ⟨"java/lang/AbstractStringBuilder", "length", "()I"⟩) (bytes := xCode 68) (maxL := xml 68) (ret := xRet 68) (n := n - 1) ⟨hx, hb, hml, hown, hts⟩ hM (va_cwO (n - 1) hts ?_ (xwM_n hem) rfl rfl (xcode_ok 67 (by decide +kernel)) ⟨by decide, by decide, hpn⟩ hR9) hp rfl hlm hla rfl (xroom hst) hd hf)
        unfold va_wsO
        exact xwA_l6 hy2 (xwA_mem xcalS.1.1 rfl) (xwA_mem xcalS.1.2 rfl) (xwA_mem xcalS.2.1 rfl) (xwA_mem xcalS.2.2.1 rfl) (xwA_mem xcalS.2.2.2 rfl) (xini_y hy2)
      · have hq := of_decide_eq_true hq
        simp only [Prod.mk.injEq] at hq
        obtain ⟨⟨hyo, rfl⟩, -, rfl, -⟩ := hq
        subst hrk9
        rw [hyo] at hown
        refine vx_of_va (va_runU (C := "java/lang/StringBuilder") (owner := "java/lang/AbstractStringBuilder") (x := ⟨"java/lang/AbstractStringBuilder", "append", "(Ljava/lang/String;)Ljava/lang/AbstractStringBuilder;"⟩) (bytes := xCode 55) (maxL := xml 55) (ret := xRet 55) (n := n - 1) ⟨hx, hb, hml, hown, hts⟩ hM (va_cwO (n - 1) hts ?_ (xwM_n hem) rfl rfl (xcode_ok 53 (by decide +kernel)) ⟨by decide, by decide, hpn⟩ hR9) hp rfl hlm hla rfl (xroom hst) hd hf)
        unfold va_wsO
        exact xwA_l6 hy2 (xwA_mem xcalA.1.1 rfl) (xwA_mem xcalA.1.2 rfl) (xwA_mem xcalA.2.1 rfl) (xwA_mem xcalA.2.2.1 rfl) (xwA_mem xcalA.2.2.2 rfl) (xini_y hy2)
set_option maxHeartbeats 2000000 in
theorem xrunS {p : Program} {l : Launch} {e : Env} {R : Room} {s : State} {m : MethodId} {args : Array Value} {below : List Frame} {meth : Method} {c : Code} {H : Heap} {locs : List Loc} {cells slots : Nat} {A : Nat → Prop} {ad : xA}
    {y y2 n t kx rk pc ix : Nat} {hs : List Nat} {C : List xE} {M : xM} {as st : List xV} {r : (Option xV ⊕ Nat) × xM} {la : Array Slot} {rg2 : Option (List (Nat × Nat))}
    (F : xFx y p l s m args meth c) (I : xInv s A ad M s.heap H locs) (Z : xCs A ad s) (Ze : xCe A s) (hAA : ∀ q, s.heap.size ≤ q → A q) (hM : xMt l y2 A ad M rg2 as r)
    (h9 : Nat.beq y2 9999 = false) (hok : xokCS y C pc ix (y2 :: n :: t :: kx :: rk :: hs) = true) (has : as.length = n) (hrt : xrets0 hs = true → ∃ v, r.1 = .inl v) (hst : xaw st ≤ 8) (hla : la.size = xml y) (hd : decode (xCode y) pc = .ok (.invokestatic ix, 3))
    (hf : cells + (gn r.2 100 0 0 - gn M 100 0 0) ≤ R.cells ∧ slots + (gn r.2 100 0 1 - gn M 100 0 1) ≤ R.slots) (hRf : 10 + xdp y ≤ R.frames) (hRl : 240 + 40 * xdp y ≤ R.locals) :
    vx_Run p l e R s m args below meth c H locs cells slots (gn r.2 100 0 0 - gn M 100 0 0) (gn r.2 100 0 1 - gn M 100 0 1) (F0 m pc la ((as.reverse ++ st).map (xenc ad))) (st.map (xenc ad)) (xQc A ad M rg2 r (as.map (xenc ad)).toArray) (xXC A ad M r) A := by
  obtain ⟨hx, hb, hml, hown, hts, hlk, hret, hnm, htr⟩ := F
  unfold xokCS at hok
  simp only [h9] at hok
  have hY := and_l (and_l hok)
  have hy2 : y2 < 196 := Nat.le_of_ble_eq_true (and_l (and_l hY))
  have hdp : xdp y2 < xdp y := Nat.le_of_ble_eq_true (and_r (and_l hY))
  have hok := and_r hok
  have hpn := xpn_ok (and_l hok)
  have hok := and_r hok
  have P := xPc_of I Z Ze hAA (a := (as.map (xenc ad)).toArray) rfl
  rw [xrev]
  have hp : PreS s H (xPc A ad M as) (as.map (xenc ad)) := ⟨xPc_blind, P⟩
  have hlm : (as.map (xenc ad)).length = n := by rw [List.length_map]; exact has
  obtain ⟨-, hmh, hvh, hml2, hoc2⟩ := xmfact_n (Nat.lt_succ_of_lt hy2)
  have hR9 : (xrm y2 M r).frames + 1 ≤ R.frames ∧ 8 + (xml y2 + 11) + (xrm y2 M r).locals ≤ R.locals := by
    show 10 + xdp y2 + 1 ≤ _ ∧ 8 + (xml y2 + 11) + (240 + 40 * xdp y2) ≤ _
    omega
  rcases (Bool.or_eq_true _ _).mp hok with h | h
  · rcases (Bool.or_eq_true _ _).mp h with h | h
    · have hq := xcal_f (and_l h) rfl
      refine vx_runS (bytes := xCode y2) (maxL := xml y2) (ret := xRet y2) (ws := xwM y2) (n := n) ⟨hx, hb, hml, hown, hts⟩ hM (va_cwS n hts ?_ (xwM_n (and_r h)) rfl rfl ⟨hmh, hvh, hpn⟩ hR9) hp rfl hlm hla rfl (xroom hst) hd hf
      unfold va_wsS
      exact xwA_l3 hy2 (xcalL1 _ hq) (xcalS1 _ hq) (xini_y hy2)
    · have hq := xcal_f (and_l h) rfl
      have hne : (xhh y2).isEmpty = false := by simpa using and_r h
      refine vx_runSX (hh := xhh y2) (bytes := xCode y2) (maxL := xml y2) (ret := xRet y2) (ws := xwM y2) (n := n) ⟨hx, hb, hml, hown, hts⟩ hM (vx_cwSW n hts ?_ (xwM_h hne) rfl rfl ⟨hmh, hvh, hpn⟩ hR9) hp rfl hlm hla rfl (xroom hst) hd hf
      unfold va_wsS
      exact xwA_l3 hy2 (xcalL8 _ hq) (xcalS8 _ hq) (xini_y hy2)
  · obtain ⟨v, M', rfl⟩ := xrets_no (hrt (and_l h))
    have hM := xMt_ret hM
    have hq := xcal_f (and_l (and_r h)) rfl
    have hl9 : va_Nw (.methodLinkNest (xcn (xoc y)) ix (xY y2) "ProjectPlanner") s := Z.2.2.2.2.2.2.1 ((xoc y, ix), 2, y2, 0) hq
    have cn := va_cnB (Ts := xwA) (ws' := xwA) (mc := gn M' 100 0 0 - gn M 100 0 0) (ms := gn M' 100 0 1 - gn M 100 0 1) (own := xcn (xoc y)) (host := "ProjectPlanner") (index := ix) (y := xY y2) (s := s) (args := args) (R := R) (bytes := xCode y2) (maxL := xml y2) (ret := xRet y2) (ws := xwM y2) (rm := xrm y2 M (.inl v, M')) n hts (xwM_in hy2) (xwM_n (and_r (and_r h))) rfl rfl hl9 (hts _ (xini_y hy2)) ⟨hmh, hvh, hpn⟩ hR9
    exact vx_of_va (va_runSN (bytes := xCode y2) (maxL := xml y2) (ret := xRet y2) (ws := xwM y2) (n := n) (host := "ProjectPlanner") ⟨hx, hb, hml, hown, hts⟩ hM ⟨cn, hts _ (xcalS2 _ hq), trivial⟩ hp rfl hlm hla rfl (xroom hst) hd hf)
set_option maxHeartbeats 2000000 in
theorem xrunI {p : Program} {l : Launch} {e : Env} {R : Room} {s : State} {m : MethodId} {args : Array Value} {below : List Frame} {meth : Method} {c : Code} {H : Heap} {locs : List Loc} {cells slots : Nat} {A : Nat → Prop} {ad : xA}
    {y y2 n t kx rk pc ix : Nat} {hs : List Nat} {C : List xE} {M : xM} {as st : List xV} {r : (Option xV ⊕ Nat) × xM} {la : Array Slot} {rg rg2 : Option (List (Nat × Nat))}
    (F : xFx y p l s m args meth c) (I : xInv s A ad M s.heap H locs) (Z : xCs A ad s) (Ze : xCe A s) (hAA : ∀ q, s.heap.size ≤ q → A q) (va : ∀ v ∈ as, xvok rg M v) (hM : xMt l y2 A ad M rg2 as r)
    (h9 : Nat.beq y2 9999 = false) (hok : xokCI y C pc ix (y2 :: n :: t :: kx :: rk :: hs) = true) (has : as.length = n) (hrk : xrcv rk as = true) (hrt : xrets0 hs = true → ∃ v, r.1 = .inl v) (hst : xaw st ≤ 8) (hla : la.size = xml y) (hd : decode (xCode y) pc = .ok (.invokespecial ix, 3))
    (hf : cells + (gn r.2 100 0 0 - gn M 100 0 0) ≤ R.cells ∧ slots + (gn r.2 100 0 1 - gn M 100 0 1) ≤ R.slots) (hRf : 10 + xdp y ≤ R.frames) (hRl : 240 + 40 * xdp y ≤ R.locals) :
    vx_Run p l e R s m args below meth c H locs cells slots (gn r.2 100 0 0 - gn M 100 0 0) (gn r.2 100 0 1 - gn M 100 0 1) (F0 m pc la ((as.reverse ++ st).map (xenc ad))) (st.map (xenc ad)) (xQc A ad M rg2 r (as.map (xenc ad)).toArray) (xXC A ad M r) A := by
  obtain ⟨hx, hb, hml, hown, hts, hlk, hret, hnm, htr⟩ := F
  unfold xokCI at hok
  simp only [h9] at hok
  have hY := and_l (and_l hok)
  have hy2 : y2 < 196 := Nat.le_of_ble_eq_true (and_l (and_l hY))
  have hdp : xdp y2 < xdp y := Nat.le_of_ble_eq_true (and_r (and_l hY))
  have hok := and_r hok
  have hk0 : 0 < rk := Nat.le_of_ble_eq_true (and_r (and_l (and_l hok)))
  have hk51 : rk < 51 := Nat.le_of_ble_eq_true (and_r (and_l hok))
  have hok := and_r hok
  obtain ⟨v, M', rfl⟩ := xrets_no (hrt (and_l (and_l hok)))
  have hM := xMt_ret hM
  have hpn := xpn_ok (and_l (and_r (and_l hok)))
  have hem := and_r (and_r (and_l hok))
  have hok := and_r hok
  obtain ⟨o, as', rfl⟩ := xrcv_ok hk0 hrk
  have hlen : as'.length = n - 1 := by rw [← has]; simp
  have P := xPc_of I Z Ze hAA (a := (((rk, Value.ref o) :: as').map (xenc ad)).toArray) rfl
  have e1 : ((rk, Value.ref o) :: as').map (xenc ad) = .ref (ad rk o) :: as'.map (xenc ad) := by rw [List.map_cons, xenc_ref (by omega)]
  have e2 := xrev1 (ad := ad) rk o as' st (by omega)
  rw [e2]
  rw [e1] at P ⊢
  have hlm : (as'.map (xenc ad)).length = n - 1 := by rw [List.length_map]; exact hlen
  obtain ⟨-, hmh, hvh, hml2, hoc2⟩ := xmfact_n (Nat.lt_succ_of_lt hy2)
  have hR9 : (xrm y2 M (.inl v, M')).frames + 1 ≤ R.frames ∧ 8 + (xml y2 + 11) + (xrm y2 M (.inl v, M')).locals ≤ R.locals := by
    show 10 + xdp y2 + 1 ≤ _ ∧ 8 + (xml y2 + 11) + (240 + 40 * xdp y2) ≤ _
    omega
  rcases (Bool.or_eq_true _ _).mp hok with h | h
  · have hin : (xY y2).name = "<init>" := by simpa using and_l (and_l h)
    have hrn : xRet y2 = none := of_decide_eq_true (and_r (and_l h))
    obtain ⟨q, hq, hq2⟩ := List.any_eq_true.mp (and_r h)
    have hp : PreS s H (xPc A ad M ((rk, .ref o) :: as')) (.ref (ad rk o) :: as'.map (xenc ad)) := ⟨xPc_blind, P⟩
    obtain ⟨⟨oc, jx⟩, md, y3, rk3⟩ := q
    simp only at hq2
    obtain rfl := Nat.eq_of_beq_eq_true (and_l hq2)
    obtain rfl := Nat.eq_of_beq_eq_true (and_l (and_r hq2))
    obtain rfl := Nat.eq_of_beq_eq_true (and_l (and_r (and_r hq2)))
    have hw : xwM y3 = Cond.code (xY y3) (xCode y3) (xml y3) none :: xwA := by rw [xwM_n hem, hrn]
    rcases (Bool.or_eq_true _ _).mp (and_r (and_r (and_r hq2))) with h3 | h4
    · have hq := xcal_f (List.contains_iff_mem.mpr hq) (Nat.eq_of_beq_eq_true h3)
      have hl9 : va_Nw (.methodLinkNest (xcn (xoc y)) jx (xY y3) "ProjectPlanner") s := Z.2.2.2.2.2.2.2 ((xoc y, jx), md, y3, rk3) hq
      have cn := va_cnB (Ts := xwA) (ws' := xwA) (mc := gn M' 100 0 0 - gn M 100 0 0) (ms := gn M' 100 0 1 - gn M 100 0 1) (own := xcn (xoc y)) (host := "ProjectPlanner") (index := jx) (y := xY y3) (s := s) (args := args) (R := R) (bytes := xCode y3) (maxL := xml y3) (ret := none) (ws := xwM y3) (rm := xrm y3 M (.inl v, M')) (n - 1) hts (xwM_in hy2) hw rfl rfl hl9 (hts _ (xini_y hy2)) ⟨hmh, hvh, hpn⟩ hR9
      exact vx_of_va (va_runIN (bytes := xCode y3) (maxL := xml y3) (ws := xwM y3) (n := n - 1) (host := "ProjectPlanner") ⟨hx, hb, hml, hown, hts⟩ hM ⟨cn, hin, hts _ (xcalI3 _ hq)⟩ hp rfl hlm hla rfl (xroom hst) hd hf)
    · have hq := xcal_f (List.contains_iff_mem.mpr hq) (Nat.eq_of_beq_eq_true h4)
      exact vx_of_va (va_runI (bytes := xCode y3) (maxL := xml y3) (ws := xwM y3) (n := n - 1) ⟨hx, hb, hml, hown, hts⟩ hM ⟨callB_of (n - 1) hts (xwM_in hy2) hw rfl rfl (hts _ (xini_y hy2)) (hts _ (xcalL4 _ hq)) ⟨hmh, hvh, hpn⟩ hR9, hin, hts _ (xcalI4 _ hq)⟩ hp rfl hlm hla rfl (xroom hst) hd hf)
  · have hni : (xY y2).name ≠ "<init>" := by simpa using and_r h
    have hq := xcal_f (and_l (and_l h)) rfl
    have hfd : xfd rk ≠ [] := fun e9 => by
      have h1 := and_r (and_l h)
      rw [e9] at h1
      cases h1
    have hv : o < xc M rk := by
      rcases va _ List.mem_cons_self with z | z
      · omega
      · exact z.2.1
    obtain ⟨cell, hc1, hc2, -, -, hc5, -⟩ := (I.1 rk o (by omega) hv).1 hfd
    have hp : PreV s H (xcl rk) (ad rk o) (xPc A ad M ((rk, .ref o) :: as')) (as'.map (xenc ad)) := ⟨xPc_blind, ⟨cell, hc1, hc2, hc5⟩, P⟩
    have h50 : rk = 50 := Nat.eq_of_beq_eq_true (List.all_eq_true.mp xcal_6 _ (List.contains_iff_mem.mp (and_l (and_l h))))
    obtain ⟨cC, hat⟩ := classAt_of (hts _ (xwA_mem xSB_new rfl))
    have hat : ClassAt s (xcl rk) cC := by rw [h50]; exact hat
    refine vx_of_va (va_runSU (C := xcl rk) (cC := cC) (bytes := xCode y2) (maxL := xml y2) (ret := xRet y2) (ws := xwM y2) (n := n - 1) hat ⟨hx, hb, hml, hown, hts⟩ hM (va_cwSU (n - 1) hts ?_ (xwM_n hem) rfl rfl ⟨hni, hpn⟩ hR9) hp rfl hlm hla rfl (xroom hst) hd hf)
    unfold va_wsSU
    exact xwA_l5 hy2 (xcalL6 _ hq) (xcalM6 _ hq) (xcalP6 _ hq) (xcalI6 _ hq) (xini_y hy2)
