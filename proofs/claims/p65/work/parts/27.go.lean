/-! EVERY FRAME DOES WHAT THE PURE MACHINE SAYS. -/
def xGoP (l : Launch) (n : Nat) : Prop := ∀ (p : Program) (e : Env) (R : Room) (s : State) (m : MethodId) (args : Array Value) (below : List Frame) (meth : Method) (c : Code) (y fc fs : Nat) (A : Nat → Prop) (ad0 : xA) (M0 : xM) (rg : Option (List (Nat × Nat))) (r : (Option xV ⊕ Nat) × xM),
  y < 197 → xFx y p l s m args meth c → (y ≠ 196 → c.exceptionTable.toList = tableOf (xhh y)) → xCe A s → (xreg y = false → ∃ L, rg = some L) → (xreg y = true → rg = none) → (∀ L, rg = some L → L.all (fun q => Nat.blt q.1 60) = true) → (∀ q, s.heap.size ≤ q → A q) →
  10 + xdp y ≤ R.frames → 240 + 40 * xdp y ≤ R.locals → fc ≤ R.cells → fs ≤ R.slots →
  ∀ (cs : List xE) (ls st : List xV) (M : xM) (ad : xA) (H : Heap) (locs : List Loc) (la : Array Slot) (cells slots : Nat),
    (∃ j, cs = (xtab y).drop j) → xexec xtab xml n (xtab y) cs ls st M = some r → xCs A ad s → xInv s A ad M s.heap H locs → xlr ad (xml y) la ls → (∀ v ∈ ls, xvok rg M v) → (∀ v ∈ st, xvok rg M v) → xrok rg M →
    (∀ k o, k < 60 → k ≠ 51 → o < xc M0 k → ad k o = ad0 k o) → xmon M0 M → cells + gn r.2 100 0 0 ≤ fc + gn M 100 0 0 → slots + gn r.2 100 0 1 ≤ fs + gn M 100 0 1 →
    W p l e R s m args below meth c H locs cells slots (vx_MQ below (xQc A ad0 M0 rg r) (xXC A ad0 M0 r) args s fc fs A) (F0 m (xpc cs) la (st.map (xenc ad)))
theorem xtab0 : (List.range 197).all (fun y => Nat.beq (xpc (xtab y)) 0) = true := by decide +kernel
theorem xpc0 {y : Nat} (h : y < 197) : xpc (xtab y) = 0 := Nat.eq_of_beq_eq_true (List.all_eq_true.mp xtab0 y (List.mem_range.mpr h))
set_option maxHeartbeats 2000000 in
theorem xMt_of {l : Launch} (hlt : l.stackTraces = false) {n : Nat} (hG : xGoP l n) {y : Nat} (hy : y < 196) (hne : y ≠ 44 ∧ y ≠ 47) {A : Nat → Prop} {ad : xA} {M : xM} {rg : Option (List (Nat × Nat))} {as : List xV} {r : (Option xV ⊕ Nat) × xM} (hA : xArg y M rg as) (h : xexec xtab xml n (xtab y) (xtab y) (xarg (xml y) as) [] M = some r) : xMt l y A ad M rg as r := by
  obtain ⟨a1, a2, a3, a4, a5, a6⟩ := hA
  have hmon := xexec_mon n h
  have m0 := hmon.2.2.2.1
  have m1 := hmon.2.2.2.2
  have hp : plainName (xY y).cls = true := (xmfact_n (Nat.lt_succ_of_lt hy)).1 hne
  have body : ∀ (p : Program) (e : Env) (s : State) (m : MethodId) (args : Array Value) (below : List Frame) (meth : Method) (c : Code) (s₁ : State), BodyLoose p l (xY y) (headSpec (xwM y) (xrm y M r)) (xCode y) (xml y) (xRet y) e s m args below meth c s₁ → c.maxLocals = xml y → c.exceptionTable.toList = tableOf (xhh y) → xPc A ad M as args s →
      W p l e (headSpec (xwM y) (xrm y M r)).room s m args below meth c s.heap [] 0 0 (vx_MQ below (xQc A ad M rg r) (xXC A ad M r) args s (gn r.2 100 0 0 - gn M 100 0 0) (gn r.2 100 0 1 - gn M 100 0 1) A) (entryFrame m args (xml y)) := by
    intro p e s m args below meth c s₁ B hml hET hP
    obtain ⟨rfl, g2, g3, g4, g5, g6, g7, g8, g9⟩ := hP
    have hts := atoms_spec (ws := xwM y) B.pre
    rw [lg_entry_eq]
    have this := hG p e (xrm y M r) s m ((as.map (xenc ad)).toArray) below meth c y (gn r.2 100 0 0 - gn M 100 0 0) (gn r.2 100 0 1 - gn M 100 0 1) A ad M rg r (Nat.lt_succ_of_lt hy) ⟨B.exec, B.bytes, hml, findClass_of_methodNamed B.named, fun w hw => hts w (List.mem_cons_of_mem _ hw), B.notSynchronized, B.returns, fun h => (name_of_methodNamed B.named B.method).1.trans h, hlt⟩ (fun _ => hET) g8 a1 a2 a4 g9 (Nat.le_refl _) (Nat.le_refl _) (Nat.le_refl _) (Nat.le_refl _)
      (xtab y) (xarg (xml y) as) [] M ad s.heap [] _ 0 0 ⟨0, rfl⟩ h g7 ⟨g2, g3, g4, g5, g6, va_S.rf⟩ (xarg_lr ad a6) (xarg_all xvok_J as _ a5) (fun v hv => nomatch hv) a3 (fun _ _ _ _ _ => rfl) (xmon_refl M) (by omega) (by omega)
    rw [xpc0 (Nat.lt_succ_of_lt hy)] at this
    exact this
  unfold xMt
  cases hem : (xhh y).isEmpty with
  | true =>
    refine vx_ofW (cc := xCode y) (maxL := xml y) (ret := xRet y) hp (xwM_n hem) (fun p e s m args below meth c s₁ B hml ht hP => body p e s m args below meth c s₁ B hml ?_ hP)
    rw [List.isEmpty_iff.mp hem]
    cases hc : c.exceptionTable.toList with
    | nil => rfl
    | cons a b => exact absurd (ht a (by rw [hc]; exact List.mem_cons_self)) id
  | false =>
    exact vx_ofWH (cc := xCode y) (maxL := xml y) (ret := xRet y) (hh := xhh y) hp (xwM_h hem) (fun p e s m args below meth c s₁ B hml hP => body p e s m args below meth c s₁ B hml (vx_table (x := xY y) B (atoms_spec (ws := xwM y) B.pre _ (by rw [xwM_h hem]; exact List.mem_cons_self))) hP)
set_option maxHeartbeats 4000000 in
theorem xGo_step {l : Launch} (hlt : l.stackTraces = false) {n : Nat} (ih : xGoP l n) : xGoP l (n + 1) := by
  intro p e R s m args below meth c y fc fs A ad0 M0 rg r hy F hET Ze hrg hrg2 hgL hAA hRf hRl hfc hfs cs ls st M ad H locs la cells slots hcs h Z I hl vl vs hr hb hm0 hc hs
  cases cs with
  | nil => cases h
  | cons q cs =>
    obtain ⟨pc, i, aux, kc⟩ := q
    obtain ⟨j, hj⟩ := hcs
    have hok := xokT_at j (xok_tab hy) hj.symm
    have hcs : ∃ j, cs = (xtab y).drop j := ⟨j + 1, by rw [← List.drop_drop, ← hj]; rfl⟩
    have hmn : ∀ (cs' : List xE) (ls' st' : List xV) (M' : xM), xexec xtab xml n (xtab y) cs' ls' st' M' = some r → xmon M' r.2 := fun _ _ _ _ h => xexec_mon n h
    replace h : xstep xtab xml (xexec xtab xml n) (xexec xtab xml n) (xtab y) ((pc, i, aux, kc) :: cs) ls st M = some r := h
    have go : ∀ (cs' : List xE) (ls' st' : List xV) (M' : xM) (ad' : xA) (H1 : Heap) (locs1 : List Loc) (la1 : Array Slot) (cells1 slots1 : Nat), xexec xtab xml n (xtab y) cs' ls' st' M' = some r → (∃ j, cs' = (xtab y).drop j) → xS0 ad ad' M → xmon M M' → xInv s A ad' M' s.heap H1 locs1 → xlr ad' (xml y) la1 ls' → (∀ v ∈ ls', xvok rg M' v) → (∀ v ∈ st', xvok rg M' v) → cells1 + gn r.2 100 0 0 ≤ fc + gn M' 100 0 0 → slots1 + gn r.2 100 0 1 ≤ fs + gn M' 100 0 1 → W p l e R s m args below meth c H1 locs1 cells1 slots1 (vx_MQ below (xQc A ad0 M0 rg r) (xXC A ad0 M0 r) args s fc fs A) (F0 m (xpc cs') la1 (st'.map (xenc ad'))) := fun cs' ls' st' M' ad' H1 locs1 la1 cells1 slots1 g1 g2 g3 g4 g5 g6 g7 g8 g9 g10 =>
      ih p e R s m args below meth c y fc fs A ad0 M0 rg r hy F hET Ze hrg hrg2 hgL hAA hRf hRl hfc hfs cs' ls' st' M' ad' H1 locs1 la1 cells1 slots1 g2 g1 (Z.s0 g3 I.2.2.2.2.1) g5 g6 g7 g8 (xrok.mon g4 hgL hr) (fun k o hk h5 ho => (g3.1 k o hk h5 (Nat.lt_of_lt_of_le ho (hm0.1 k))).trans (hb k o hk h5 ho)) (xmon_trans hm0 g4) g9 g10
    show W p l e R s m args below meth c H locs cells slots _ (F0 m pc la (st.map (xenc ad)))
    unfold xstep at h
    simp only at h
    split at h
    · rename_i ls1 st1 M1 hp
      have hmo := xpure_mon hp
      have z1 := hmo.2.2.2.1
      have z2 := hmo.2.2.2.2
      exact xpure_W F Z I hl vl vs hr hrg hok.1 hp (fun H1 locs1 la1 I1 hl1 vl1 vs1 => go cs ls1 st1 M1 ad H1 locs1 la1 cells slots h hcs ⟨fun _ _ _ _ _ => rfl, rfl⟩ hmo I1 hl1 vl1 vs1 (by omega) (by omega))
    · rename_i hpn
      cases hap : xapart_i i aux with
      | false => exact xctl_W F Z I hl vl vs hr hrg hrg2 hAA hok.1 hcs hap h hmn hc hs hfc hfs (fun cs' ls' st' M' ad' H1 locs1 la1 cells1 slots1 g1 g2 g3 => go cs' ls' st' M' ad' H1 locs1 la1 cells1 slots1 g1 g2 g3.s0)
      | true =>
        cases hre : xrets i with
        | true => exact xret_W F I vs hb hok.1 hre h hc hs
        | false =>
          cases hca : xcalls i with
          | true =>
            have hinv : xinvoke xtab xml (xexec xtab xml n) (xexec xtab xml n) aux (xtab y) cs ls st M = some r := by
              cases i <;> first | exact h | cases hca
            exact xinvoke_W F hET Z Ze I hl vl vs hr hrg hrg2 hgL hAA hb hm0 hcs hok.1 hok.2 hca hinv (fun _ _ _ _ _ _ h => xexec_mon n h) hmn hc hs hfc hfs hRf hRl (fun y2 rg2 as r1 h1 h2 h3 h4 => xMt_of hlt ih h1 h2 h3 h4) (xMx_ok n M) go
          | false =>
            cases i with
            | new k =>
              have hlen : aux.length < 3 := Nat.le_of_ble_eq_true hap
              simp only [xctl] at h
              split at h
              · rename_i E n6
                split at h
                · cases h
                  have hz : (Nat.beq n6 6 && xthL.any (fun q => Nat.beq q.1 y && (Nat.beq q.2.1 pc && Nat.beq q.2.2.1 E))) = true := hok.2
                  obtain rfl := Nat.eq_of_beq_eq_true (and_l hz)
                  obtain ⟨q, hq, hq2⟩ := List.any_eq_true.mp (and_r hz)
                  obtain ⟨qy, qp, qE, is, w⟩ := q
                  obtain rfl := Nat.eq_of_beq_eq_true (and_l hq2)
                  obtain rfl := Nat.eq_of_beq_eq_true (and_l (and_r hq2))
                  obtain rfl := Nat.eq_of_beq_eq_true (and_r (and_r hq2))
                  have h1 := List.all_eq_true.mp xths_all _ hq
                  have hne : qy ≠ 196 := fun e9 => by
                    rw [e9] at h1
                    simp only at h1
                    have := Nat.eq_of_beq_eq_true (and_l h1)
                    exact absurd this (by decide)
                  exact xthr_W F Ze.1 I hb (hET hne) hq hl.2.1 (by omega) (by omega) hc hs hfc hfs
                · cases h
              · simp only [List.length_cons, List.length_nil] at hlen
                omega
              · cases h
            | _ => first | (cases hap; done) | (cases hre; done) | (cases hca; done)
theorem xGo {l : Launch} (hlt : l.stackTraces = false) : ∀ n, xGoP l n
  | 0 => by
    intro p e R s m args below meth c y fc fs A ad0 M0 rg r hy F hET Ze hrg hrg2 hgL hAA hRf hRl hfc hfs cs ls st M ad H locs la cells slots hcs h
    cases h
  | n + 1 => xGo_step hlt (xGo hlt n)
