/-! THE CALL'S INSTRUCTION, THE FRAME. -/
set_option maxHeartbeats 2000000 in
theorem xinvoke_W {p : Program} {l : Launch} {e : Env} {R : Room} {s : State} {m : MethodId} {args : Array Value} {below : List Frame} {meth : Method} {c : Code} {H : Heap} {locs : List Loc} {cells slots : Nat} {A : Nat → Prop} {ad ad0 : xA} {Ec En : xP}
    {y pc fc fs : Nat} {i : Instr} {aux : List Nat} {kc : Int32} {C cs : List xE} {ls st : List xV} {M M0 : xM} {r : (Option xV ⊕ Nat) × xM} {la : Array Slot} {rg : Option (List (Nat × Nat))}
    (F : xFx y p l s m args meth c) (hET : y ≠ 196 → c.exceptionTable.toList = tableOf (xhh y)) (Z : xCs A ad s) (Ze : xCe A s) (I : xInv s A ad M s.heap H locs) (hl : xlr ad (xml y) la ls) (vl : ∀ v ∈ ls, xvok rg M v) (vs0 : ∀ v ∈ st, xvok rg M v) (hr : xrok rg M) (hrg : xreg y = false → ∃ L, rg = some L) (hrg2 : xreg y = true → rg = none) (hgL : ∀ L, rg = some L → L.all (fun q => Nat.blt q.1 60) = true) (hAA : ∀ q, s.heap.size ≤ q → A q)
    (hb : ∀ k o, k < 60 → k ≠ 51 → o < xc M0 k → ad k o = ad0 k o) (hm0 : xmon M0 M) (hcs : ∃ j, cs = C.drop j)
    (hok : xok y C (pc, i, aux, kc) (xpc cs) = true) (hokC : xokC y C pc i aux = true) (hi : xcalls i = true) (h : xinvoke xtab xml Ec En aux C cs ls st M = some r)
    (hmc : ∀ C' cs' ls' st' M' r', Ec C' cs' ls' st' M' = some r' → xmon M' r'.2) (hmn : ∀ cs' ls' st' M', En C cs' ls' st' M' = some r → xmon M' r.2)
    (hc : cells + gn r.2 100 0 0 ≤ fc + gn M 100 0 0) (hs9 : slots + gn r.2 100 0 1 ≤ fs + gn M 100 0 1) (hfc : fc ≤ R.cells) (hfs : fs ≤ R.slots) (hRf : 10 + xdp y ≤ R.frames) (hRl : 240 + 40 * xdp y ≤ R.locals)
    (hM : ∀ y2 rg2 as r1, y2 < 196 → (y2 ≠ 44 ∧ y2 ≠ 47) → xArg y2 M rg2 as → Ec (xtab y2) (xtab y2) (xarg (xml y2) as) [] M = some r1 → xMt l y2 A ad M rg2 as r1) (hmx : xMx Ec M)
    (kk : ∀ (cs' : List xE) (ls' st' : List xV) (M' : xM) (ad' : xA) (H1 : Heap) (locs1 : List Loc) (la1 : Array Slot) (cells1 slots1 : Nat), En C cs' ls' st' M' = some r → (∃ j, cs' = C.drop j) → xS0 ad ad' M → xmon M M' → xInv s A ad' M' s.heap H1 locs1 → xlr ad' (xml y) la1 ls' → (∀ v ∈ ls', xvok rg M' v) → (∀ v ∈ st', xvok rg M' v) → cells1 + gn r.2 100 0 0 ≤ fc + gn M' 100 0 0 → slots1 + gn r.2 100 0 1 ≤ fs + gn M' 100 0 1 → W p l e R s m args below meth c H1 locs1 cells1 slots1 (vx_MQ below (xQc A ad0 M0 rg r) (xXC A ad0 M0 r) args s fc fs A) (F0 m (xpc cs') la1 (st'.map (xenc ad')))) :
    W p l e R s m args below meth c H locs cells slots (vx_MQ below (xQc A ad0 M0 rg r) (xXC A ad0 M0 r) args s fc fs A) (F0 m pc la (st.map (xenc ad))) := by
  obtain ⟨y2, n, t, kx, rk, hs, as, st, rfl, htk, hst4, hrcv, haw, hman⟩ := xinv_man h
  obtain ⟨rfl, has⟩ := xtake_ok htk
  have va : ∀ v ∈ as, xvok rg M v := fun v hv => vs0 v (List.mem_append_left _ (List.mem_reverse.mpr hv))
  have vs : ∀ v ∈ st, xvok rg M v := fun v hv => vs0 v (List.mem_append_right _ hv)
  have hla : la.size = xml y := hl.2.1
  have hlm : la.size = c.maxLocals := hla.trans F.2.2.1.symm
  have hsum : ((st.map (xenc ad)).map fun v => v.category).sum ≤ 8 := by
    have h2 := xcat_sum ad st
    omega
  have bnd : ∀ {r1 : (Option xV ⊕ Nat) × xM}, xmon M r1.2 → xmon r1.2 r.2 → cells + (gn r1.2 100 0 0 - gn M 100 0 0) ≤ R.cells ∧ slots + (gn r1.2 100 0 1 - gn M 100 0 1) ≤ R.slots := fun h1 h2 => by
    have a1 := h1.2.2.2.1
    have a2 := h1.2.2.2.2
    have b1 := h2.2.2.2.1
    have b2 := h2.2.2.2.2
    omega
  cases i with
  | invokevirtual j =>
    obtain ⟨hd, hnx, -⟩ := xok_dec (e := false) hok rfl
    have hnx : xpc cs = pc + 3 := hnx
    have hokC : xokCV y C pc j (y2 :: n :: t :: kx :: rk :: hs) = true := hokC
    cases h9 : Nat.beq y2 9999 with
    | false =>
      have hq := hokC
      unfold xokCV at hq
      simp only [h9] at hq
      have hY := and_l (and_l hq)
      have hkx : kx ≠ 51 := fun e => by
        have := and_r (and_l hq)
        rw [e] at this
        cases this
      rw [h9, Bool.false_or] at haw
      exact xcallM F hET Ze I hl vl va vs hr hrg hrg2 hgL hb hm0 hcs hnx hmc hmn hY hkx (Nat.le_of_ble_eq_true haw) (fun r1 rg2 hE hrets hmr hA => xrunV F I Z Ze hAA va (hM y2 rg2 as r1 (Nat.le_of_ble_eq_true (and_l (and_l hY))) (xcal_nV h9 hokC) hA hE) h9 hokC has hrcv hrets hst4 hla hd (bnd (hmc _ _ _ _ _ _ hE) hmr) hRf hRl) hman hc hs9 kk
    | true =>
      unfold xokCV at hokC
      simp only [h9] at hokC
      obtain ⟨hx, hbc, hml, hown, hts, hlk, hrt, hnm, htr⟩ := F
      have hoc := Nat.eq_of_beq_eq_true (and_l (and_l hokC))
      have hix := Nat.eq_of_beq_eq_true (and_r (and_l hokC))
      have hhs : hs = [4, 47] := of_decide_eq_true (and_r (and_r (and_r (and_r hokC))))
      subst hhs
      subst hix
      rw [hoc] at hown
      unfold xman at hman
      simp only at hman
      split at hman
      · rename_i ks os hz
        obtain ⟨hg, h2⟩ := xgd_ok2 hman
        obtain rfl := Nat.eq_of_beq_eq_true hg
        have hos := (xvok_lt (va _ List.mem_cons_self) (by decide)).2
        have hmo : xmon M (xcpy (xnewD M 47 (xlen 49 os M)) 49 os 47 (gn M 101 47 0) 0 0 (xlen 49 os M)) := xmon_trans (xmon_newD rfl) (xmon_cpy rfl)
        have hrr := hmn _ _ _ _ h2
        have n1 : gn (xcpy (xnewD M 47 (xlen 49 os M)) 49 os 47 (gn M 101 47 0) 0 0 (xlen 49 os M)) 100 0 0 = gn M 100 0 0 + 1 := by
          rw [gn_xcpy_ne (by decide)]
          exact (gn_xst_ne (by decide)).trans (xnew_cells (by decide))
        have n2 : gn (xcpy (xnewD M 47 (xlen 49 os M)) 49 os 47 (gn M 101 47 0) 0 0 (xlen 49 os M)) 100 0 1 = gn M 100 0 1 + xlen 49 os M := by
          rw [gn_xcpy_ne (by decide)]
          exact (gn_xst_ne (by decide)).trans (xnew_slots (by decide))
        have n3 : xc (xcpy (xnewD M 47 (xlen 49 os M)) 49 os 47 (gn M 101 47 0) 0 0 (xlen 49 os M)) 47 = xc M 47 + 1 := by
          rw [xc, gn_xcpy_ne (by decide)]
          exact (xmk_newD (M := M) (k := 47) (n := xlen 49 os M) (by decide)).1
        have z1 := hrr.2.2.2.1
        have z2 := hrr.2.2.2.2
        have hsm := xSm_up (ad := ad) (M := M) (k := 47) (a := H.size) (by decide)
        have e0 : (([((49 : Nat), Value.ref os)]).reverse ++ st).map (xenc ad) = .ref (ad 49 os) :: st.map (xenc ad) := by
          show (((49 : Nat), Value.ref os) :: st).map (xenc ad) = _
          rw [List.map_cons, xenc_ref (by decide)]
        rw [e0]
        refine xw_clone hx hbc hlm hts hown Z I hAA hos rfl rfl rfl (by omega) (by omega) (by omega) (by omega) hd (fun H1 I1 => ?_)
        have this := kk cs ls (((47 : Nat), Value.ref (gn M 101 47 0)) :: st) _ _ H1 locs la (cells + 1) (slots + xlen 49 os M) h2 hcs hsm.s0 hmo I1 (hl.ad (fun v hv => xenc_sm hsm (vl v hv))) (fun v hv => (vl v hv).mon hmo) (xpush (Or.inr ⟨by decide, by rw [n3]; exact Nat.lt_succ_self _, fun L hL hs9 => by cases hs9⟩) (fun v hv => (vs v hv).mon hmo)) (by omega) (by omega)
        rw [hnx, List.map_cons, xmap_sm hsm vs, xenc_ref (by decide), xup_eq] at this
        exact this
      · cases hman
  | invokestatic j =>
    obtain ⟨hd, hnx, -⟩ := xok_dec (e := false) hok rfl
    have hnx : xpc cs = pc + 3 := hnx
    have hokC : xokCS y C pc j (y2 :: n :: t :: kx :: rk :: hs) = true := hokC
    cases h9 : Nat.beq y2 9999 with
    | false =>
      have hq := hokC
      unfold xokCS at hq
      simp only [h9] at hq
      have hY := and_l (and_l hq)
      have hkx : kx ≠ 51 := fun e => by
        have := and_r (and_l hq)
        rw [e] at this
        cases this
      rw [h9, Bool.false_or] at haw
      have hy2 : y2 < 196 := Nat.le_of_ble_eq_true (and_l (and_l hY))
      refine xcallM (a := (as.map (xenc ad)).toArray) F hET Ze I hl vl va vs hr hrg hrg2 hgL hb hm0 hcs hnx hmc hmn hY hkx (Nat.le_of_ble_eq_true haw) (fun r1 rg2 hE hrets hmr hA => ?_) hman hc hs9 kk
      have hb9 := bnd (hmc _ _ _ _ _ _ hE) hmr
      by_cases hne : y2 ≠ 44 ∧ y2 ≠ 47
      · exact xrunS F I Z Ze hAA (hM y2 rg2 as r1 hy2 hne hA hE) h9 hokC has hrets hst4 hla hd hb9 hRf hRl
      · obtain ⟨hx, hbc, hml, hown, hts, hlk, hrt, hnm, htr⟩ := F
        have hcon := (xcal_nS h9 hokC).resolve_left hne
        have hq1 := xcal_f hcon.1 rfl
        have cc : cells ≤ R.cells ∧ slots ≤ R.slots := ⟨Nat.le_trans (Nat.le_add_right _ _) hb9.1, Nat.le_trans (Nat.le_add_right _ _) hb9.2⟩
        by_cases h134 : y2 = 44
        · subst h134
          obtain ⟨k0, x, k1, z, rfl, rfl⟩ := hmx.1 as r1 (has.trans (xpn_134 hcon.2)) hE
          refine xrun_of I (fun T hT X => ?_)
          exact va_mathMaxV X hx hown (by rw [xmath_n.1.1]; exact hts _ (xcalL1 _ hq1)) (by rw [xmath_n.1.1]; exact hts _ (xcalS1 _ hq1)) (by rw [← xmath_n.2.1]; exact hts _ (xini_y (by decide))) (by rw [xmath_w.1]; exact hts _ (xcode_ok 44 (List.contains_iff_mem.mp xmath_c.1))) (g := F0 m pc la (([(k0, Value.int x), (k1, Value.int z)].reverse ++ st).map (xenc ad))) rfl hlm (a := x) (b := z) (rest := st.map (xenc ad)) rfl (by rw [hbc]; exact hd) (by omega) (by show 2 * 0 + _ + 13 ≤ _; omega) cc.1 cc.2
        · have h136 : y2 = 47 := Classical.byContradiction fun h => hne ⟨h134, h⟩
          subst h136
          obtain ⟨k0, x, k1, z, rfl, rfl⟩ := hmx.2 as r1 (has.trans (xpn_136 hcon.2)) hE
          refine xrun_of I (fun T hT X => ?_)
          exact X.mathMinV hx hown (by rw [xmath_n.1.2]; exact hts _ (xcalL1 _ hq1)) (by rw [xmath_n.1.2]; exact hts _ (xcalS1 _ hq1)) (by rw [← xmath_n.2.2]; exact hts _ (xini_y (by decide))) (by rw [xmath_w.2]; exact hts _ (xcode_ok 47 (List.contains_iff_mem.mp xmath_c.2))) (g := F0 m pc la (([(k0, Value.int x), (k1, Value.int z)].reverse ++ st).map (xenc ad))) rfl hlm (a := x) (b := z) (rest := st.map (xenc ad)) rfl (by rw [hbc]; exact hd) (by omega) (by show 2 * 0 + _ + 13 ≤ _; omega) cc.1 cc.2
    | true =>
      unfold xokCS at hokC
      simp only [h9] at hokC
      obtain ⟨hx, hbc, hml, hown, hts, hlk, hrt, hnm, htr⟩ := F
      have hhs : hs = [3] := of_decide_eq_true (and_r (and_r (and_r hokC)))
      subst hhs
      unfold xman at hman
      simp only at hman
      split at hman
      · rename_i ks os k1 sp kd od k2 dp k3 ln
        split at hman
        · rename_i hg
          obtain ⟨hmu, h2⟩ := xgd_ok2 hman
          split at h2
          · cases h2
          · rename_i hn
            have hkd : kd < 60 := Nat.le_of_ble_eq_true (and_l hg)
            have htc := Nat.eq_of_beq_eq_true (and_l (and_r hg))
            have ht := xcp_of (and_r (and_r hg))
            have hkd51 : kd ≠ 51 := fun e => by rw [e, xtc51] at ht; omega
            have hks51 : ks ≠ 51 := fun e => by rw [e, xtc51] at htc; rw [← htc] at ht; omega
            have hos := (xvok_lt (va (ks, .ref os) (by simp)) hks51).2
            have hod := (xvok_lt (va (kd, .ref od) (by simp)) hkd51).2
            have hmo : xmon M (xcpy M ks os kd od (ix sp) (ix dp) (ix ln)) := xmon_cpy (and_l hg)
            have n1 : gn (xcpy M ks os kd od (ix sp) (ix dp) (ix ln)) 100 0 0 = gn M 100 0 0 := gn_xcpy_ne (by omega)
            have n2 : gn (xcpy M ks os kd od (ix sp) (ix dp) (ix ln)) 100 0 1 = gn M 100 0 1 := gn_xcpy_ne (by omega)
            have e0 : (([(ks, Value.ref os), (k1, .int sp), (kd, .ref od), (k2, .int dp), (k3, .int ln)]).reverse ++ st).map (xenc ad) = .int ln :: .int dp :: .ref (ad kd od) :: .int sp :: .ref (ad ks os) :: st.map (xenc ad) := by
              show ((k3, Value.int ln) :: (k2, .int dp) :: (kd, .ref od) :: (k1, .int sp) :: (ks, .ref os) :: st).map (xenc ad) = _
              rw [List.map_cons, List.map_cons, List.map_cons, List.map_cons, List.map_cons, xenc_ref hkd51, xenc_ref hks51]
              rfl
            have hnw : nativeFrameWords "java/lang/System" "arraycopy" 5 ≤ 100 := by decide
            rw [e0]
            refine xw_copy hx hbc hlm hts hown (List.contains_iff_mem.mp (and_l hokC)) I hos hod htc rfl ht (by unfold xcst; rw [hmu]; rfl) (fun q => hn (Or.inl q)) (fun q => hn (Or.inr (Or.inl q))) (fun q => hn (Or.inr (Or.inr (Or.inl q)))) (Nat.not_lt.mp fun q => hn (Or.inr (Or.inr (Or.inr (Or.inl q))))) (Nat.not_lt.mp fun q => hn (Or.inr (Or.inr (Or.inr (Or.inr q))))) (by omega) (by omega) hd (fun H1 locs1 I1 => ?_)
            have this := kk cs ls st _ ad H1 locs1 la cells slots h2 hcs ⟨fun _ _ _ _ _ => rfl, rfl⟩ hmo I1 hl (fun v hv => (vl v hv).mon hmo) (fun v hv => (vs v hv).mon hmo) (by rw [n1]; exact hc) (by rw [n2]; exact hs9)
            rw [hnx] at this
            exact this
        · cases hman
      · cases hman
  | invokespecial j =>
    obtain ⟨hd, hnx, -⟩ := xok_dec (e := false) hok rfl
    have hnx : xpc cs = pc + 3 := hnx
    have hokC : xokCI y C pc j (y2 :: n :: t :: kx :: rk :: hs) = true := hokC
    cases h9 : Nat.beq y2 9999 with
    | false =>
      have hq := hokC
      unfold xokCI at hq
      simp only [h9] at hq
      have hY := and_l (and_l hq)
      have hkx : kx ≠ 51 := fun e => by
        have := and_r (and_l hq)
        rw [e] at this
        cases this
      rw [h9, Bool.false_or] at haw
      exact xcallM F hET Ze I hl vl va vs hr hrg hrg2 hgL hb hm0 hcs hnx hmc hmn hY hkx (Nat.le_of_ble_eq_true haw) (fun r1 rg2 hE hrets hmr hA => xrunI F I Z Ze hAA va (hM y2 rg2 as r1 (Nat.le_of_ble_eq_true (and_l (and_l hY))) (xcal_nI h9 hokC) hA hE) h9 hokC has hrcv hrets hst4 hla hd (bnd (hmc _ _ _ _ _ _ hE) hmr) hRf hRl) hman hc hs9 kk
    | true =>
      unfold xokCI at hokC
      simp only [h9] at hokC
      obtain ⟨hx, hbc, hml, hown, hts, hlk, hrt, hnm, htr⟩ := F
      have hhs : hs = [5] := of_decide_eq_true (and_r (and_r (and_r hokC)))
      subst hhs
      unfold xman at hman
      simp only at hman
      split at hman
      · rename_i k o
        obtain ⟨hg, h2⟩ := xgd_ok2 hman
        have h51 : k ≠ 51 := fun e => by rw [e] at hg; cases hg
        have e0 : (([(k, Value.ref o)]).reverse ++ st).map (xenc ad) = .ref (ad k o) :: st.map (xenc ad) := by
          show ((k, Value.ref o) :: st).map (xenc ad) = _
          rw [List.map_cons, xenc_ref h51]
        rw [e0]
        have this := kk cs ls st M ad H locs la cells slots h2 hcs ⟨fun _ _ _ _ _ => rfl, rfl⟩ (xmon_refl M) I hl vl vs hc hs9
        rw [hnx] at this
        exact W.objInit hx hbc hown (hts _ (xobj_ok _ (List.contains_iff_mem.mp (and_l hokC)))) (hts _ xobj_i) (hts _ xobj_c) (g := F0 m pc la (.ref (ad k o) :: st.map (xenc ad))) rfl hlm rfl hd (by omega) (by show 2 * 0 + _ + 12 ≤ _; omega) this
      · cases hman
  | _ => cases hi
