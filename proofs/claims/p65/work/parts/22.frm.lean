/-! NATIVES, AND THE CALL AS A WHOLE. -/
theorem xtc51 : xtc 51 = 0 := rfl
theorem xcp_of {t : Nat} (h : xcp t = true) : t = 1 ∨ t = 2 ∨ t = 4 := by
  unfold xcp at h
  split at h
  · exact Or.inl rfl
  · exact Or.inr (Or.inl rfl)
  · exact Or.inr (Or.inr rfl)
  · cases h
theorem xvok_lt {rg : Option (List (Nat × Nat))} {M : xM} {k o : Nat} (h : xvok rg M (k, .ref o)) (h51 : k ≠ 51) : k < 60 ∧ o < xc M k := by
  rcases h with z | z
  · exact absurd z h51
  · exact ⟨z.1, z.2.1⟩
theorem xgd_ok2 {b : Bool} {k : xR} {r : (Option xV ⊕ Nat) × xM} (h : xgd b k = some r) : b = true ∧ k = some r := by
  cases b with
  | true => exact ⟨rfl, h⟩
  | false => cases h
theorem xat_len : List.all [0, 1, 2, 3, 4] (fun i => (xsl i).all (fun q => Nat.blt q.1 60)) = true := by decide +kernel
theorem xain_ok {L : List (Nat × Nat)} {M : xM} {as : List xV} (h : xain L as = true) (va : ∀ v ∈ as, xvok none M v) : ∀ v ∈ as, xvok (some L) M v := fun v hv => by
  have h1 := List.all_eq_true.mp h v hv
  have h2 := va v hv
  obtain ⟨k, w⟩ := v
  cases w with
  | ref o =>
    rcases h2 with z | ⟨z1, z2, -⟩
    · exact Or.inl z
    · refine Or.inr ⟨z1, z2, fun L' hL' hs => ?_⟩
      cases hL'
      rcases (Bool.or_eq_true _ _).mp h1 with q | q
      · rw [hs] at q
        cases q
      · obtain ⟨q, hq, hq2⟩ := List.any_eq_true.mp q
        obtain ⟨a, b⟩ := q
        have e1 := Nat.eq_of_beq_eq_true (and_l hq2)
        have e2 := Nat.eq_of_beq_eq_true (and_r hq2)
        simp only at e1 e2
        rw [← e1, ← e2]
        exact hq
  | _ => trivial
theorem xvok_none {rg : Option (List (Nat × Nat))} {M : xM} {v : xV} (h : xvok rg M v) : xvok none M v := by
  obtain ⟨k, w⟩ := v
  cases w with
  | ref o =>
    rcases h with z | ⟨z1, z2, -⟩
    · exact Or.inl z
    · exact Or.inr ⟨z1, z2, fun L hL => nomatch hL⟩
  | _ => trivial
theorem xsl_closed {i : Nat} (h : i < 5) : xclosed (xsl i) = true := by
  have h1 := xclosed_sl
  have h2 := of_decide_eq_true (and_r h1)
  have : i = 0 ∨ i = 1 ∨ i = 2 ∨ i = 3 ∨ i = 4 := by omega
  rcases this with rfl | rfl | rfl | rfl | rfl
  · exact and_l (and_l h1)
  · exact and_r (and_l h1)
  · exact and_l (and_l h2)
  · exact and_r (and_l h2)
  · exact and_r h2
theorem xsl_lt {i : Nat} (h : i < 5) : (xsl i).all (fun q => Nat.blt q.1 60) = true := List.all_eq_true.mp xat_len i (by
  have : i = 0 ∨ i = 1 ∨ i = 2 ∨ i = 3 ∨ i = 4 := by omega
  rcases this with rfl | rfl | rfl | rfl | rfl <;> simp)
/-- what a call of a method is given -/
def xArg (y : Nat) (M : xM) (rg : Option (List (Nat × Nat))) (as : List xV) : Prop := (xreg y = false → ∃ L, rg = some L) ∧ (xreg y = true → rg = none) ∧ xrok rg M ∧ (∀ L, rg = some L → L.all (fun q => Nat.blt q.1 60) = true) ∧ (∀ v ∈ as, xvok rg M v) ∧ xaw as ≤ xml y
def xcalls (i : Instr) : Bool := match i with
  | .invokevirtual _ => true
  | .invokestatic _ => true
  | .invokespecial _ => true
  | _ => false
def xman (tab : Nat → List xE) (ml : Nat → Nat) (Ec En : xP) (y2 t kx : Nat) (hs : List Nat) (as : List xV) (C cs : List xE) (ls st : List xV) (M : xM) : xR := match hs with
        | [] => xcall t kx (Ec (tab y2) (tab y2) (xarg (ml y2) as) [] M) (fun st M => En C cs ls st M) st
        | 0 :: _ => xcall t kx (xret (Ec (tab y2) (tab y2) (xarg (ml y2) as) [] M)) (fun st M => En C cs ls st M) st
        | 1 :: i :: _ => xgd (xgood (xsl i) M && xain (xsl i) as) (xcall t kx (xret (Ec (tab y2) (tab y2) (xarg (ml y2) as) [] M)) (fun st M => En C cs ls st M) st)
        | 2 :: hs => match xno51 ls, t with
          | true, 1 => xhI (Ec (tab y2) (tab y2) (xarg (ml y2) as) [] M) (fun x M => En C cs ls ((0, .int x) :: st) M) (fun E M => xhand hs E M (fun t => En C (C.drop t) ls [(51, .ref 1)] M))
          | true, 4 => xhF (Ec (tab y2) (tab y2) (xarg (ml y2) as) [] M) (fun x M => En C cs ls ((0, .float x) :: st) M) (fun E M => xhand hs E M (fun t => En C (C.drop t) ls [(51, .ref 1)] M))
          | _, _ => none
        | 3 :: _ => match as with
          | [(ks, .ref os), (_, .int sp), (kd, .ref od), (_, .int dp), (_, .int l)] => match Nat.blt kd 60 && (Nat.beq (xtc ks) (xtc kd) && xcp (xtc kd)) with
            | true => xgd (xmut kd od) (if sp < 0 ∨ dp < 0 ∨ l < 0 ∨ xlen ks os M < ix sp + ix l ∨ xlen kd od M < ix dp + ix l then none else En C cs ls st (xcpy M ks os kd od (ix sp) (ix dp) (ix l)))
            | false => none
          | _ => none
        | 4 :: kd :: _ => match as, Nat.blt kd 60 && Nat.beq (xtc kd) 2 with
          | [(ks, .ref os)], true => xgd (Nat.beq ks 49) (En C cs ls ((kd, .ref (gn M 101 kd 0)) :: st) (xcpy (xnewD M kd (xlen ks os M)) ks os kd (gn M 101 kd 0) 0 0 (xlen ks os M)))
          | _, _ => none
        | 5 :: _ => match as with
          | [(k, .ref _)] => xgd (!Nat.beq k 51) (En C cs ls st M)
          | _ => none
        | _ => none
theorem xinv_man {tab : Nat → List xE} {ml : Nat → Nat} {Ec En : xP} {aux : List Nat} {C cs : List xE} {ls st : List xV} {M : xM} {r : (Option xV ⊕ Nat) × xM} (h : xinvoke tab ml Ec En aux C cs ls st M = some r) :
    ∃ y2 n t kx rk hs as st2, aux = y2 :: n :: t :: kx :: rk :: hs ∧ xtake n st [] = some (as, st2) ∧ xaw st2 ≤ 8 ∧ xrcv rk as = true ∧ (Nat.beq y2 9999 || Nat.ble (xaw as) (ml y2)) = true ∧ xman tab ml Ec En y2 t kx hs as C cs ls st2 M = some r := by
  unfold xinvoke at h
  split at h
  · rename_i y2 n t kx rk hs
    split at h
    · rename_i as st2 hx
      split at h
      · rename_i hg
        exact ⟨y2, n, t, kx, rk, hs, as, st2, rfl, hx, Nat.le_of_ble_eq_true (and_l hg), and_l (and_r hg), and_r (and_r hg), h⟩
      · cases h
    · cases h
  · cases h
set_option maxHeartbeats 1000000 in
/-- the manner of a call -/
theorem xcallM {p : Program} {l : Launch} {e : Env} {R : Room} {s : State} {m : MethodId} {args : Array Value} {below : List Frame} {meth : Method} {c : Code} {H : Heap} {locs : List Loc} {cells slots : Nat} {A : Nat → Prop} {ad ad0 : xA} {Ec En : xP}
    {y y2 pc fc fs t kx : Nat} {hs : List Nat} {C cs : List xE} {ls as st : List xV} {M M0 : xM} {r : (Option xV ⊕ Nat) × xM} {la : Array Slot} {rg : Option (List (Nat × Nat))} {a : Array Value}
    (F : xFx y p l s m args meth c) (hET : y ≠ 196 → c.exceptionTable.toList = tableOf (xhh y)) (Ze : xCe A s) (I : xInv s A ad M s.heap H locs) (hl : xlr ad (xml y) la ls) (vl : ∀ v ∈ ls, xvok rg M v) (va : ∀ v ∈ as, xvok rg M v) (vs : ∀ v ∈ st, xvok rg M v) (hr : xrok rg M) (hrg : xreg y = false → ∃ L, rg = some L) (hrg2 : xreg y = true → rg = none) (hgL : ∀ L, rg = some L → L.all (fun q => Nat.blt q.1 60) = true)
    (hb : ∀ k o, k < 60 → k ≠ 51 → o < xc M0 k → ad k o = ad0 k o) (hm0 : xmon M0 M) (hcs : ∃ j, cs = C.drop j) (hnx : xpc cs = pc + 3)
    (hmc : ∀ C' cs' ls' st' M' r', Ec C' cs' ls' st' M' = some r' → xmon M' r'.2) (hmn : ∀ cs' ls' st' M', En C cs' ls' st' M' = some r → xmon M' r.2)
    (hok : xokY y y2 C pc hs = true) (hkx : kx ≠ 51) (haw : xaw as ≤ xml y2)
    (hrun : ∀ r1 rg2, Ec (xtab y2) (xtab y2) (xarg (xml y2) as) [] M = some r1 → (xrets0 hs = true → ∃ v, r1.1 = .inl v) → xmon r1.2 r.2 → xArg y2 M rg2 as → vx_Run p l e R s m args below meth c H locs cells slots (gn r1.2 100 0 0 - gn M 100 0 0) (gn r1.2 100 0 1 - gn M 100 0 1) (F0 m pc la ((as.reverse ++ st).map (xenc ad))) (st.map (xenc ad)) (xQc A ad M rg2 r1 a) (xXC A ad M r1) A)
    (h : xman xtab xml Ec En y2 t kx hs as C cs ls st M = some r)
    (hc : cells + gn r.2 100 0 0 ≤ fc + gn M 100 0 0) (hs9 : slots + gn r.2 100 0 1 ≤ fs + gn M 100 0 1)
    (kk : ∀ (cs' : List xE) (ls' st' : List xV) (M' : xM) (ad' : xA) (H1 : Heap) (locs1 : List Loc) (la1 : Array Slot) (cells1 slots1 : Nat), En C cs' ls' st' M' = some r → (∃ j, cs' = C.drop j) → xS0 ad ad' M → xmon M M' → xInv s A ad' M' s.heap H1 locs1 → xlr ad' (xml y) la1 ls' → (∀ v ∈ ls', xvok rg M' v) → (∀ v ∈ st', xvok rg M' v) → cells1 + gn r.2 100 0 0 ≤ fc + gn M' 100 0 0 → slots1 + gn r.2 100 0 1 ≤ fs + gn M' 100 0 1 → W p l e R s m args below meth c H1 locs1 cells1 slots1 (vx_MQ below (xQc A ad0 M0 rg r) (xXC A ad0 M0 r) args s fc fs A) (F0 m (xpc cs') la1 (st'.map (xenc ad')))) :
    W p l e R s m args below meth c H locs cells slots (vx_MQ below (xQc A ad0 M0 rg r) (xXC A ad0 M0 r) args s fc fs A) (F0 m pc la ((as.reverse ++ st).map (xenc ad))) := by
  have hokH := and_r hok
  have mr : ∀ {r1 : (Option xV ⊕ Nat) × xM}, xcall t kx (some r1) (fun st M => En C cs ls st M) st = some r → xmon r1.2 r.2 := fun h => by
    rcases xcall_spec h with ⟨v, v', g1, g2, -⟩ | ⟨E, g1, g2⟩
    · exact hmn _ _ _ _ g2
    · rw [g2]; exact xmon_refl _
  have same : xreg y = xreg y2 → xArg y2 M rg as := fun e => ⟨fun q => hrg (e.trans q), fun q => hrg2 (e.trans q), hr, hgL, va, haw⟩
  unfold xman at h
  split at h
  · obtain ⟨r1, hr1⟩ := xcall_sm2 h
    rw [hr1] at h
    have hreg := and_r (and_l hokH)
    have hall := and_r hokH
    have hy : y ≠ 196 := fun e9 => by
      have h1 := and_l (and_l hokH)
      rw [e9] at h1
      cases h1
    have e : xreg y = xreg y2 := by
      have h1 := and_l hreg
      have h2 := and_r hreg
      simp only [Bool.not_eq_true'] at h1 h2
      rw [h1, h2]
    refine xcallA F I hl vl vs hb hm0 hcs hnx hkx (hmc _ _ _ _ _ _ hr1) (hmn _ _) (fun x hx => hx) (hrun r1 rg hr1 (fun q => nomatch q) (mr h) (same e)) (Or.inr fun z hz => ?_) h hc hs9 kk
    rw [hET hy] at hz
    unfold tableOf at hz
    obtain ⟨w, hw, rfl⟩ := List.mem_map.mp hz
    have h1 := List.all_eq_true.mp hall w hw
    show (decide (w.1 ≤ pc) && decide (pc < w.2.1)) = false
    rw [Bool.not_eq_true'] at h1
    rw [Bool.and_eq_false_iff] at h1 ⊢
    rcases h1 with h1 | h1
    · exact Or.inl (decide_eq_false fun q => by rw [Nat.ble_eq_true_of_le q] at h1; cases h1)
    · exact Or.inr (decide_eq_false fun q => by
        have : Nat.blt pc w.2.1 = true := Nat.ble_eq_true_of_le q
        rw [this] at h1; cases h1)
  · obtain ⟨r1, hr1⟩ := xcall_sm2 h
    rw [hr1] at h
    obtain ⟨hE, hv⟩ := xret_sm2 hr1
    exact xcallA F I hl vl vs hb hm0 hcs hnx hkx (hmc _ _ _ _ _ _ hE) (hmn _ _) (fun x hx => hx) (hrun r1 rg hE (fun _ => hv) (mr h) (same (by simpa [xokH] using hokH))) (Or.inl hv) h hc hs9 kk
  · rename_i i tl
    obtain ⟨hg, h⟩ := xgd_ok2 h
    obtain ⟨r1, hr1⟩ := xcall_sm2 h
    rw [hr1] at h
    obtain ⟨hE, hv⟩ := xret_sm2 hr1
    have hq : (xreg y && (!xreg y2 && Nat.blt i 5)) = true := hokH
    have hi : i < 5 := Nat.le_of_ble_eq_true (and_r (and_r hq))
    have h1 := and_l hq
    have h2 := and_l (and_r hq)
    rw [Bool.not_eq_true'] at h2
    have hn := hrg2 h1
    subst hn
    exact xcallA F I hl vl vs hb hm0 hcs hnx hkx (hmc _ _ _ _ _ _ hE) (hmn _ _) (fun x hx => xvok_none hx) (hrun r1 (some (xsl i)) hE (fun _ => hv) (mr h) ⟨fun _ => ⟨_, rfl⟩, fun q => absurd (h2.symm.trans q) (fun e => nomatch e), fun L hL => (by cases hL; exact ⟨and_l hg, xsl_closed hi⟩), fun L hL => (by cases hL; exact xsl_lt hi), xain_ok (and_r hg) va, haw⟩) (Or.inl hv) h hc hs9 kk
  · cases hokH
  · cases hokH
  · cases hokH
  · cases hokH
  · cases h
