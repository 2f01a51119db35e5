/-! CALLS IN A FRAME: what the frame does behind them. -/
def xS0 (ad ad' : xA) (M : xM) : Prop := (∀ k o, k < 60 → k ≠ 51 → o < xc M k → ad' k o = ad k o) ∧ ad' 60 0 = ad 60 0
theorem xSm.s0 {ad ad' : xA} {M : xM} (h : xSm ad ad' M) : xS0 ad ad' M := ⟨h.1, h.2 0⟩
theorem xenc_s0 {ad ad' : xA} {M : xM} {rg : Option (List (Nat × Nat))} {v : xV} (h : xS0 ad ad' M) (hv : xvok rg M v) (h51 : v.1 ≠ 51) : xenc ad' v = xenc ad v := by
  obtain ⟨k, w⟩ := v
  cases w with
  | ref o =>
    rcases hv with e | ⟨h1, h2, -⟩
    · exact absurd e h51
    · rw [xenc_ref h51, xenc_ref h51, h.1 k o h1 h51 h2]
  | _ => rfl
theorem xstt_51 : xstt.all (fun S => match S.2.2.2 with
  | (51, .ref o) => Nat.beq o 0
  | _ => true) = true := by decide +kernel
theorem xCs.s0 {A : Nat → Prop} {ad ad' : xA} {M : xM} {s : State} (h : xS0 ad ad' M) (hK : xK M) (Z : xCs A ad s) : xCs A ad' s := by
  obtain ⟨z1, z2, z3⟩ := Z
  refine ⟨fun q hq => ?_, fun q hq => ?_, z3⟩
  · have hlt : q.2 < 13 := Nat.le_of_ble_eq_true (List.all_eq_true.mp xlds_lt q hq)
    rw [h.1 46 q.2 (by omega) (by omega) (Nat.lt_of_lt_of_le hlt hK.2.2.2.2.1)]
    exact z1 q hq
  · have e : xenc ad' q.2.2.2 = xenc ad q.2.2.2 := by
      obtain ⟨c, n, d, k, w⟩ := q
      cases w with
      | ref o =>
        by_cases h51 : k = 51
        · subst h51
          have h9 := List.all_eq_true.mp xstt_51 _ hq
          have h0 : o = 0 := Nat.eq_of_beq_eq_true h9
          subst h0
          show xenc ad' (51, .ref 0) = xenc ad (51, .ref 0)
          unfold xenc
          simp only
          rw [h.2]
        · have hlive := xstt_live hq rfl h51 hK
          have hk : k < 60 := by
            have h9 := List.all_eq_true.mp xstt_kinds _ hq
            exact Nat.le_of_ble_eq_true h9
          show xenc ad' (k, .ref o) = xenc ad (k, .ref o)
          rw [xenc_ref h51, xenc_ref h51, h.1 k o hk h51 hlive]
      | _ => rfl
    rw [e]
    exact z2 q hq
theorem xtkk_all : (List.range 60).all (fun k => (xfd k).all (fun d => Nat.blt d.2.1 60) && (match xae k with
  | some (tk, _) => Nat.blt tk 60
  | none => true)) = true := by decide +kernel
theorem xWd_ad {U : State} {A : Nat → Prop} {ad ad' : xA} {M : xM} {H : Heap} (h : ∀ k o, k < 60 → ad' k o = ad k o) (hW : xWd U A ad M H) : xWd U A ad' M H := fun k o hk ho => by
  have h1 := List.all_eq_true.mp xtkk_all k (List.mem_range.mpr hk)
  refine ⟨fun hf => ((hW k o hk ho).1 hf).same (h k o hk) rfl (fun f d hd => ?_), fun ty ht => ((hW k o hk ho).2 ty ht).same (h k o hk) rfl rfl (fun j hj => ?_)⟩
  · have hd1 : d.2.1 < 60 := Nat.le_of_ble_eq_true (List.all_eq_true.mp (and_l h1) d (List.mem_of_getElem? hd))
    obtain ⟨t, tk, tw⟩ := d
    match t with
    | 0 => rfl
    | 1 => rfl
    | t + 2 =>
      show (if gn M (200 + k) o f = 1 then Value.ref (ad' tk (xtg (t + 2) tw o (gn M k o f))) else .null) = (if gn M (200 + k) o f = 1 then .ref (ad tk (xtg (t + 2) tw o (gn M k o f))) else .null)
      rw [h tk _ hd1]
  · have h2 := and_r h1
    unfold xav
    cases he : xae k with
    | none => rfl
    | some q =>
      obtain ⟨tk, tw⟩ := q
      rw [he] at h2
      have hq : tk < 60 := Nat.le_of_ble_eq_true h2
      simp only [h tk _ hq]
theorem xAp_ad {A : Nat → Prop} {ad ad' : xA} {M : xM} (h : ∀ k o, k < 60 → ad' k o = ad k o) (hP : xAp A ad M) : xAp A ad' M :=
  ⟨fun k o hk ho => by rw [h k o hk]; exact hP.1 k o hk ho, fun k o k' o' hk hk' => by rw [h k o hk, h k' o' hk']; exact hP.2.1 k o k' o' hk hk', fun o o' => by rw [h 42 o (by omega), h 42 o' (by omega)]; exact hP.2.2 o o'⟩
/-- the callee's addresses with the caller's exceptions -/
def xmrg (ad ad' : xA) : xA := fun k o => match Nat.blt k 60 with
  | true => ad' k o
  | false => ad k o
theorem xmrg_lt {ad ad' : xA} {k o : Nat} (h : k < 60) : xmrg ad ad' k o = ad' k o := by
  unfold xmrg
  rw [show Nat.blt k 60 = true from Nat.ble_eq_true_of_le h]
theorem xmrg_60 {ad ad' : xA} {o : Nat} : xmrg ad ad' 60 o = ad 60 o := rfl
/-- the address of the exception that is held -/
def xexa (ad : xA) (q : Nat) : xA := fun k o => if k = 60 ∧ o = 1 then q + 1 else ad k o
theorem xexa_lt {ad : xA} {q k o : Nat} (h : k < 60) : xexa ad q k o = ad k o := if_neg (by omega)
section XB
variable {p : Program} {l : Launch} {e : Env} {R : Room} {s : State} {m : MethodId} {args : Array Value} {below : List Frame} {meth : Method} {c : Code} {H : Heap} {locs : List Loc} {cells slots : Nat} {Q : State → Prop}
theorem xback {A : Nat → Prop} {ad : xA} {M : xM} {r1 : (Option xV ⊕ Nat) × xM} {rg2 : Option (List (Nat × Nat))} {mc ms pc : Nat} {la : Array Slot} {st0 rest : List Value} {a : Array Value}
    (hr : vx_Run p l e R s m args below meth c H locs cells slots mc ms (F0 m pc la st0) rest (xQc A ad M rg2 r1 a) (xXC A ad M r1) A) (I : xInv s A ad M s.heap H locs) (hmon : xmon M r1.2) (hv51 : ∀ k o, r1.1 = .inl (some (k, .ref o)) → k ≠ 51)
    (kret : ∀ (v : Option xV) (ad' : xA) (H1 : Heap) (locs1 : List Loc), r1.1 = .inl v → (∀ x, v = some x → xvok rg2 r1.2 x) → xSm ad ad' M → xInv s A ad' r1.2 s.heap H1 locs1 → W p l e R s m args below meth c H1 locs1 (cells + mc) (slots + ms) Q (F0 m (pc + 3) la ((v.map (xenc ad')).toList ++ rest)))
    (kthr : ∀ (E q : Nat) (ce : Cell) (ad' : xA) (H1 : Heap) (locs1 : List Loc), r1.1 = .inr E → E < 4 → xSm ad ad' M → xInv s A ad' r1.2 s.heap H1 locs1 → H1[q]? = some ce → ce.vm = .none → s.vm.findClass (xEn E) = some ce.cls → vx_W p l e R s m args below meth c H1 locs1 (cells + mc) (slots + ms) Q (F0 m pc la rest) q) :
    W p l e R s m args below meth c H locs cells slots Q (F0 m pc la st0) := by
  have inv : ∀ {ad' : xA} {st₀ t T' : State} {L : List Loc}, st₀.heap = H → T'.heap = t.heap → T'.vm = t.vm → s.vm.Alike T'.vm → (∀ z ∈ L, A z.base) → xPo A ad M ad' r1.2 st₀ t → xSm ad (xmrg ad ad') M ∧ xInv s A (xmrg ad ad') r1.2 s.heap T'.heap (locs ++ L) := by
    intro ad' st₀ t T' L h0 e1 e2 hal hL hPo
    obtain ⟨g1, g2, g3, g4, g5, g6⟩ := hPo
    obtain ⟨-, -, k3⟩ := vx_keep h0 e1 I.2.2.2.2.2 (fun _ _ h => h) (fun _ h => h) hL g6
    rw [e2] at hal
    refine ⟨⟨fun k o hk h5 ho => by rw [xmrg_lt hk]; exact g1 k o hk h5 ho, fun o => xmrg_60⟩, ?_, xAp_ad (fun k o hk => xmrg_lt hk) g3, g4, g5, I.2.2.2.2.1.mon hmon, k3⟩
    rw [e1]
    exact xWd_ad (fun k o hk => xmrg_lt hk) (g2.moved hal.symm)
  intro T hT X
  rcases hr T hT X with ⟨v, st₀, t, T', L, h0, X', hL, e1, e2, ⟨v', ad', hr1, ho, hvok, hPo⟩, st⟩ | ⟨q, st₀, t, T', L, E, ce, h0, X', hL, e1, e2, ⟨k, ad', hr1, hE, hk4, hPo⟩, hce, hcv, hcl, st⟩
  · obtain rfl : v = v'.map (xenc ad') := by injection ho
    obtain ⟨hsm, I1⟩ := inv h0 e1 e2 X'.warmed.alike hL hPo
    have hv : v'.map (xenc ad') = v'.map (xenc (xmrg ad ad')) := by
      cases v' with
      | none => rfl
      | some x =>
        obtain ⟨k, w⟩ := x
        cases w with
        | ref o =>
          have h51 := hv51 k o hr1
          rcases hvok _ rfl with z | ⟨z, -⟩
          · exact absurd z h51
          · show some _ = some _
            rw [xenc_ref h51, xenc_ref h51, xmrg_lt z]
        | _ => rfl
    obtain ⟨t2, a1, b1⟩ := kret v' _ T'.heap (locs ++ L) hr1 hvok hsm I1 T' rfl X'
    rw [← hv] at a1
    exact ⟨t2, st t2 a1, b1⟩
  · obtain ⟨hsm, I1⟩ := inv h0 e1 e2 X'.warmed.alike hL hPo
    obtain ⟨t2, a1, b1⟩ := kthr k q ce _ T'.heap (locs ++ L) hr1 hk4 hsm I1 (by rw [e1]; exact hce) hcv (by rw [← hE]; exact hcl) T' rfl X'
    exact ⟨t2, st.trans a1, b1⟩
end XB
/-- what a call's answer is used for -/
theorem xcall_spec {t kx : Nat} {r1 r : (Option xV ⊕ Nat) × xM} {K : List xV → xM → xR} {st : List xV} (h : xcall t kx (some r1) K st = some r) :
    (∃ v v', r1.1 = .inl v ∧ K (v'.toList ++ st) r1.2 = some r ∧ (∀ ad, v'.map (xenc ad) = v.map (xenc ad)) ∧ (∀ rg M, (∀ x, v = some x → xvok rg M x) → ∀ x, v' = some x → xvok rg M x) ∧ ∀ k o, v = some (k, .ref o) → k = kx) ∨ ∃ E, r1.1 = .inr E ∧ r = (.inr E, r1.2) := by
  obtain ⟨a, M1⟩ := r1
  unfold xcall at h
  split at h
  · unfold xbV at h
    split at h
    · rename_i e; cases e
      exact Or.inl ⟨none, none, rfl, h, fun _ => rfl, fun _ _ h => h, fun _ _ h => nomatch h⟩
    · rename_i e; cases e; cases h
      exact Or.inr ⟨_, rfl, rfl⟩
    · cases h
  · unfold xbI at h
    split at h
    · rename_i k x M e; cases e
      exact Or.inl ⟨some (k, .int x), some (0, .int x), rfl, h, fun _ => rfl, fun _ _ _ x hx => by cases hx; trivial, fun _ _ h => by cases h⟩
    · rename_i e; cases e; cases h
      exact Or.inr ⟨_, rfl, rfl⟩
    · cases h
  · unfold xbL at h
    split at h
    · rename_i k x M e; cases e
      exact Or.inl ⟨some (k, .long x), some (0, .long x), rfl, h, fun _ => rfl, fun _ _ _ x hx => by cases hx; trivial, fun _ _ h => by cases h⟩
    · rename_i e; cases e; cases h
      exact Or.inr ⟨_, rfl, rfl⟩
    · cases h
  · unfold xbR at h
    split at h
    · rename_i k x M e; cases e
      split at h
      · rename_i e; subst e
        exact Or.inl ⟨some (_, .ref x), some (_, .ref x), rfl, h, fun _ => rfl, fun _ _ h => h, fun _ _ h => by cases h; rfl⟩
      · cases h
    · rename_i e; cases e; cases h
      exact Or.inr ⟨_, rfl, rfl⟩
    · cases h
  · unfold xbF at h
    split at h
    · rename_i k x M e; cases e
      exact Or.inl ⟨some (k, .float x), some (0, .float x), rfl, h, fun _ => rfl, fun _ _ _ x hx => by cases hx; trivial, fun _ _ h => by cases h⟩
    · rename_i e; cases e; cases h
      exact Or.inr ⟨_, rfl, rfl⟩
    · cases h
  · unfold xbD at h
    split at h
    · rename_i k x M e; cases e
      exact Or.inl ⟨some (k, .double x), some (0, .double x), rfl, h, fun _ => rfl, fun _ _ _ x hx => by cases hx; trivial, fun _ _ h => by cases h⟩
    · rename_i e; cases e; cases h
      exact Or.inr ⟨_, rfl, rfl⟩
    · cases h
  · cases h
theorem xcall_sm2 {t kx : Nat} {r0 : xR} {r : (Option xV ⊕ Nat) × xM} {K : List xV → xM → xR} {st : List xV} (h : xcall t kx r0 K st = some r) : ∃ r1, r0 = some r1 := by
  cases r0 with
  | some r1 => exact ⟨r1, rfl⟩
  | none =>
    unfold xcall at h
    split at h <;> first | (cases h; done) | (simp [xbV, xbI, xbL, xbR, xbF, xbD] at h)
theorem xret_sm2 {r0 : xR} {r1 : (Option xV ⊕ Nat) × xM} (h : xret r0 = some r1) : r0 = some r1 ∧ ∃ v, r1.1 = .inl v := by
  unfold xret at h
  split at h
  · cases h
    exact ⟨rfl, _, rfl⟩
  · cases h
theorem xrok.mon {rg : Option (List (Nat × Nat))} {M M' : xM} (hm : xmon M M') (hgL : ∀ L, rg = some L → L.all (fun q => Nat.blt q.1 60) = true) (h : xrok rg M) : xrok rg M' := fun L hL => ⟨xgood_mon hm (hgL L hL) (h L hL).1, (h L hL).2⟩
set_option maxHeartbeats 1000000 in
theorem xcallA {p : Program} {l : Launch} {e : Env} {R : Room} {s : State} {m : MethodId} {args : Array Value} {below : List Frame} {meth : Method} {c : Code} {H : Heap} {locs : List Loc} {cells slots : Nat} {A : Nat → Prop} {ad ad0 : xA} {En : xP}
    {y pc fc fs t kx : Nat} {C cs : List xE} {ls as st : List xV} {M M0 : xM} {r r1 : (Option xV ⊕ Nat) × xM} {la : Array Slot} {rg rg2 : Option (List (Nat × Nat))} {a : Array Value}
    (F : xFx y p l s m args meth c) (I : xInv s A ad M s.heap H locs) (hl : xlr ad (xml y) la ls) (vl : ∀ v ∈ ls, xvok rg M v) (vs : ∀ v ∈ st, xvok rg M v)
    (hb : ∀ k o, k < 60 → k ≠ 51 → o < xc M0 k → ad k o = ad0 k o) (hm0 : xmon M0 M) (hcs : ∃ j, cs = C.drop j) (hnx : xpc cs = pc + 3) (hkx : kx ≠ 51) (hmon : xmon M r1.2) (hmn : ∀ st' M', En C cs ls st' M' = some r → xmon M' r.2)
    (hrg2 : ∀ x, xvok rg2 r1.2 x → xvok rg r1.2 x)
    (hr : vx_Run p l e R s m args below meth c H locs cells slots (gn r1.2 100 0 0 - gn M 100 0 0) (gn r1.2 100 0 1 - gn M 100 0 1) (F0 m pc la ((as.reverse ++ st).map (xenc ad))) (st.map (xenc ad)) (xQc A ad M rg2 r1 a) (xXC A ad M r1) A)
    (hthr : (∃ v, r1.1 = .inl v) ∨ ∀ z ∈ c.exceptionTable.toList, covers z pc = false)
    (h : xcall t kx (some r1) (fun st M => En C cs ls st M) st = some r) (hc : cells + gn r.2 100 0 0 ≤ fc + gn M 100 0 0) (hs : slots + gn r.2 100 0 1 ≤ fs + gn M 100 0 1)
    (kk : ∀ (cs' : List xE) (ls' st' : List xV) (M' : xM) (ad' : xA) (H1 : Heap) (locs1 : List Loc) (la1 : Array Slot) (cells1 slots1 : Nat), En C cs' ls' st' M' = some r → (∃ j, cs' = C.drop j) → xS0 ad ad' M → xmon M M' → xInv s A ad' M' s.heap H1 locs1 → xlr ad' (xml y) la1 ls' → (∀ v ∈ ls', xvok rg M' v) → (∀ v ∈ st', xvok rg M' v) → cells1 + gn r.2 100 0 0 ≤ fc + gn M' 100 0 0 → slots1 + gn r.2 100 0 1 ≤ fs + gn M' 100 0 1 → W p l e R s m args below meth c H1 locs1 cells1 slots1 (vx_MQ below (xQc A ad0 M0 rg r) (xXC A ad0 M0 r) args s fc fs A) (F0 m (xpc cs') la1 (st'.map (xenc ad')))) :
    W p l e R s m args below meth c H locs cells slots (vx_MQ below (xQc A ad0 M0 rg r) (xXC A ad0 M0 r) args s fc fs A) (F0 m pc la ((as.reverse ++ st).map (xenc ad))) := by
  obtain ⟨hx, hbc, hml, hown, hts, hlk, hret, hnm, htr⟩ := F
  have sp := xcall_spec h
  have m0 := hmon.2.2.2.1
  have m1 := hmon.2.2.2.2
  refine xback hr I hmon (fun k o h9 => ?_) (fun v ad' H1 locs1 h9 hvok hsm I1 => ?_) (fun E q ce ad' H1 locs1 h9 hE4 hsm I1 hce hcv hcl => ?_)
  · rcases sp with ⟨v, v', g1, -, -, -, g5⟩ | ⟨E, g1, -⟩
    · rw [g1] at h9
      cases h9
      rw [g5 k o rfl]
      exact hkx
    · rw [g1] at h9
      cases h9
  · rcases sp with ⟨v2, v', g1, g2, g3, g4, -⟩ | ⟨E, g1, -⟩
    · rw [g1] at h9
      cases h9
      have hrr := hmn _ _ g2
      have z1 := hrr.2.2.2.1
      have z2 := hrr.2.2.2.2
      have this := kk cs ls (v'.toList ++ st) r1.2 ad' H1 locs1 la (cells + (gn r1.2 100 0 0 - gn M 100 0 0)) (slots + (gn r1.2 100 0 1 - gn M 100 0 1)) g2 hcs hsm.s0 hmon I1 (hl.ad (fun v hv => xenc_sm hsm (vl v hv))) (fun v hv => (vl v hv).mon hmon) (fun v hv => by
        rcases List.mem_append.mp hv with h | h
        · refine hrg2 _ (g4 rg2 r1.2 hvok v ?_)
          cases v' with
          | none => cases h
          | some x => rw [List.mem_singleton.mp h]
        · exact (vs v h).mon hmon) (by omega) (by omega)
      rw [hnx, List.map_append, xmap_sm hsm vs] at this
      rw [← g3 ad']
      cases v' with
      | none => exact this
      | some x => exact this
    · rw [g1] at h9
      cases h9
  · rcases sp with ⟨v, v', g1, -⟩ | ⟨E2, g1, g2⟩
    · rw [g1] at h9
      cases h9
    · rw [g1] at h9
      cases h9
      rcases hthr with ⟨v, hv⟩ | hout
      · rw [g1] at hv
        cases hv
      · have e2 : r.2 = r1.2 := by rw [g2]
        have e1 : r.1 = .inr E := by rw [g2]
        rw [e2] at hc hs
        exact vx_outP hown hlk (fun z hz => Or.inl (hout z hz)) hce hcv hcl (fun t ht hv => ⟨E, ad', e1, rfl, hE4, by rw [e2]; exact xPo_of (fun k o hk h5 ho => (hsm.1 k o hk h5 (Nat.lt_of_lt_of_le ho (hm0.1 k))).trans (hb k o hk h5 ho)) I1 ht hv⟩) I1.2.2.2.2.2.2.2 (by omega) (by omega)
theorem xE4 {E : Nat} (h : E < 4) : E ∈ ([0, 1, 2, 3] : List Nat) := by
  have : E = 0 ∨ E = 1 ∨ E = 2 ∨ E = 3 := by omega
  rcases this with rfl | rfl | rfl | rfl <;> simp
