/-! THE WHOLE RUN, OUT OF WHAT THE PURE MACHINE SAYS OF THE LAW. -/
theorem xtk_law : xtab 196 = T_L_law ∧ xml 196 = 8 ∧ xRet 196 = ret ∧ xreg 196 = true ∧ xcn (xoc 196) = R_law ∧ (xY 196).name ≠ "<init>" ∧ 10 + xdp 196 ≤ 2048 ∧ 240 + 40 * xdp 196 ≤ 84000 := ⟨rfl, by decide +kernel, by decide +kernel, by decide +kernel, by decide +kernel, by decide +kernel, by decide +kernel, by decide +kernel⟩
set_option maxRecDepth 1000000 in
theorem xcode_law : xCode 196 = code := rfl
/-- what is left to show: the pure machine's word of the law -/
def xPure : Prop := ∀ (L : Nat) (xs : Nat → Int32), L ≤ 260 → ∃ M', xEv xtab xml T_L_law T_L_law (xarg 8 [(41, .ref 0)]) [] (xM0 L xs) = some (.inl (some (0, .int 1)), M') ∧ gn M' 100 0 0 ≤ 600086 ∧ gn M' 100 0 1 ≤ 7301442
set_option maxHeartbeats 2000000 in
theorem whole_start_of (HP : xPure) {p : Program} {e : Env} {s : State} {m : MethodId} {below : List Frame} {meth : Method} {c : Code} (l : Launch) (hflags : l.flags = flags0) {b L : Nat} {xs : Nat → Int32} (hL : L ≤ 260) (C0 : lw_At p s m meth c b L xs) : W p l e room_1 s m #[Value.ref b] below meth c s.heap [] 0 0 (lw_Z below #[Value.ref b] s) (entryFrame m ([Value.ref b] : List Value).toArray 8) := by
  obtain ⟨hx, hcode, hret, hml, hown, hts, hX, hbl, hlk, hgv⟩ := C0
  obtain ⟨M', hE, hM1, hM2⟩ := HP L xs hL
  obtain ⟨n, hn⟩ := xEv_ex hE
  have hlt : l.stackTraces = false := by
    show (!l.flags.contains noTraceFlag) = false
    rw [hflags]
    decide +kernel
  obtain ⟨k1, k2, k3, k4, k5, k6, k7, k8⟩ := xtk_law
  have hw := xts_all hts
  have hnw : ∀ w ∈ xNw, w.before #[Value.ref b] s = true := flat_of_before _ hgv
  let A : Nat → Prop := fun q => s.heap.size ≤ q
  have hA : ∀ a : Nat, a < s.heap.size → ¬ A a := fun a h1 h2 => absurd h1 (Nat.not_lt.mpr h2)
  have ad41 : xad0 #[Value.ref b] s 41 0 = b := xref_of (by decide) rfl
  have hwa : ∀ w ∈ xwA, w.before #[Value.ref b] s = true := fun w h => hw w (List.mem_filter.mp h).1
  have K := xGo hlt n p e room_1 s m #[Value.ref b] below meth c 196 600086 7301442 A (xad0 #[Value.ref b] s) (xM0 L xs) none (.inl (some (0, .int 1)), M') (by decide)
    ⟨hx, hcode.trans xcode_law.symm, hml.trans k2.symm, by rw [k5]; exact hown, hwa, hlk, hret.trans k3.symm, fun h => absurd h k6, hlt⟩ (fun h => absurd rfl h) (xCe0 hw hnw hA) (fun h => by rw [k4] at h; cases h) (fun _ => rfl) (fun L h => nomatch h) (fun q h => h) k7 k8 (Nat.le_refl _) (Nat.le_refl _)
    (xtab 196) (xarg (xml 196) [(41, .ref 0)]) [] (xM0 L xs) (xad0 #[Value.ref b] s) s.heap [] ((lg_sl ([(41, Value.ref 0)].map (xenc (xad0 #[Value.ref b] s))) ++ List.replicate (xml 196 - (lg_sl ([(41, Value.ref 0)].map (xenc (xad0 #[Value.ref b] s)))).length) Slot.unset).toArray) 0 0 ⟨0, rfl⟩ (by rw [k1, k2]; exact hn) (xCs0 hw hnw rfl hbl hA)
    ⟨xWd0 hnw rfl hbl hX hA, xAp0 hnw rfl hbl hA, xWT0, xBt0 hL, xK0, va_S.rf⟩ (xarg_lr _ (by rw [k2]; decide)) (xarg_all xvok_J _ _ (fun v hv => by
      rw [List.mem_singleton.mp hv]
      exact Or.inr ⟨by decide, Nat.zero_lt_one, fun L h => nomatch h⟩)) (fun v hv => nomatch hv) (fun L h => nomatch h) (fun _ _ _ _ _ => rfl) (xmon_refl _) (by show 0 + gn M' 100 0 0 ≤ 600086 + 0; omega) (by show 0 + gn M' 100 0 1 ≤ 7301442 + 0; omega)
  have e0 : ([(41, Value.ref 0)].map (xenc (xad0 #[Value.ref b] s))) = [Value.ref b] := by
    rw [List.map_cons, xenc_ref (by decide), ad41]
    rfl
  rw [k2, xpc0 (by decide), e0] at K
  rw [lg_entry_eq]
  intro T hT X
  obtain ⟨t, h1, o, h2, h3, h4⟩ := K T hT X
  refine ⟨t, h1, o, h2, h3, ?_⟩
  rcases h4 with ⟨⟨v, ad, g1, g2, -, -⟩, Lo, ⟨f1, f2, f3⟩, g3⟩ | ⟨q, -, E, ce, Lo, ⟨k, ad, g1, -⟩, -⟩
  · cases g1
    have f4 : s.sameButNew ({ t with vm := s.vm } : State) [] 600086 7301442 := State.sameButNew.drop_fresh (L := []) (J := Lo) (by simpa using f3) g3
    exact ⟨g2, f1, f2, f4⟩
  · cases g1
