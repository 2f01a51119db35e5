/-! THE INSTRUCTIONS THAT ONLY MOVE VALUES, over the world of a store. -/
theorem xok_dec {y pc nx n : Nat} {i : Instr} {e X : Bool} (h : (xdec y pc i n && ((e || Nat.beq nx (pc + n)) && X)) = true) (he : e = false) : decode (xCode y) pc = .ok (i, n) ∧ nx = pc + n ∧ X = true := by
  rw [Bool.and_eq_true, Bool.and_eq_true, he, Bool.false_or] at h
  exact ⟨of_decide_eq_true h.1, Nat.eq_of_beq_eq_true h.2.1, h.2.2⟩
theorem xenc_ref {ad : xA} {k o : Nat} (h : k ≠ 51) : xenc ad (k, .ref o) = .ref (ad k o) := by
  unfold xenc
  simp only
  split
  · rename_i e
    exact absurd (Nat.eq_of_beq_eq_true e) h
  · rfl
theorem xcat1_cat {ad : xA} {v : xV} (h : xcat1 v = true) : (xenc ad v).category = 1 := by
  obtain ⟨k, w⟩ := v
  cases w with
  | ref o =>
    rcases xenc_rn ad k o with e | ⟨a, e⟩ <;> rw [e] <;> rfl
  | _ => first | rfl | (simp [xcat1] at h)
theorem xpush {P : xV → Prop} {a : xV} {st : List xV} (h : P a) (hs : ∀ v ∈ st, P v) : ∀ v ∈ a :: st, P v := List.forall_mem_cons.mpr ⟨h, hs⟩
theorem xpop {P : xV → Prop} {a : xV} {st : List xV} (hs : ∀ v ∈ a :: st, P v) : ∀ v ∈ st, P v := fun v hv => hs v (List.mem_cons_of_mem _ hv)
theorem xvok_at {rg : Option (List (Nat × Nat))} {M : xM} {ls : List xV} {n : Nat} {w : xV} (vl : ∀ v ∈ ls, xvok rg M v) (e : xg ls n = w) : xvok rg M w := by
  rcases xg_mem (ls := ls) (j := n) with h | h
  · exact e ▸ vl _ h
  · rw [← e, h]; exact xvok_J
section XP
variable {p : Program} {l : Launch} {e : Env} {R : Room} {s : State} {m : MethodId} {args : Array Value} {below : List Frame} {meth : Method} {c : Code} {H H0 : Heap} {locs : List Loc} {cells slots : Nat} {Q : State → Prop}
variable {cc : ByteArray} {pc : Nat} {ls : Array Slot} {rest : List Value} {A : Nat → Prop} {ad : xA} {M : xM}
theorem xw_aload_n (hx : p.tables.exec = Jvm.exec) (hb : c.code = cc) {k : Fin 4} {w : Value} (hdg : decode cc pc = .ok (.aload_n k, 1)) (hl : ls[k.val]? = some (.val w)) (hw : w = .null ∨ ∃ a, w = .ref a)
    (kk : W p l e R s m args below meth c H locs cells slots Q (F0 m (pc + 1) ls (w :: rest))) : W p l e R s m args below meth c H locs cells slots Q (F0 m pc ls rest) := by
  rcases hw with rfl | ⟨a, rfl⟩
  · exact lv_aload_nN hx hb hdg rfl hl kk
  · exact lv_aload_n hx hb hdg rfl hl kk
theorem xw_aload (hx : p.tables.exec = Jvm.exec) (hb : c.code = cc) {k : Nat} {w : Value} (hdg : decode cc pc = .ok (.aload k, 2)) (hl : ls[k]? = some (.val w)) (hw : w = .null ∨ ∃ a, w = .ref a)
    (kk : W p l e R s m args below meth c H locs cells slots Q (F0 m (pc + 2) ls (w :: rest))) : W p l e R s m args below meth c H locs cells slots Q (F0 m pc ls rest) := by
  rcases hw with rfl | ⟨a, rfl⟩
  · exact lv_aloadN hx hb hdg hl kk
  · exact lv_aload hx hb hdg hl kk
theorem xw_astore_n (hx : p.tables.exec = Jvm.exec) (hb : c.code = cc) {k : Fin 4} {nL : Nat} {w : Value} {lv : List (Nat × Value)} (hdg : decode cc pc = .ok (.astore_n k, 1)) (h : lv_has ls nL lv) (hn : k.val < nL) (hw : w = .null ∨ ∃ a, w = .ref a)
    (kk : ∀ ls' : Array Slot, lv_has ls' nL ((k.val, w) :: lv.filter (fun q => !(q.1 == k.val) && !(q.1 + 1 == k.val && q.2.category == 2))) → W p l e R s m args below meth c H locs cells slots Q (F0 m (pc + 1) ls' rest)) : W p l e R s m args below meth c H locs cells slots Q (F0 m pc ls (w :: rest)) := by
  rcases hw with rfl | ⟨a, rfl⟩
  · exact lv_astore_nN hx hb hdg rfl h hn rfl kk
  · exact lv_astore_n hx hb hdg rfl h hn rfl kk
theorem xw_astore (hx : p.tables.exec = Jvm.exec) (hb : c.code = cc) {k : Nat} {nL : Nat} {w : Value} {lv : List (Nat × Value)} (hdg : decode cc pc = .ok (.astore k, 2)) (h : lv_has ls nL lv) (hn : k < nL) (hw : w = .null ∨ ∃ a, w = .ref a)
    (kk : ∀ ls' : Array Slot, lv_has ls' nL ((k, w) :: lv.filter (fun q => !(q.1 == k) && !(q.1 + 1 == k && q.2.category == 2))) → W p l e R s m args below meth c H locs cells slots Q (F0 m (pc + 2) ls' rest)) : W p l e R s m args below meth c H locs cells slots Q (F0 m pc ls (w :: rest)) := by
  rcases hw with rfl | ⟨a, rfl⟩
  · exact lv_astoreN hx hb hdg h hn rfl kk
  · exact lv_astore hx hb hdg h hn rfl kk
end XP
theorem xlen_small {M : xM} (h : xBt M) {k o : Nat} (hk : k < 60) (ho : o < xc M k) : xlen k o M < 2 ^ 31 := by
  unfold xlen
  split
  · rename_i hd
    exact Nat.lt_of_le_of_lt (h.2 k o hd hk ho) (by decide)
  · have h1 : (List.range 60).all (fun k => Nat.blt (xnth xlens k) 100000) = true := by decide +kernel
    have h2 := List.all_eq_true.mp h1 k (List.mem_range.mpr hk)
    exact Nat.lt_trans (Nat.le_of_ble_eq_true h2) (by decide)
/-- where a thing's fields are read without a look, what they refer to -/
theorem xvok_tgt {L : List (Nat × Nat)} {M : xM} (hg : xgood L M = true) (hc : xclosed L = true) (hT : xWT M) {kx o f t tk tw : Nat} (hk : kx < 60) (hq : (kx, o) ∈ L) (hra : xra kx = false) (hae : xae kx = none) (hd : (xfd kx)[f]? = some (t, tk, tw)) (ht : 2 ≤ t) (ht5 : t < 6) (htk : tk < 60) :
    xf M kx o f ∧ xvok (some L) M (tk, .ref (xtg t tw o (gn M kx o f))) := by
  obtain ⟨ho, h1, -⟩ := xgood_spec hg hq
  have hfl := h1 hra f t tk tw hd ht
  refine ⟨hfl, Or.inr ⟨htk, hT.1 kx o f t tk tw hk ho hd ht hfl, fun L' hL' hs => ?_⟩⟩
  cases hL'
  have h2 := List.all_eq_true.mp hc (kx, o) hq
  simp only [hae] at h2
  have h3 := List.all_eq_true.mp h2 (t, tk, tw) (List.mem_of_getElem? hd)
  have h4 : t = 2 ∨ t = 3 ∨ t = 4 ∨ t = 5 := by omega
  rcases h4 with rfl | rfl | rfl | rfl <;> simp [hs] at h3
  · exact h3
  · exact h3
  · exact h3
theorem xtk_all : (List.range 60).all (fun k => (xfd k).all (fun d => Nat.blt d.1 6 && (Nat.blt d.2.1 60 && !Nat.beq d.2.1 51))) = true := by decide +kernel
theorem xtk_lt {k f t tk tw : Nat} (hk : k < 60) (hd : (xfd k)[f]? = some (t, tk, tw)) : t < 6 ∧ tk < 60 ∧ tk ≠ 51 := by
  have h := List.all_eq_true.mp (List.all_eq_true.mp xtk_all k (List.mem_range.mpr hk)) _ (List.mem_of_getElem? hd)
  rw [Bool.and_eq_true, Bool.and_eq_true] at h
  refine ⟨Nat.le_of_ble_eq_true h.1, Nat.le_of_ble_eq_true h.2.1, fun e => ?_⟩
  have h2 := h.2.2
  simp only at e h2
  rw [e] at h2
  simp at h2
theorem xra_ae : (List.range 60).all (fun k => xra k == (xae k).isSome) = true := by decide +kernel
theorem xae_none {k : Nat} (hk : k < 60) (h : xra k = false) : xae k = none := by
  have h1 := List.all_eq_true.mp xra_ae k (List.mem_range.mpr hk)
  simp only [h] at h1
  cases hz : xae k with
  | none => rfl
  | some v => rw [hz] at h1; simp at h1
theorem xfv_ref {ad : xA} {M : xM} {k o f t tk tw : Nat} (h2 : 2 ≤ t) (hf : xf M k o f) : xfv ad M k o f (t, tk, tw) = .ref (ad tk (xtg t tw o (gn M k o f))) := by
  unfold xfv
  obtain ⟨t, rfl⟩ : ∃ z, t = z + 2 := ⟨t - 2, by omega⟩
  simp only
  rw [if_pos hf]
theorem xnarrow_ref {ty : FieldType} {a : Nat} (h : ty.isReference = true) : narrow ty (.ref a) = .ref a ∧ fits ty (.ref a) = true := by
  cases ty <;> first | exact ⟨rfl, rfl⟩ | (cases h)
theorem xeV_eq {a b : xV} (h : xeV a b = true) : a = b := by
  unfold xeV at h
  split at h
  · rw [Bool.and_eq_true] at h
    rw [Nat.eq_of_beq_eq_true h.1, Nat.eq_of_beq_eq_true h.2]
  · rw [of_decide_eq_true h]
  · cases h
theorem xget0_mem {α : Type} {d : α} : ∀ {l : List α} {i : Nat}, xget0 d l i = d ∨ xget0 d l i ∈ l
  | [], _ => Or.inl rfl
  | a :: r, 0 => Or.inr List.mem_cons_self
  | a :: r, i + 1 => (xget0_mem (l := r) (i := i)).imp id (List.mem_cons_of_mem _)
theorem xsv_spec {y ix : Nat} {v : xV} (h : xsv y ix v = true) : ∃ S ∈ xstt, S.2.2.2 = v ∧ ((∃ q ∈ xgs, q.1 = (xoc y, ix) ∧ xget0 xst0 xstt q.2 = S) ∨ ∃ q ∈ xgsN, q.1 = (xoc y, ix) ∧ xget0 xst0 xstt q.2 = S) := by
  have fin : ∀ q : (Nat × Nat) × Nat, ((Nat.beq q.1.1 (xoc y) && Nat.beq q.1.2 ix) && xeV (xget0 xst0 xstt q.2).2.2.2 v) = true → xget0 xst0 xstt q.2 ∈ xstt ∧ (xget0 xst0 xstt q.2).2.2.2 = v ∧ q.1 = (xoc y, ix) := by
    intro q hq
    rw [Bool.and_eq_true, Bool.and_eq_true] at hq
    refine ⟨?_, xeV_eq hq.2, Prod.ext (Nat.eq_of_beq_eq_true hq.1.1) (Nat.eq_of_beq_eq_true hq.1.2)⟩
    rcases xget0_mem (d := xst0) (l := xstt) (i := q.2) with e | e
    · have h2 := hq.2
      rw [e] at h2
      have e3 := xeV_eq h2
      rw [← e3] at h2
      cases h2
    · exact e
  rcases (Bool.or_eq_true _ _).mp h with h | h
  · obtain ⟨q, hq, he⟩ := List.any_eq_true.mp h
    obtain ⟨a, b, c⟩ := fin q he
    exact ⟨_, a, b, Or.inl ⟨q, hq, c, rfl⟩⟩
  · obtain ⟨q, hq, he⟩ := List.any_eq_true.mp h
    obtain ⟨a, b, c⟩ := fin q he
    exact ⟨_, a, b, Or.inr ⟨q, hq, c, rfl⟩⟩
def xkn (k : Nat) : Nat := match k with
  | 42 => 5
  | 43 => 1
  | 44 => 0
  | 45 => 0
  | 46 => 13
  | 47 => 13
  | 48 => 1
  | 52 => 1
  | _ => 0
theorem xK_le {M : xM} (h : xK M) (k : Nat) : xkn k ≤ xc M k := by
  obtain ⟨a, b, c, d, e, f, g, i⟩ := h
  unfold xkn
  split <;> first | assumption | exact Nat.zero_le _
theorem xstt_all : xstt.all (fun S => match S.2.2.2 with
  | (k, .ref o) => Nat.beq k 51 || Nat.blt o (xkn k)
  | _ => true) = true := by decide +kernel
theorem xstt_live {S : String × String × String × xV} (hS : S ∈ xstt) {k o : Nat} (e : S.2.2.2 = (k, .ref o)) (h51 : k ≠ 51) {M : xM} (hK : xK M) : o < xc M k := by
  have h := List.all_eq_true.mp xstt_all S hS
  rw [e] at h
  rcases (Bool.or_eq_true _ _).mp h with h | h
  · exact absurd (Nat.eq_of_beq_eq_true h) h51
  · exact Nat.lt_of_lt_of_le (Nat.le_of_ble_eq_true h) (xK_le hK k)
theorem xfd_at : (List.range 60).all (fun k => (xfd k).isEmpty || (Nat.beq (xtc k) 0 && ((xae k).isNone && (xat k).isNone))) = true := by decide +kernel
theorem xfd_tc {k f : Nat} {d : Nat × Nat × Nat} (hk : k < 60) (hd : (xfd k)[f]? = some d) : xtc k = 0 ∧ xae k = none ∧ xat k = none := by
  have h := List.all_eq_true.mp xfd_at k (List.mem_range.mpr hk)
  rcases (Bool.or_eq_true _ _).mp h with h | h
  · rw [List.isEmpty_iff] at h
    rw [h] at hd
    simp at hd
  · rw [Bool.and_eq_true, Bool.and_eq_true] at h
    exact ⟨Nat.eq_of_beq_eq_true h.1, by simpa using h.2.1, by simpa using h.2.2⟩
theorem xrest_fld {M M' : xM} {k o f : Nat} {d : Nat × Nat × Nat} (hk : k < 60) (hd : (xfd k)[f]? = some d) (hM : xch M M' k o f) (hT : xWT M) (hB : xBt M) (hK : xK M) (hnew : 2 ≤ d.1 → xf M' k o f → xtg d.1 d.2.2 o (gn M' k o f) < xc M d.2.1) : xWT M' ∧ xBt M' ∧ xK M' := by
  obtain ⟨htc, hae, -⟩ := xfd_tc hk hd
  refine ⟨⟨fun k' o' f' t tk tw hk' ho' hd' ht hf => ?_, fun k' o' tk tw j hk' ho' hae' hj hf => ?_⟩, ⟨fun k' o' j ht ho' => ?_, fun k' o' hy hk' ho' => ?_⟩, ?_⟩
  · rw [hM.1] at ho' ⊢
    by_cases e : k' = k ∧ o' = o ∧ f' = f
    · obtain ⟨rfl, rfl, rfl⟩ := e
      obtain rfl : (t, tk, tw) = d := Option.some.inj (hd'.symm.trans hd)
      exact hnew ht hf
    · obtain ⟨q1, q2⟩ := hM.2.1 k' o' f' hk' e
      have e3 : gn M' k' o' f' = gn M k' o' f' := by unfold gn; rw [q1]
      rw [e3]
      exact hT.1 k' o' f' t tk tw hk' ho' hd' ht (by show gn M (200 + k') o' f' = 1; rw [← q2]; exact hf)
  · rw [hM.1] at ho' ⊢
    have hne : k' ≠ k := fun e => by rw [e, hae] at hae'; cases hae'
    obtain ⟨-, q2⟩ := hM.2.1 k' o' j hk' (fun q => hne q.1)
    exact hT.2 k' o' tk tw j hk' ho' hae' hj (by show gn M (200 + k') o' j = 1; rw [← q2]; exact hf)
  · rw [hM.1] at ho'
    have hne : k' ≠ k := fun e => by rw [e, htc] at ht; cases ht
    obtain ⟨q1, -⟩ := hM.2.1 k' o' j (xtc_lt k' (by rw [ht]; decide)) (fun q => hne q.1)
    have e3 : gi M' k' o' j = gi M k' o' j := by unfold gi; rw [q1]
    rw [e3]
    exact hB.1 k' o' j ht ho'
  · rw [hM.1] at ho'
    rw [hM.2.2 k' o' hk']
    exact hB.2 k' o' hy hk' ho'
  · obtain ⟨a, b, c, e1, e2, e3, e4, e5⟩ := hK
    exact ⟨by rw [hM.1]; exact a, by rw [hM.1]; exact b, by rw [hM.1]; exact c, by rw [hM.1]; exact e1, by rw [hM.1]; exact e2, by rw [hM.1]; exact e3, by rw [hM.1]; exact e4, by rw [hM.1]; exact e5⟩
set_option maxHeartbeats 4000000 in
theorem xpure_W {p : Program} {l : Launch} {e : Env} {R : Room} {s : State} {m : MethodId} {args : Array Value} {below : List Frame} {meth : Method} {c : Code} {H : Heap} {locs : List Loc} {cells slots : Nat} {Q : State → Prop} {A : Nat → Prop} {ad : xA}
    {y pc nx : Nat} {i : Instr} {aux : List Nat} {kc : Int32} {C : List xE} {ls st ls' st' : List xV} {M M' : xM} {la : Array Slot} {rg : Option (List (Nat × Nat))}
    (F : xFx y p l s m args meth c) (Z : xCs A ad s) (I : xInv s A ad M s.heap H locs) (hl : xlr ad (xml y) la ls) (vl : ∀ v ∈ ls, xvok rg M v) (vs : ∀ v ∈ st, xvok rg M v) (hr : xrok rg M) (hrg : xreg y = false → ∃ L, rg = some L)
    (hok : xok y C (pc, i, aux, kc) nx = true) (h : xpure i aux kc ls st M = some (ls', st', M'))
    (kk : ∀ (H1 : Heap) (locs1 : List Loc) (la1 : Array Slot), xInv s A ad M' s.heap H1 locs1 → xlr ad (xml y) la1 ls' → (∀ v ∈ ls', xvok rg M' v) → (∀ v ∈ st', xvok rg M' v) → W p l e R s m args below meth c H1 locs1 cells slots Q (F0 m nx la1 (st'.map (xenc ad)))) :
    W p l e R s m args below meth c H locs cells slots Q (F0 m pc la (st.map (xenc ad))) := by
  obtain ⟨hx, hb, hml, hown, hts, hlk, hrt, hnm, htr⟩ := F
  cases i with
  | iadd =>
    simp only [xpure] at h
    split at h
    · cases h
      obtain ⟨hd, rfl, hX⟩ := xok_dec (e := false) hok rfl
      exact lv_iadd hx hb hd (kk H locs la I hl vl (xpush trivial (xpop (xpop vs))))
    · cases h
  | isub =>
    simp only [xpure] at h
    split at h
    · cases h
      obtain ⟨hd, rfl, hX⟩ := xok_dec (e := false) hok rfl
      exact lv_isub hx hb hd (kk H locs la I hl vl (xpush trivial (xpop (xpop vs))))
    · cases h
  | imul =>
    simp only [xpure] at h
    split at h
    · cases h
      obtain ⟨hd, rfl, hX⟩ := xok_dec (e := false) hok rfl
      exact lv_imul hx hb hd (kk H locs la I hl vl (xpush trivial (xpop (xpop vs))))
    · cases h
  | iand =>
    simp only [xpure] at h
    split at h
    · cases h
      obtain ⟨hd, rfl, hX⟩ := xok_dec (e := false) hok rfl
      exact lv_iand hx hb hd (kk H locs la I hl vl (xpush trivial (xpop (xpop vs))))
    · cases h
  | ior =>
    simp only [xpure] at h
    split at h
    · cases h
      obtain ⟨hd, rfl, hX⟩ := xok_dec (e := false) hok rfl
      exact lv_ior hx hb hd (kk H locs la I hl vl (xpush trivial (xpop (xpop vs))))
    · cases h
  | ixor =>
    simp only [xpure] at h
    split at h
    · cases h
      obtain ⟨hd, rfl, hX⟩ := xok_dec (e := false) hok rfl
      exact lv_ixor hx hb hd (kk H locs la I hl vl (xpush trivial (xpop (xpop vs))))
    · cases h
  | ishl =>
    simp only [xpure] at h
    split at h
    · cases h
      obtain ⟨hd, rfl, hX⟩ := xok_dec (e := false) hok rfl
      exact lv_ishl hx hb hd (kk H locs la I hl vl (xpush trivial (xpop (xpop vs))))
    · cases h
  | ishr =>
    simp only [xpure] at h
    split at h
    · cases h
      obtain ⟨hd, rfl, hX⟩ := xok_dec (e := false) hok rfl
      exact lv_ishr hx hb hd (kk H locs la I hl vl (xpush trivial (xpop (xpop vs))))
    · cases h
  | land =>
    simp only [xpure] at h
    split at h
    · cases h
      obtain ⟨hd, rfl, hX⟩ := xok_dec (e := false) hok rfl
      exact lv_land hx hb hd (kk H locs la I hl vl (xpush trivial (xpop (xpop vs))))
    · cases h
  | lor =>
    simp only [xpure] at h
    split at h
    · cases h
      obtain ⟨hd, rfl, hX⟩ := xok_dec (e := false) hok rfl
      exact lv_lor hx hb hd (kk H locs la I hl vl (xpush trivial (xpop (xpop vs))))
    · cases h
  | ineg =>
    simp only [xpure] at h
    split at h
    · cases h
      obtain ⟨hd, rfl, hX⟩ := xok_dec (e := false) hok rfl
      exact lv_ineg hx hb hd (kk H locs la I hl vl (xpush trivial (xpop vs)))
    · cases h
  | iushr =>
    simp only [xpure] at h
    split at h
    · cases h
      obtain ⟨hd, rfl, hX⟩ := xok_dec (e := false) hok rfl
      exact lv_iushr hx hb hd rfl (kk H locs la I hl vl (xpush trivial (xpop (xpop vs))))
    · cases h
  | lshl =>
    simp only [xpure] at h
    split at h
    · cases h
      obtain ⟨hd, rfl, hX⟩ := xok_dec (e := false) hok rfl
      exact lv_lshl hx hb hd rfl (kk H locs la I hl vl (xpush trivial (xpop (xpop vs))))
    · cases h
  | lshr =>
    simp only [xpure] at h
    split at h
    · cases h
      obtain ⟨hd, rfl, hX⟩ := xok_dec (e := false) hok rfl
      exact lv_lshr hx hb hd rfl (kk H locs la I hl vl (xpush trivial (xpop (xpop vs))))
    · cases h
  | lcmp =>
    simp only [xpure] at h
    split at h
    · cases h
      obtain ⟨hd, rfl, hX⟩ := xok_dec (e := false) hok rfl
      exact W.lcmp hx hb hd (kk H locs la I hl vl (xpush trivial (xpop (xpop vs))))
    · cases h
  | i2l =>
    simp only [xpure] at h
    split at h
    · cases h
      obtain ⟨hd, rfl, hX⟩ := xok_dec (e := false) hok rfl
      exact lv_i2l hx hb hd rfl (kk H locs la I hl vl (xpush trivial (xpop vs)))
    · cases h
  | l2i =>
    simp only [xpure] at h
    split at h
    · cases h
      obtain ⟨hd, rfl, hX⟩ := xok_dec (e := false) hok rfl
      exact lv_l2i hx hb hd rfl (kk H locs la I hl vl (xpush trivial (xpop vs)))
    · cases h
  | i2b =>
    simp only [xpure] at h
    split at h
    · cases h
      obtain ⟨hd, rfl, hX⟩ := xok_dec (e := false) hok rfl
      exact lv_i2b hx hb hd rfl (kk H locs la I hl vl (xpush trivial (xpop vs)))
    · cases h
  | i2c =>
    simp only [xpure] at h
    split at h
    · cases h
      obtain ⟨hd, rfl, hX⟩ := xok_dec (e := false) hok rfl
      exact lv_i2c hx hb hd rfl (kk H locs la I hl vl (xpush trivial (xpop vs)))
    · cases h
  | i2f =>
    simp only [xpure] at h
    split at h
    · cases h
      obtain ⟨hd, rfl, hX⟩ := xok_dec (e := false) hok rfl
      exact lv_i2f hx hb hd (kk H locs la I hl vl (xpush trivial (xpop vs)))
    · cases h
  | i2d =>
    simp only [xpure] at h
    split at h
    · cases h
      obtain ⟨hd, rfl, hX⟩ := xok_dec (e := false) hok rfl
      exact lv_i2d hx hb hd (kk H locs la I hl vl (xpush trivial (xpop vs)))
    · cases h
  | fcmp op =>
    simp only [xpure] at h
    split at h
    · cases h
      obtain ⟨hd, rfl, hX⟩ := xok_dec (e := false) hok rfl
      exact lv_fcmp hx hb hd (kk H locs la I hl vl (xpush trivial (xpop (xpop vs))))
    · cases h
  | dcmp op =>
    simp only [xpure] at h
    split at h
    · cases h
      obtain ⟨hd, rfl, hX⟩ := xok_dec (e := false) hok rfl
      exact lv_dcmp hx hb hd (kk H locs la I hl vl (xpush trivial (xpop (xpop vs))))
    · cases h
  | nop =>
    simp only [xpure] at h
    cases h
    obtain rfl : nx = pc := Nat.eq_of_beq_eq_true hok
    exact kk H locs la I (hl.kill _) (xkill_all xvok_J _ vl) vs
  | iconst n =>
    simp only [xpure] at h
    cases h
    obtain ⟨hd, rfl, hX⟩ := xok_dec (e := false) hok rfl
    exact lv_iconst hx hb hd (of_decide_eq_true hX) (kk H locs la I hl vl (xpush trivial vs))
  | bipush n =>
    simp only [xpure] at h
    cases h
    obtain ⟨hd, rfl, hX⟩ := xok_dec (e := false) hok rfl
    exact lv_bipush hx hb hd (of_decide_eq_true hX) (kk H locs la I hl vl (xpush trivial vs))
  | sipush n =>
    simp only [xpure] at h
    cases h
    obtain ⟨hd, rfl, hX⟩ := xok_dec (e := false) hok rfl
    exact lv_sipush hx hb hd (of_decide_eq_true hX) (kk H locs la I hl vl (xpush trivial vs))
  | lconst n =>
    simp only [xpure] at h
    cases h
    obtain ⟨hd, rfl, hX⟩ := xok_dec (e := false) hok rfl
    exact lv_lconst hx hb hd rfl (kk H locs la I hl vl (xpush trivial vs))
  | fconst n =>
    simp only [xpure] at h
    cases h
    obtain ⟨hd, rfl, hX⟩ := xok_dec (e := false) hok rfl
    obtain rfl : n = 0 := of_decide_eq_true hX
    exact lv_fconst0 hx hb hd (kk H locs la I hl vl (xpush trivial vs))
  | dconst n =>
    simp only [xpure] at h
    cases h
    obtain ⟨hd, rfl, hX⟩ := xok_dec (e := false) hok rfl
    obtain rfl : n = 0 := of_decide_eq_true hX
    exact lv_dconst0 hx hb hd (kk H locs la I hl vl (xpush trivial vs))
  | aconst_null =>
    simp only [xpure] at h
    cases h
    obtain ⟨hd, rfl, hX⟩ := xok_dec (e := false) hok rfl
    exact lv_null hx hb hd (kk H locs la I hl vl (xpush trivial vs))
  | iload n =>
    simp only [xpure] at h
    split at h
    · rename_i hg
      cases h
      obtain ⟨hd, rfl, hX⟩ := xok_dec (e := false) hok rfl
      exact lv_iload hx hb hd (hl.at hg rfl) (kk H locs la I hl vl (xpush trivial vs))
    · cases h
  | lload n =>
    simp only [xpure] at h
    split at h
    · rename_i hg
      cases h
      obtain ⟨hd, rfl, hX⟩ := xok_dec (e := false) hok rfl
      exact lv_lload hx hb hd (hl.at hg rfl) (kk H locs la I hl vl (xpush trivial vs))
    · cases h
  | fload n =>
    simp only [xpure] at h
    split at h
    · rename_i hg
      cases h
      obtain ⟨hd, rfl, hX⟩ := xok_dec (e := false) hok rfl
      exact lv_fload hx hb hd (hl.at hg rfl) (kk H locs la I hl vl (xpush trivial vs))
    · cases h
  | dload n =>
    simp only [xpure] at h
    split at h
    · rename_i hg
      cases h
      obtain ⟨hd, rfl, hX⟩ := xok_dec (e := false) hok rfl
      exact lv_dload hx hb hd (hl.at hg rfl) (kk H locs la I hl vl (xpush trivial vs))
    · cases h
  | aload n =>
    simp only [xpure] at h
    split at h
    · rename_i hg
      cases h
      obtain ⟨hd, rfl, hX⟩ := xok_dec (e := false) hok rfl
      exact xw_aload hx hb hd (hl.at hg rfl) (xenc_rn _ _ _) (kk H locs la I hl vl (xpush (xvok_at vl hg) vs))
    · rename_i hg
      cases h
      obtain ⟨hd, rfl, hX⟩ := xok_dec (e := false) hok rfl
      exact xw_aload hx hb hd (hl.at hg rfl) (Or.inl rfl) (kk H locs la I hl vl (xpush trivial vs))
    · cases h
  | istore n =>
    simp only [xpure] at h
    split at h
    · cases h
      obtain ⟨hd, rfl, hX⟩ := xok_dec (e := false) hok rfl
      have hn := Nat.le_of_ble_eq_true hX
      exact lv_istore hx hb hd hl.2 hn rfl (fun la1 h1 => kk H locs la1 I (hl.store1 hn h1) (xsw1_all vl trivial xvok_J) (xpop vs))
    · cases h
  | fstore n =>
    simp only [xpure] at h
    split at h
    · cases h
      obtain ⟨hd, rfl, hX⟩ := xok_dec (e := false) hok rfl
      have hn := Nat.le_of_ble_eq_true hX
      exact lv_fstore hx hb hd hl.2 hn rfl (fun la1 h1 => kk H locs la1 I (hl.store1 hn h1) (xsw1_all vl trivial xvok_J) (xpop vs))
    · cases h
  | astore n =>
    simp only [xpure] at h
    split at h
    · cases h
      obtain ⟨hd, rfl, hX⟩ := xok_dec (e := false) hok rfl
      have hn := Nat.le_of_ble_eq_true hX
      exact xw_astore hx hb hd hl.2 hn (xenc_rn _ _ _) (fun la1 h1 => kk H locs la1 I (hl.store1 hn h1) (xsw1_all vl (vs _ List.mem_cons_self) xvok_J) (xpop vs))
    · cases h
      obtain ⟨hd, rfl, hX⟩ := xok_dec (e := false) hok rfl
      have hn := Nat.le_of_ble_eq_true hX
      exact xw_astore hx hb hd hl.2 hn (Or.inl rfl) (fun la1 h1 => kk H locs la1 I (hl.store1 hn h1) (xsw1_all vl trivial xvok_J) (xpop vs))
    · cases h
  | lstore n =>
    simp only [xpure] at h
    split at h
    · cases h
      obtain ⟨hd, rfl, hX⟩ := xok_dec (e := false) hok rfl
      have hn := Nat.le_of_ble_eq_true hX
      exact lv_lstore hx hb hd hl.2 hn rfl (fun la1 h1 => kk H locs la1 I (hl.store2 hn h1) (xs_all (xsw1_all vl trivial xvok_J) xvok_J) (xpop vs))
    · cases h
  | dstore n =>
    simp only [xpure] at h
    split at h
    · cases h
      obtain ⟨hd, rfl, hX⟩ := xok_dec (e := false) hok rfl
      have hn := Nat.le_of_ble_eq_true hX
      exact lv_dstore hx hb hd hl.2 hn rfl (fun la1 h1 => kk H locs la1 I (hl.store2 hn h1) (xs_all (xsw1_all vl trivial xvok_J) xvok_J) (xpop vs))
    · cases h
  | iload_n n =>
    simp only [xpure] at h
    split at h
    · rename_i hg
      cases h
      obtain ⟨hd, rfl, hX⟩ := xok_dec (e := false) hok rfl
      exact lv_iload_n hx hb hd rfl (hl.at hg rfl) (kk H locs la I hl vl (xpush trivial vs))
    · cases h
  | lload_n n =>
    simp only [xpure] at h
    split at h
    · rename_i hg
      cases h
      obtain ⟨hd, rfl, hX⟩ := xok_dec (e := false) hok rfl
      exact lv_lload_n hx hb hd rfl (hl.at hg rfl) (kk H locs la I hl vl (xpush trivial vs))
    · cases h
  | fload_n n =>
    simp only [xpure] at h
    split at h
    · rename_i hg
      cases h
      obtain ⟨hd, rfl, hX⟩ := xok_dec (e := false) hok rfl
      exact lv_fload_n hx hb hd rfl (hl.at hg rfl) (kk H locs la I hl vl (xpush trivial vs))
    · cases h
  | dload_n n =>
    simp only [xpure] at h
    split at h
    · rename_i hg
      cases h
      obtain ⟨hd, rfl, hX⟩ := xok_dec (e := false) hok rfl
      exact lv_dload_n hx hb hd rfl (hl.at hg rfl) (kk H locs la I hl vl (xpush trivial vs))
    · cases h
  | aload_n n =>
    simp only [xpure] at h
    split at h
    · rename_i hg
      cases h
      obtain ⟨hd, rfl, hX⟩ := xok_dec (e := false) hok rfl
      exact xw_aload_n hx hb hd (hl.at hg rfl) (xenc_rn _ _ _) (kk H locs la I hl vl (xpush (xvok_at vl hg) vs))
    · rename_i hg
      cases h
      obtain ⟨hd, rfl, hX⟩ := xok_dec (e := false) hok rfl
      exact xw_aload_n hx hb hd (hl.at hg rfl) (Or.inl rfl) (kk H locs la I hl vl (xpush trivial vs))
    · cases h
  | istore_n n =>
    simp only [xpure] at h
    split at h
    · cases h
      obtain ⟨hd, rfl, hX⟩ := xok_dec (e := false) hok rfl
      have hn := Nat.le_of_ble_eq_true hX
      exact lv_istore_n hx hb hd rfl hl.2 hn rfl (fun la1 h1 => kk H locs la1 I (hl.store1 hn h1) (xsw1_all vl trivial xvok_J) (xpop vs))
    · cases h
  | fstore_n n =>
    simp only [xpure] at h
    split at h
    · cases h
      obtain ⟨hd, rfl, hX⟩ := xok_dec (e := false) hok rfl
      have hn := Nat.le_of_ble_eq_true hX
      exact lv_fstore_n hx hb hd rfl hl.2 hn rfl (fun la1 h1 => kk H locs la1 I (hl.store1 hn h1) (xsw1_all vl trivial xvok_J) (xpop vs))
    · cases h
  | astore_n n =>
    simp only [xpure] at h
    split at h
    · cases h
      obtain ⟨hd, rfl, hX⟩ := xok_dec (e := false) hok rfl
      have hn := Nat.le_of_ble_eq_true hX
      exact xw_astore_n hx hb hd hl.2 hn (xenc_rn _ _ _) (fun la1 h1 => kk H locs la1 I (hl.store1 hn h1) (xsw1_all vl (vs _ List.mem_cons_self) xvok_J) (xpop vs))
    · cases h
      obtain ⟨hd, rfl, hX⟩ := xok_dec (e := false) hok rfl
      have hn := Nat.le_of_ble_eq_true hX
      exact xw_astore_n hx hb hd hl.2 hn (Or.inl rfl) (fun la1 h1 => kk H locs la1 I (hl.store1 hn h1) (xsw1_all vl trivial xvok_J) (xpop vs))
    · cases h
  | lstore_n n =>
    simp only [xpure] at h
    split at h
    · cases h
      obtain ⟨hd, rfl, hX⟩ := xok_dec (e := false) hok rfl
      have hn := Nat.le_of_ble_eq_true hX
      exact lv_lstore_n hx hb hd rfl hl.2 hn rfl (fun la1 h1 => kk H locs la1 I (hl.store2 hn h1) (xs_all (xsw1_all vl trivial xvok_J) xvok_J) (xpop vs))
    · cases h
  | dstore_n n =>
    simp only [xpure] at h
    split at h
    · cases h
      obtain ⟨hd, rfl, hX⟩ := xok_dec (e := false) hok rfl
      have hn := Nat.le_of_ble_eq_true hX
      exact lv_dstore_n hx hb hd rfl hl.2 hn rfl (fun la1 h1 => kk H locs la1 I (hl.store2 hn h1) (xs_all (xsw1_all vl trivial xvok_J) xvok_J) (xpop vs))
    · cases h
  | iinc n d =>
    simp only [xpure] at h
    split at h
    · rename_i k x hg
      cases h
      obtain ⟨hd, rfl, hX⟩ := xok_dec (e := false) hok rfl
      replace hX : (Nat.blt n (xml y) && decide (Int32.ofInt d = kc)) = true := hX
      rw [Bool.and_eq_true] at hX
      have hn := Nat.le_of_ble_eq_true hX.1
      have hmem : (n, Value.int x) ∈ xlv ad ls 0 := (xlv_mem ls 0).mpr ⟨n, by rw [hl.1]; exact hn, by simp, by rw [hg]; rfl, by rw [hg]; rfl⟩
      obtain ⟨k9, hk9⟩ := List.getElem?_of_mem hmem
      exact lv_iinc hx hb hd hl.2 hk9 (by rw [of_decide_eq_true hX.2]) hn rfl (fun la1 h1 => kk H locs la1 I (hl.store1 hn h1) (xsw1_all vl trivial xvok_J) vs)
    · cases h
  | pop =>
    simp only [xpure] at h
    split at h
    · split at h
      · rename_i hc
        cases h
        obtain ⟨hd, rfl, hX⟩ := xok_dec (e := false) hok rfl
        exact lv_pop hx hb hd (xcat1_cat hc) (kk H locs la I hl vl (xpop vs))
      · cases h
    · cases h
  | dup =>
    simp only [xpure] at h
    split at h
    · split at h
      · rename_i hc
        cases h
        obtain ⟨hd, rfl, hX⟩ := xok_dec (e := false) hok rfl
        exact lv_dup hx hb hd (xcat1_cat hc) (kk H locs la I hl vl (xpush (vs _ List.mem_cons_self) vs))
      · cases h
    · cases h
  | dup_x1 =>
    simp only [xpure] at h
    split at h
    · split at h
      · rename_i hc
        cases h
        obtain ⟨hd, rfl, hX⟩ := xok_dec (e := false) hok rfl
        exact lv_dup_x1 hx hb hd (xcat1_cat (and_l hc)) (xcat1_cat (and_r hc)) (kk H locs la I hl vl (xpush (vs _ List.mem_cons_self) (xpush (vs _ (List.mem_cons_of_mem _ List.mem_cons_self)) (xpush (vs _ List.mem_cons_self) (xpop (xpop vs))))))
      · cases h
    · cases h
  | dup2 =>
    simp only [xpure] at h
    split at h
    · split at h
      · rename_i hc
        cases h
        obtain ⟨hd, rfl, hX⟩ := xok_dec (e := false) hok rfl
        exact lv_dup2_11 hx hb hd (xcat1_cat (and_l hc)) (xcat1_cat (and_r hc)) (kk H locs la I hl vl (xpush (vs _ List.mem_cons_self) (xpush (vs _ (List.mem_cons_of_mem _ List.mem_cons_self)) vs)))
      · cases h
    · cases h
  | ldc ix =>
    simp only [xpure] at h
    split at h
    · cases h
      obtain ⟨hd, rfl, hX⟩ := xok_dec (e := false) hok rfl
      exact lv_ldc hx hb hown (hts _ (xldi_ok _ (List.contains_iff_mem.mp hX))) hd (kk H locs la I hl vl (xpush trivial vs))
    · rename_i k sid r
      cases h
      obtain ⟨hd, rfl, hX⟩ := xok_dec (e := false) hok rfl
      simp only [xokX] at hX
      split at hX
      · rename_i heq
        cases heq
      · rename_i sid' heq
        cases heq
        rw [Bool.and_eq_true] at hX
        have h1 := Z.1 _ (List.contains_iff_mem.mp hX.1)
        refine va_ldcS hx hb hown h1 hd ?_
        have h2 := kk H locs la I hl vl (xpush (Or.inr ⟨by decide, Nat.lt_of_lt_of_le (Nat.le_of_ble_eq_true hX.2) I.2.2.2.2.1.2.2.2.2.1, fun L hL hs => by cases hs⟩) vs)
        exact h2
      · rename_i heq
        cases heq
      · cases hX
    · cases h
  | ldc_w ix =>
    simp only [xpure] at h
    split at h
    · cases h
      obtain ⟨hd, rfl, hX⟩ := xok_dec (e := false) hok rfl
      exact lv_ldcw hx hb hown (hts _ (xldi_ok _ (List.contains_iff_mem.mp hX))) hd (kk H locs la I hl vl (xpush trivial vs))
    · rename_i k sid r
      cases h
      obtain ⟨hd, rfl, hX⟩ := xok_dec (e := false) hok rfl
      simp [xokX] at hX
    · cases h
  | ldc2_w ix =>
    simp only [xpure] at h
    split at h
    · cases h
      obtain ⟨hd, rfl, hX⟩ := xok_dec (e := false) hok rfl
      exact lv_ldc2 hx hb hown (hts _ (xldl_ok ((xoc y, ix), _) (List.contains_iff_mem.mp hX))) hd (kk H locs la I hl vl (xpush trivial vs))
    · cases h
  | arraylength =>
    simp only [xpure] at h
    split at h
    · rename_i k o st
      split at h
      · cases h
      · rename_i hz
        cases h
        obtain ⟨hd, rfl, hX⟩ := xok_dec (e := false) hok rfl
        have ht : xtc k ≠ 0 := fun e => by rw [e] at hz; cases hz
        have hk := xtc_lt k ht
        have h51 : k ≠ 51 := fun e => ht (by rw [e]; rfl)
        have ho : o < xc M k := by
          rcases vs _ List.mem_cons_self with q | q
          · exact absurd q h51
          · exact q.2.1
        rw [List.map_cons, xenc_ref h51]
        exact xw_alen hx hb I.1 ho ht (xlen_small I.2.2.2.1 hk ho) hd (kk H locs la I hl vl (xpush trivial (xpop vs)))
    · cases h
  | getstatic ix =>
    simp only [xpure] at h
    have key : ∀ v : xV, xsv y ix v = true → decode (xCode y) pc = .ok (.getstatic ix, 3) → W p l e R s m args below meth c H locs cells slots Q (F0 m (pc + 3) la (xenc ad v :: st.map (xenc ad))) → W p l e R s m args below meth c H locs cells slots Q (F0 m pc la (st.map (xenc ad))) := by
      intro v hv hd k9
      obtain ⟨S, hS, rfl, ⟨q, hq, e1, e2⟩ | ⟨q, hq, e1, e2⟩⟩ := xsv_spec hv
      · have h1 := hts _ (xgs_ok q hq)
        rw [e1, e2] at h1
        exact va_gets hx hb (Z.2.1 S hS) I.2.2.2.2.2 hown h1 (fun _ h9 => h9) hd k9
      · have h1 := Z.2.2.1 q hq
        rw [e1, e2] at h1
        exact va_getsN hx hb (Z.2.1 S hS) I.2.2.2.2.2 hown (va_tabs rfl rfl h1) (fun _ h9 => h9) hd k9
    split at h
    · cases h
      obtain ⟨hd, rfl, hX⟩ := xok_dec (e := false) hok rfl
      exact key (0, .int kc) hX hd (kk H locs la I hl vl (xpush trivial vs))
    · rename_i k o
      cases h
      obtain ⟨hd, rfl, hX⟩ := xok_dec (e := false) hok rfl
      replace hX : (xsv y ix (k, .ref o) && ((Nat.beq k 51 && Nat.beq o 0) || (Nat.blt k 60 && !xstrk k))) = true := hX
      rw [Bool.and_eq_true] at hX
      refine key (k, .ref o) hX.1 hd (kk H locs la I hl vl (xpush ?_ vs))
      rcases (Bool.or_eq_true _ _).mp hX.2 with h9 | h9
      · rw [Bool.and_eq_true] at h9
        exact Or.inl (Nat.eq_of_beq_eq_true h9.1)
      · rw [Bool.and_eq_true] at h9
        by_cases h51 : k = 51
        · exact Or.inl h51
        · obtain ⟨S, hS, e9, -⟩ := xsv_spec hX.1
          exact Or.inr ⟨Nat.le_of_ble_eq_true h9.1, xstt_live hS e9 h51 I.2.2.2.2.1, fun L hL hs => by rw [hs] at h9; cases h9.2⟩
    · cases h
  | getfield ix =>
    simp only [xpure] at h
    split at h
    · rename_i k o st kx f tag tk tw
      split at h
      · rename_i hkk
        subst hkk
        split at h
        · rename_i v hv
          cases h
          obtain ⟨hd, rfl, hX⟩ := xok_dec (e := false) hok rfl
          simp only [xokX, Bool.and_eq_true] at hX
          obtain ⟨hX1, hX2, hX3, hX4⟩ := hX
          have hk := Nat.le_of_ble_eq_true hX2
          have hfd := of_decide_eq_true hX3
          have h51 : k ≠ 51 := fun e => by rw [e] at hfd; cases hfd
          have hvo := vs _ List.mem_cons_self
          have ho : o < xc M k := by
            rcases hvo with q | q
            · exact absurd q h51
            · exact q.2.1
          rw [List.map_cons, xenc_ref h51]
          have fin : xenc ad v = xfv ad M k o f (tag % 10, tk, tw) ∧ xvok rg M v := by
            have main : ∀ t, 2 ≤ t → t < 6 → tag = t → v = (tk, .ref (xtg t tw o (gn M k o f))) → xenc ad v = xfv ad M k o f (tag % 10, tk, tw) ∧ xvok rg M v := by
              intro t h2 h6 e ev
              subst e
              have e10 : tag % 10 = tag := Nat.mod_eq_of_lt (by omega)
              rw [e10] at hfd ⊢
              have h4 : (Nat.blt tag 6 && (!xreg y && (xstrk k && !xra k))) = true := by
                have : tag = 2 ∨ tag = 3 ∨ tag = 4 ∨ tag = 5 := by omega
                rcases this with rfl | rfl | rfl | rfl <;> exact hX4
              rw [Bool.and_eq_true, Bool.and_eq_true, Bool.and_eq_true] at h4
              obtain ⟨L, rfl⟩ := hrg (by simpa using h4.2.1)
              have hra : xra k = false := by simpa using h4.2.2.2
              have hmem : (k, o) ∈ L := by
                rcases hvo with q | q
                · exact absurd q h51
                · exact q.2.2 L rfl h4.2.2.1
              obtain ⟨hg, hc⟩ := hr L rfl
              obtain ⟨-, htk, htk51⟩ := xtk_lt hk hfd
              obtain ⟨hfl, hok2⟩ := xvok_tgt hg hc I.2.2.1 hk hmem hra (xae_none hk hra) hfd h2 h6 htk
              subst ev
              exact ⟨by rw [xenc_ref htk51, xfv_ref h2 hfl], hok2⟩
            unfold xget at hv
            split at hv
            · cases hv; exact ⟨rfl, trivial⟩
            · cases hv; exact ⟨rfl, trivial⟩
            · cases hv; exact main 2 (by decide) (by decide) rfl rfl
            · cases hv; exact main 3 (by decide) (by decide) rfl rfl
            · cases hv; exact main 4 (by decide) (by decide) rfl rfl
            · cases hv; exact main 5 (by decide) (by decide) rfl rfl
            · cases hv
          refine xw_get hx hb hts hown (List.contains_iff_mem.mp hX1) I.1 hk ho hfd hd ?_
          rw [← fin.1]
          exact kk H locs la I hl vl (xpush fin.2 (xpop vs))
        · cases h
      · cases h
    · cases h
  | putfield ix =>
    simp only [xpure] at h
    split at h
    · rename_i v k o st kx f tag tk tw
      split at h
      · rename_i hkk
        subst hkk
        split at h
        · rename_i M1 hv
          cases h
          obtain ⟨hd, rfl, hX⟩ := xok_dec (e := false) hok rfl
          simp only [xokX, Bool.and_eq_true] at hX
          obtain ⟨hX1, hX2, hX3, hX4, hX5, hX6⟩ := hX
          have hk := Nat.le_of_ble_eq_true hX2
          have hfd := of_decide_eq_true hX3
          have h51 : k ≠ 51 := fun e => by rw [e] at hfd; cases hfd
          have h43 : k ≠ 43 := fun e => by rw [e] at hX4; cases hX4
          have hvo := vs _ (List.mem_cons_of_mem _ List.mem_cons_self)
          have ho : o < xc M k := by
            rcases hvo with q | q
            · exact absurd q h51
            · exact q.2.1
          have hfin : (xTf k f).2.2.2 = false ∨ ((xTf k f).1 = xcn (xoc y) ∧ meth.name = "<init>") := by
            rcases (Bool.or_eq_true _ _).mp hX5 with h9 | h9
            · exact Or.inl (by simpa using h9)
            · rw [Bool.and_eq_true, beq_iff_eq, beq_iff_eq] at h9
              exact Or.inr ⟨h9.1, hnm h9.2⟩
          unfold xput at hv
          split at hv
          · rename_i hg
            have hc : xcst k o = false := by unfold xcst; rw [and_r hg]; rfl
            rw [List.map_cons, List.map_cons, xenc_ref h51]
            split at hv
            · rename_i k2 x
              cases hv
              have hM : xch M (xst M k o f (.int x)) k o f := xch_st hk
              refine xw_put hx hb hts hown (List.contains_iff_mem.mp hX1) I.1 I.2.1 I.2.2.2.2.2 hk h43 ho hc hfd hfin hM (v := .int x) (by show Value.int (gi _ k o f) = _; unfold gi; rw [xst_eq]) (fun ty hty => by rw [beq_iff_eq.mp hX6] at hty; cases hty; exact ⟨rfl, rfl⟩) hd (fun H1 locs1 w1 w2 w3 => ?_)
              have hr3 := xrest_fld hk hfd hM I.2.2.1 I.2.2.2.1 I.2.2.2.2.1 (fun h9 => absurd (show 2 ≤ 0 from h9) (by decide))
              exact kk H1 locs1 la ⟨w1, w2, hr3.1, hr3.2.1, hr3.2.2, w3⟩ hl (fun v hv => (vl v hv).mon (xmon_st hX2)) (fun v hv => (xpop (xpop vs) v hv).mon (xmon_st hX2))
            · rename_i k2 x
              cases hv
              have hM : xch M (xst M k o f (.long x)) k o f := xch_st hk
              refine xw_put hx hb hts hown (List.contains_iff_mem.mp hX1) I.1 I.2.1 I.2.2.2.2.2 hk h43 ho hc hfd hfin hM (v := .long x) (by show Value.long (gl _ k o f) = _; unfold gl; rw [xst_eq]) (fun ty hty => by rw [beq_iff_eq.mp hX6] at hty; cases hty; exact ⟨rfl, rfl⟩) hd (fun H1 locs1 w1 w2 w3 => ?_)
              have hr3 := xrest_fld hk hfd hM I.2.2.1 I.2.2.2.1 I.2.2.2.2.1 (fun h9 => absurd (show 2 ≤ 1 from h9) (by decide))
              exact kk H1 locs1 la ⟨w1, w2, hr3.1, hr3.2.1, hr3.2.2, w3⟩ hl (fun v hv => (vl v hv).mon (xmon_st hX2)) (fun v hv => (xpop (xpop vs) v hv).mon (xmon_st hX2))
            · rename_i k2 q
              split at hv
              · rename_i hk2
                subst hk2
                cases hv
                have hM : xch M (xst M k o f (.ref q)) k o f := xch_st hk
                obtain ⟨-, htk, htk51⟩ := xtk_lt hk hfd
                have hX6' : (!xreg y && (xstrk k && !xra k)) = true := hX6
                rw [Bool.and_eq_true, Bool.and_eq_true] at hX6'
                obtain ⟨L, rfl⟩ := hrg (by simpa using hX6'.1)
                have hra : xra k = false := by simpa using hX6'.2.2
                have hmem : (k, o) ∈ L := by
                  rcases hvo with q | q
                  · exact absurd q h51
                  · exact q.2.2 L rfl hX6'.2.1
                have hfl := (xgood_spec (hr L rfl).1 hmem).2.1 hra f 4 k2 tw hfd (by decide)
                have hq : q < xc M k2 := by
                  rcases vs _ List.mem_cons_self with z | z
                  · exact absurd z htk51
                  · exact z.2.1
                have eg : gn (xst M k o f (.ref q)) k o f = q := by unfold gn; rw [xst_eq]
                have hfl2 : xf (xst M k o f (.ref q)) k o f := by
                  show gn _ (200 + k) o f = 1
                  rw [gn_xst_ne (by omega)]
                  exact hfl
                rw [xenc_ref htk51]
                refine xw_put hx hb hts hown (List.contains_iff_mem.mp hX1) I.1 I.2.1 I.2.2.2.2.2 hk h43 ho hc hfd hfin hM (v := .ref (ad k2 q)) (by rw [show 4 % 10 = 4 from rfl, xfv_ref (by decide) hfl2, eg]; rfl) (fun ty hty => ?_) hd (fun H1 locs1 w1 w2 w3 => ?_)
                · obtain ⟨ty', hty', -, -, h9⟩ := xtypes hk hfd
                  obtain rfl : ty' = ty := Option.some.inj (hty'.symm.trans hty)
                  exact xnarrow_ref (h9 (show 2 ≤ 4 by decide))
                · have hr3 := xrest_fld hk hfd hM I.2.2.1 I.2.2.2.1 I.2.2.2.2.1 (fun _ _ => by show xtg 4 tw o (gn _ k o f) < xc M k2; rw [eg]; exact hq)
                  exact kk H1 locs1 la ⟨w1, w2, hr3.1, hr3.2.1, hr3.2.2, w3⟩ hl (fun v hv => (vl v hv).mon (xmon_st hX2)) (fun v hv => (xpop (xpop vs) v hv).mon (xmon_st hX2))
              · cases hv
            · cases hv
          · cases hv
        · cases h
      · cases h
    · cases h
  | _ =>
    simp [xpure] at h
