section XST2
variable {args : Array Value} {s : State}
theorem xmut0 {k o : Nat} (ho : o < xc0 k) : xcst k o = true := by
  unfold xcst
  rcases xc0_cs (k := k) (by omega) with rfl | rfl | rfl | rfl | rfl | rfl | rfl
  · rfl
  · rfl
  · rfl
  · have ho : o < 13 := ho
    show (!Nat.ble 13 o) = true
    cases hb : Nat.ble 13 o with
    | false => rfl
    | true => have := Nat.le_of_ble_eq_true hb; omega
  · have ho : o < 13 := ho
    show (!Nat.ble 13 o) = true
    cases hb : Nat.ble 13 o with
    | false => rfl
    | true => have := Nat.le_of_ble_eq_true hb; omega
  · rfl
  · rfl
theorem xAp0 {L : Nat} {xs : Nat → Int32} (hn : ∀ w ∈ xNw, w.before args s = true) {b : Nat} (hb : args = #[.ref b]) (hbl : b < s.heap.size) {A : Nat → Prop} (hA : ∀ a : Nat, a < s.heap.size → ¬ A a) : xAp A (xad0 args s) (xM0 L xs) := by
  refine ⟨fun k o hk ho => ?_, fun k o k' o' hk hk' ho ho' _ _ hc _ _ => ?_, fun o o' ho ho' e => ?_⟩
  · have ho : o < xc0 k := ho
    rw [xmut0 ho]
    exact ⟨fun h => absurd h (hA _ (xad0_ok hn hb hbl ho).2), fun h => by cases h⟩
  · have ho : o < xc0 k := ho
    rw [xmut0 ho] at hc
    cases hc
  · have ho : o < 5 := ho
    have ho' : o' < 5 := ho'
    by_cases hij : o = o'
    · exact hij
    · have h1 := List.all_eq_true.mp (List.all_eq_true.mp xdis_all o (List.mem_range.mpr ho)) o' (List.mem_range.mpr ho')
      have e1 := (xad0_ok hn hb hbl (k := 42) ho).1
      have e2 := (xad0_ok hn hb hbl (k := 42) ho').1
      rcases (Bool.or_eq_true _ _).mp h1 with h | h
      · exact absurd (Nat.eq_of_beq_eq_true h) hij
      · rcases (Bool.or_eq_true _ _).mp h with h | h
        · exact absurd e (va_neR (hn _ (xdis_ok _ (List.contains_iff_mem.mp h))) e1 e2)
        · exact absurd e.symm (va_neR (hn _ (xdis_ok _ (List.contains_iff_mem.mp h))) e2 e1)
theorem xWT0 {L : Nat} {xs : Nat → Int32} : xWT (xM0 L xs) := by
  refine ⟨fun k o f t tk tw hk ho hd ht hf => ?_, fun k o tk tw j hk ho hae hj hf => ?_⟩
  · have ho : o < xc0 k := ho
    show xtg t tw o _ < xc0 tk
    rcases xc0_cs (k := k) (by omega) with rfl | rfl | rfl | rfl | rfl | rfl | rfl
    · cases hd
    · cases hd
    · cases hd
    · have ho : o < 13 := ho
      match f, hd with
      | 0, hd => cases hd; show o < 13; exact ho
      | 1, hd => cases hd; omega
      | f + 2, hd => cases hd
    · cases hd
    · cases hd
    · cases hd
  · have ho : o < xc0 k := ho
    show j + tw < xc0 tk
    rcases xc0_cs (k := k) (by omega) with rfl | rfl | rfl | rfl | rfl | rfl | rfl
    · cases hae
    · cases hae
    · cases hae
    · cases hae
    · cases hae
    · cases hae
    · cases hae
theorem xBt0 {L : Nat} {xs : Nat → Int32} (hL : L ≤ 260) : xBt (xM0 L xs) := by
  refine ⟨fun k o j ht ho => ?_, fun k o hy hk ho => ?_⟩
  · have ho : o < xc0 k := ho
    have f0 : fits .byte (.int 0) = true := by decide
    rcases xc0_cs (k := k) (by omega) with rfl | rfl | rfl | rfl | rfl | rfl | rfl
    · cases ht
    · cases ht
    · cases ht
    · cases ht
    · show fits .byte (.int (xget0 0 (xget0 [] xbyt o) j)) = true
      refine xget0_all (P := fun x => fits .byte (.int x) = true) f0 (fun x hx => ?_) j
      have h1 := xget0_all (d := ([] : List Int32)) (P := fun l => ∀ x ∈ l, fits .byte (.int x) = true) (fun x hx => nomatch hx) (l := xbyt) (fun l hl x hx => List.all_eq_true.mp (List.all_eq_true.mp xbyt_all.1 l hl) x hx) o
      exact h1 x hx
    · show fits .byte (.int (xget0 0 xdg1 j)) = true
      exact xget0_all (P := fun x => fits .byte (.int x) = true) f0 (fun x hx => List.all_eq_true.mp (and_l xbyt_all.2) x hx) j
    · show fits .byte (.int (xget0 0 xdg10 j)) = true
      exact xget0_all (P := fun x => fits .byte (.int x) = true) f0 (fun x hx => List.all_eq_true.mp (and_r xbyt_all.2) x hx) j
  · have ho : o < xc0 k := ho
    rcases xc0_cs (k := k) (by omega) with rfl | rfl | rfl | rfl | rfl | rfl | rfl
    · show L ≤ 65536
      omega
    · cases hy
    · cases hy
    · cases hy
    · have := xlen46_le o
      show xnth xlen46 o ≤ 65536
      omega
    · cases hy
    · cases hy
theorem xK0 {L : Nat} {xs : Nat → Int32} : xK (xM0 L xs) := ⟨Nat.le_refl 5, Nat.le_refl 1, Nat.zero_le _, Nat.zero_le _, Nat.le_refl 13, Nat.le_refl 13, Nat.le_refl 1, Nat.le_refl 1⟩
theorem xnc_ev (hn : ∀ w ∈ xNw, w.before args s = true) : ∀ q ∈ xstt, (Term.static q.1 q.2.1 q.2.2.1) = xtm q.2.2.2.1 (match q.2.2.2.2 with
  | .ref o => o
  | _ => 0) ∨ q.2.2.2.1 = 0 ∨ q.2.2.2.1 = 51 := by
  intro q hq
  have h : xstt.all (fun q => decide ((Term.static q.1 q.2.1 q.2.2.1) = xtm q.2.2.2.1 (match q.2.2.2.2 with
    | .ref o => o
    | _ => 0)) || (Nat.beq q.2.2.2.1 0 || Nat.beq q.2.2.2.1 51)) = true := by decide +kernel
  rcases (Bool.or_eq_true _ _).mp (List.all_eq_true.mp h q hq) with h | h
  · exact Or.inl (of_decide_eq_true h)
  · rcases (Bool.or_eq_true _ _).mp h with h | h
    · exact Or.inr (Or.inl (Nat.eq_of_beq_eq_true h))
    · exact Or.inr (Or.inr (Nat.eq_of_beq_eq_true h))
theorem xstt_0 : xstt.all (fun q => match q.2.2.2 with
  | (51, .ref o) => Nat.beq o 0 && decide ((Term.static q.1 q.2.1 q.2.2.1) = xfmt)
  | (0, .int x) => decide (x = 1) && decide ((Term.static q.1 q.2.1 q.2.2.1) = Term.static "java/lang/String" "COMPACT_STRINGS" "Z")
  | (k, .ref o) => Nat.blt o (xc0 k) && Nat.blt k 60
  | _ => false) = true := by decide +kernel
theorem xfmt_ev (hn : ∀ w ∈ xNw, w.before args s = true) : xfmt.eval args s none [] s = some (xenc (xad0 args s) (51, .ref 0)) := by
  have h := hn _ (List.mem_of_getElem? xnc_1)
  unfold xenc
  show _ = some (match xad0 args s 60 0 with
    | 0 => Value.null
    | n + 1 => .ref n)
  have e : xad0 args s 60 0 = (match xfmt.eval args s none [] s with
    | some (.ref a) => a + 1
    | _ => 0) := rfl
  rw [e]
  cases hv : xfmt.eval args s none [] s with
  | none => simp [Cond.before, Cond.holds, Cond.value, hv] at h
  | some v =>
    simp only [Cond.before, Cond.holds, Cond.value, hv] at h
    cases v with
    | ref a => rfl
    | null => rfl
    | _ => simp [Value.isRef] at h
theorem xCs0 (hw : ∀ w ∈ xTb, w.before args s = true) (hn : ∀ w ∈ xNw, w.before args s = true) {b : Nat} (hb : args = #[.ref b]) (hbl : b < s.heap.size) {A : Nat → Prop} (hA : ∀ a : Nat, a < s.heap.size → ¬ A a) : xCs A (xad0 args s) s := by
  refine ⟨fun q hq => ?_, fun q hq => ?_, fun q hq => ?_, va_AO.of (A := args) (hw _ (xts_6 _ List.mem_cons_self)), va_AO.of (A := args) (hw _ (xts_6 _ (List.mem_cons_of_mem _ List.mem_cons_self))), va_Nw.of rfl (A := args) (hw _ (xts_7 _ List.mem_cons_self)), fun q hq => va_Nw.of rfl (A := args) (hw _ (xts_n2 q hq)), fun q hq => va_Nw.of rfl (A := args) (hw _ (xts_n3 q hq))⟩
  · refine vk_R.of (A := args) (hw _ (xts_1 q hq)) ?_
    have h18 : q.2 < 13 := Nat.le_of_ble_eq_true (List.all_eq_true.mp xlds_lt q hq)
    have ev : (xtm 46 q.2).eval args s none [] s = some (.ref (xad0 args s 46 q.2)) := (xad0_ok hn hb hbl (k := 46) h18).1
    have h1 := List.all_eq_true.mp xlds_spl q hq
    rcases (Bool.or_eq_true _ _).mp h1 with h | h
    · have e1 : xcn q.1.1 = (xget0 ("", 0) xstm q.2).1 := by simpa using and_l (and_r h)
      have e2 : q.1.2 = (xget0 ("", 0) xstm q.2).2 := Nat.eq_of_beq_eq_true (and_r (and_r h))
      rw [e1, e2]
      exact ev
    · rcases (Bool.or_eq_true _ _).mp h with h | h
      · have h2 := hn _ (xse_ok q (List.contains_iff_mem.mp h))
        cases hv : (Term.string (xcn q.1.1) q.1.2).eval args s none [] s with
        | none => simp [Cond.before, Cond.holds, Cond.value, hv, ev] at h2
        | some v =>
          have h3 := va_eqv h2 hv
          rw [ev] at h3
          exact h3.symm
      · exact va_eqv (hn _ (xsf_ok q (List.contains_iff_mem.mp h))) ev
  · refine va_Zof (hw _ (xts_3 q hq)) (hw _ (xts_4 q hq)) ?_ hA
    have h0 := List.all_eq_true.mp xstt_0 q hq
    have hk := xnc_ev hn q hq
    obtain ⟨c, n, d, k, v⟩ := q
    show (Term.static c n d).eval args s none [] s = some (xenc (xad0 args s) (k, v))
    simp only at h0 hk
    split at h0
    · rename_i o e
      cases e
      obtain rfl := Nat.eq_of_beq_eq_true (and_l h0)
      rw [of_decide_eq_true (and_r h0)]
      exact xfmt_ev hn
    · rename_i x e
      cases e
      have e1 : x = 1 := of_decide_eq_true (and_l h0)
      show (Term.static c n d).eval args s none [] s = some (.int x)
      rw [of_decide_eq_true (and_r h0), e1]
      exact va_eqi (hn _ (List.mem_of_getElem? xnc_0))
    · rename_i k2 o hne e
      cases e
      have hlt : o < xc0 k := Nat.le_of_ble_eq_true (and_l h0)
      have h51 : k ≠ 51 := fun e => by
        subst e
        exact absurd hlt (Nat.not_lt_zero _)
      have hk0 : k ≠ 0 := fun e => by
        subst e
        exact absurd hlt (Nat.not_lt_zero _)
      rcases hk with hk | hk | hk
      · rw [xenc_ref h51, hk]
        exact (xad0_ok hn hb hbl hlt).1
      · exact absurd hk hk0
      · exact absurd hk h51
    · cases h0
  · exact va_Nw.of rfl (A := args) (hw _ (xts_5 q hq))
theorem xCe0 (hw : ∀ w ∈ xTb, w.before args s = true) (hn : ∀ w ∈ xNw, w.before args s = true) {A : Nat → Prop} (hA : ∀ a : Nat, a < s.heap.size → ¬ A a) : xCe A s := by
  refine ⟨⟨fun q hq => ?_, vx_Zqof (hw _ (xts_9 _ List.mem_cons_self)) (hw _ (xts_10 _ List.mem_cons_self)) (hn _ (List.mem_of_getElem? xnc_2)) hA, vx_Zqof (hw _ (xts_9 _ (List.mem_cons_of_mem _ List.mem_cons_self))) (hw _ (xts_10 _ List.mem_cons_self)) (hn _ (List.mem_of_getElem? xnc_3)) hA, fun E E' h1 h2 h3 => ?_, fun E hE w hw9 hx => ?_⟩, fun E hE => va_Nw.of rfl (A := args) (hw _ (xts_8 E (xE4 hE)))⟩
  · obtain ⟨a, h1, -⟩ := xex_ref (hn _ (xnc_tx q hq))
    exact ⟨a, vk_R.of (A := args) (hw _ (xts_2 q hq)) h1⟩
  · exact absurd h1 (Nat.not_lt_zero _)
  · have h1 := List.all_eq_true.mp (List.all_eq_true.mp xts_11 E hE) w hw9
    rw [hx] at h1
    have hm : w ∈ xTb := of_decide_eq_true h1
    exact va_Nw.of (by unfold xdc at hx; split at hx <;> first | rfl | cases hx) (A := args) (hw _ hm)
end XST2
