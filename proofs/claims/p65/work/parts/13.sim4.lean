/-! MAKING THINGS, COPYING ARRAYS. -/
def xup (ad : xA) (k c a : Nat) : xA := fun k' o' => if k' = k ∧ o' = c then a else ad k' o'
theorem xup_ne {ad : xA} {k c a k' o' : Nat} (h : ¬ (k' = k ∧ o' = c)) : xup ad k c a k' o' = ad k' o' := if_neg h
theorem xup_eq {ad : xA} {k c a : Nat} : xup ad k c a k c = a := if_pos ⟨rfl, rfl⟩
/-- a store with one thing more -/
def xmk (M M' : xM) (k : Nat) : Prop := xc M' k = xc M k + 1 ∧ (∀ k', k' ≠ k → xc M' k' = xc M k') ∧ (∀ k' o' f', k' < 60 → o' < xc M k' → M' k' o' f' = M k' o' f' ∧ gn M' (200 + k') o' f' = gn M (200 + k') o' f') ∧ (∀ k' o', k' < 60 → o' < xc M k' → gn M' (110 + k') o' 0 = gn M (110 + k') o' 0)
theorem xnew_at {M : xM} {k n k' o' f' : Nat} (hk' : k' < 100) : xnew M k n k' o' f' = xclr M k (xc M k) k' o' f' := by
  unfold xnew xbump
  rw [xst_ne (by omega), xst_ne (by omega), xst_ne (by omega)]
theorem xmk_new {M : xM} {k n : Nat} (hk : k < 60) : xmk M (xnew M k n) k := by
  have hb : Nat.blt k 60 = true := Nat.ble_eq_true_of_le hk
  refine ⟨by rw [xc, gn_xnew_cnt hb, if_pos rfl], fun k' h => by rw [xc, gn_xnew_cnt hb, if_neg h], fun k' o' f' h1 h2 => ?_, fun k' o' h1 h2 => ?_⟩
  · have hne : ¬ (k' = k ∧ o' = xc M k) := fun q => by rw [q.1] at h2; omega
    constructor
    · rw [xnew_at (by omega)]
      unfold xclr
      rw [if_neg (fun q => q.1.elim (fun e => hne ⟨e, q.2⟩) (fun e => by omega))]
    · unfold xnew xbump
      rw [gn_xst_ne (by omega), gn_xst_ne (by omega), gn_xst_ne (by omega), gn_xclr_ne (by omega)]
      by_cases e : k' = k
      · exact Or.inr (fun q => hne ⟨e, q⟩)
      · exact Or.inl (by omega)
  · unfold xnew xbump
    rw [gn_xst_ne (by omega), gn_xst_ne (by omega), gn_xst_ne (by omega), gn_xclr_ne (by omega) (Or.inl (by omega))]
theorem xmk_newD {M : xM} {k n : Nat} (hk : k < 60) : xmk M (xnewD M k n) k := by
  obtain ⟨h1, h2, h3, h4⟩ := xmk_new (M := M) (n := n) hk
  unfold xnewD
  refine ⟨by rw [xc, gn_xst_ne (by omega)]; exact h1, fun k' h => by rw [xc, gn_xst_ne (by omega)]; exact h2 k' h, fun k' o' f' q1 q2 => ⟨by rw [xst_ne (by omega)]; exact (h3 k' o' f' q1 q2).1, by rw [gn_xst_ne (by omega)]; exact (h3 k' o' f' q1 q2).2⟩, fun k' o' q1 q2 => ?_⟩
  rw [gn_xst, if_neg (fun q => by
    have e : k' = k := by omega
    subst e
    exact absurd q2 (by rw [q.2.1]; exact Nat.lt_irrefl _))]
  exact h4 k' o' q1 q2
theorem xnew_def {M : xM} {k n f : Nat} (hk : k < 60) : gi (xnew M k n) k (xc M k) f = 0 ∧ gl (xnew M k n) k (xc M k) f = 0 ∧ gd (xnew M k n) k (xc M k) f = 0 ∧ gn (xnew M k n) (200 + k) (xc M k) f = 0 := by
  have e1 : xnew M k n k (xc M k) f = .retAddr 0 := by
    rw [xnew_at (by omega)]
    exact if_pos ⟨Or.inl rfl, rfl⟩
  have e2 : xnew M k n (200 + k) (xc M k) f = .retAddr 0 := by
    unfold xnew xbump
    rw [xst_ne (by omega), xst_ne (by omega), xst_ne (by omega)]
    exact if_pos ⟨Or.inr rfl, rfl⟩
  unfold gi gl gd gn
  rw [e1, e2]
  exact ⟨rfl, rfl, rfl, rfl⟩
theorem xnewD_def {M : xM} {k n f : Nat} (hk : k < 60) : gi (xnewD M k n) k (xc M k) f = 0 ∧ gl (xnewD M k n) k (xc M k) f = 0 ∧ gd (xnewD M k n) k (xc M k) f = 0 ∧ gn (xnewD M k n) (200 + k) (xc M k) f = 0 ∧ gn (xnewD M k n) (110 + k) (xc M k) 0 = n := by
  obtain ⟨h1, h2, h3, h4⟩ := xnew_def (M := M) (n := n) (f := f) hk
  have e : ∀ k' o' f', k' < 110 ∨ 170 ≤ k' → xnewD M k n k' o' f' = xnew M k n k' o' f' := fun k' o' f' h => xst_ne (by omega)
  have g1 : gi (xnewD M k n) k (xc M k) f = gi (xnew M k n) k (xc M k) f := by unfold gi; rw [e k _ f (Or.inl (by omega))]
  have g2 : gl (xnewD M k n) k (xc M k) f = gl (xnew M k n) k (xc M k) f := by unfold gl; rw [e k _ f (Or.inl (by omega))]
  have g3 : gd (xnewD M k n) k (xc M k) f = gd (xnew M k n) k (xc M k) f := by unfold gd; rw [e k _ f (Or.inl (by omega))]
  have g4 : gn (xnewD M k n) (200 + k) (xc M k) f = gn (xnew M k n) (200 + k) (xc M k) f := by
    show (match xnewD M k n (200 + k) (xc M k) f with
      | .ref x => x
      | _ => 0) = _
    rw [e (200 + k) _ f (Or.inr (by omega))]
    rfl
  refine ⟨g1.trans h1, g2.trans h2, g3.trans h3, g4.trans h4, ?_⟩
  have e3 : xnewD M k n (110 + k) (xc M k) 0 = .ref n := xst_eq
  show (match xnewD M k n (110 + k) (xc M k) 0 with
    | .ref x => x
    | _ => 0) = n
  rw [e3]
/-- what was there is as it was -/
theorem xfv_mk {ad : xA} {M M' : xM} {k a : Nat} (hm : xmk M M' k) (hT : xWT M) {k' o' f : Nat} {d : Nat × Nat × Nat} (hk' : k' < 60) (ho' : o' < xc M k') (hd : (xfd k')[f]? = some d) : xfv (xup ad k (xc M k) a) M' k' o' f d = xfv ad M k' o' f d := by
  obtain ⟨q1, q2⟩ := hm.2.2.1 k' o' f hk' ho'
  rw [xfv_eq q1 q2]
  obtain ⟨t, tk, tw⟩ := d
  by_cases ht : 2 ≤ t
  · by_cases hf : xf M k' o' f
    · rw [xfv_ref ht hf, xfv_ref ht hf]
      have h1 := hT.1 k' o' f t tk tw hk' ho' hd ht hf
      rw [xup_ne]
      intro q
      rw [q.1] at h1
      omega
    · obtain ⟨t, rfl⟩ : ∃ z, t = z + 2 := ⟨t - 2, by omega⟩
      unfold xfv
      simp only
      rw [if_neg hf, if_neg hf]
  · have : t = 0 ∨ t = 1 := by omega
    rcases this with rfl | rfl <;> rfl
theorem xav_mk {ad : xA} {M M' : xM} {k a : Nat} (hm : xmk M M' k) (hT : xWT M) {k' o' j : Nat} (hk' : k' < 60) (ho' : o' < xc M k') (hj : xae k' ≠ none → j < xnth xlens k') : xav (xup ad k (xc M k) a) M' k' o' j = xav ad M k' o' j := by
  obtain ⟨q1, q2⟩ := hm.2.2.1 k' o' j hk' ho'
  rw [xav_eq q1 q2]
  unfold xav
  split
  · rfl
  · rfl
  · split
    · rename_i tk tw hae
      by_cases hf : gn M (200 + k') o' j = 1
      · rw [if_pos hf, if_pos hf]
        have h1 := hT.2 k' o' tk tw j hk' ho' hae (hj (by rw [hae]; exact fun h => nomatch h)) hf
        rw [xup_ne]
        intro q
        rw [q.1] at h1
        omega
      · rw [if_neg hf, if_neg hf]
    · rfl
  · rfl
theorem xdyn_ae : (List.range 60).all (fun k => !xdyn k || (xae k).isNone) = true := by decide +kernel
theorem xlen_ae {k o : Nat} {M : xM} (hk : k < 60) (h : xae k ≠ none) : xlen k o M = xnth xlens k := by
  have h1 := List.all_eq_true.mp xdyn_ae k (List.mem_range.mpr hk)
  unfold xlen
  split
  · rename_i hd
    rw [hd] at h1
    cases hz : xae k with
    | none => exact absurd hz h
    | some v => rw [hz] at h1; simp at h1
  · rfl
/-- the world with one thing more -/
theorem xWd_mk {s : State} {A : Nat → Prop} {ad : xA} {M M' : xM} {H H' : Heap} {k : Nat} (hW : xWd s A ad M H) (hT : xWT M) (hm : xmk M M' k) (e3 : ∀ q, q < H.size → H'[q]? = H[q]?)
    (hob : xfd k ≠ [] → xOb s A (xup ad k (xc M k) H.size) M' H' k (xc M k)) (har : ∀ ty, xat k = some ty → xAr s A (xup ad k (xc M k) H.size) M' H' k (xc M k) ty) : xWd s A (xup ad k (xc M k) H.size) M' H' := by
  intro k' o' hk' ho'
  by_cases hnew : k' = k ∧ o' = xc M k
  · obtain ⟨rfl, rfl⟩ := hnew
    exact ⟨hob, har⟩
  · have ho : o' < xc M k' := by
      by_cases e : k' = k
      · subst e
        rw [hm.1] at ho'
        have : o' ≠ xc M k' := fun q => hnew ⟨rfl, q⟩
        omega
      · rw [hm.2.1 k' e] at ho'; exact ho'
    refine ⟨fun hf => ((hW k' o' hk' ho).1 hf).same (xup_ne hnew) (e3 _ (hW.lt hk' ho (Or.inl hf))) (fun f d hd => xfv_mk hm hT hk' ho hd), fun ty hty => ((hW k' o' hk' ho).2 ty hty).same (xup_ne hnew) (e3 _ (hW.lt hk' ho (Or.inr (by rw [hty]; exact fun h => nomatch h)))) (xlen_eq (hm.2.2.2 k' o' hk' ho)) (fun j hj => xav_mk hm hT hk' ho (fun h => by rw [xlen_ae hk' h] at hj; exact hj))⟩
theorem xAp_mk {A : Nat → Prop} {ad : xA} {s : State} {M M' : xM} {H : Heap} {k : Nat} (hk : k < 60) (h42 : k ≠ 42) (hP : xAp A ad M) (hW : xWd s A ad M H) (hm : xmk M M' k) (hc : xcst k (xc M k) = false) (hA : A H.size) : xAp A (xup ad k (xc M k) H.size) M' := by
  have old : ∀ k' o', k' < 60 → o' < xc M' k' → ¬ (k' = k ∧ o' = xc M k) → o' < xc M k' := by
    intro k' o' hk' ho' hn
    by_cases e : k' = k
    · subst e
      rw [hm.1] at ho'
      have : o' ≠ xc M k' := fun q => hn ⟨rfl, q⟩
      omega
    · rw [hm.2.1 k' e] at ho'; exact ho'
  have notnew : ∀ k' o', k' < 60 → o' < xc M k' → xtrk k' → ad k' o' ≠ H.size := fun k' o' hk' ho' ht e => absurd (hW.lt hk' ho' ht) (by omega)
  refine ⟨fun k' o' hk' ho' => ?_, fun k1 o1 k2 o2 h1 h2 ho1 ho2 t1 t2 c1 c2 he => ?_, fun o1 o2 ho1 ho2 he => ?_⟩
  · by_cases hn : k' = k ∧ o' = xc M k
    · obtain ⟨rfl, rfl⟩ := hn
      rw [xup_eq]
      exact ⟨fun _ => hc, fun _ => hA⟩
    · rw [xup_ne hn]
      exact hP.1 k' o' hk' (old k' o' hk' ho' hn)
  · by_cases n1 : k1 = k ∧ o1 = xc M k
    · by_cases n2 : k2 = k ∧ o2 = xc M k
      · exact ⟨n1.1.trans n2.1.symm, n1.2.trans n2.2.symm⟩
      · rw [n1.1, n1.2, xup_eq, xup_ne n2] at he
        exact absurd he.symm (notnew k2 o2 h2 (old k2 o2 h2 ho2 n2) t2)
    · by_cases n2 : k2 = k ∧ o2 = xc M k
      · rw [n2.1, n2.2, xup_eq, xup_ne n1] at he
        exact absurd he (notnew k1 o1 h1 (old k1 o1 h1 ho1 n1) t1)
      · rw [xup_ne n1, xup_ne n2] at he
        exact hP.2.1 k1 o1 k2 o2 h1 h2 (old k1 o1 h1 ho1 n1) (old k2 o2 h2 ho2 n2) t1 t2 c1 c2 he
  · rw [xup_ne (fun q => h42 q.1.symm), xup_ne (fun q => h42 q.1.symm)] at he
    rw [hm.2.1 42 (fun e => h42 e.symm)] at ho1 ho2
    exact hP.2.2 o1 o2 ho1 ho2 he
theorem xmut_c {k c : Nat} {M : xM} (h : xmut k 13 = true) (hK : xK M) (hc : c = xc M k) : xmut k c = true := by
  subst hc
  by_cases h6 : k = 46
  · subst h6; exact Nat.ble_eq_true_of_le hK.2.2.2.2.1
  · by_cases h7 : k = 47
    · subst h7; exact Nat.ble_eq_true_of_le hK.2.2.2.2.2.1
    · unfold xmut at h ⊢
      split <;> simp_all
theorem xrest_mk {M M' : xM} {k : Nat} (hk : k < 60) (hm : xmk M M' k) (hT : xWT M) (hB : xBt M) (hK : xK M) (h0 : ∀ f, gi M' k (xc M k) f = 0 ∧ gn M' (200 + k) (xc M k) f = 0) (hlen : xdyn k = true → gn M' (110 + k) (xc M k) 0 ≤ 65536) : xWT M' ∧ xBt M' ∧ xK M' := by
  have mono : ∀ k', xc M k' ≤ xc M' k' := by
    intro k'
    by_cases e : k' = k
    · subst e; rw [hm.1]; omega
    · rw [hm.2.1 k' e]; exact Nat.le_refl _
  have old : ∀ k' o', o' < xc M' k' → ¬ (k' = k ∧ o' = xc M k) → o' < xc M k' := by
    intro k' o' ho' hn
    by_cases e : k' = k
    · subst e
      rw [hm.1] at ho'
      have : o' ≠ xc M k' := fun q => hn ⟨rfl, q⟩
      omega
    · rw [hm.2.1 k' e] at ho'; exact ho'
  refine ⟨⟨fun k' o' f' t tk tw hk' ho' hd' ht hf => ?_, fun k' o' tk tw j hk' ho' hae' hj hf => ?_⟩, ⟨fun k' o' j ht ho' => ?_, fun k' o' hy hk' ho' => ?_⟩, ?_⟩
  · by_cases e : k' = k ∧ o' = xc M k
    · obtain ⟨rfl, rfl⟩ := e
      have := (h0 f').2
      unfold xf at hf
      omega
    · have ho := old k' o' ho' e
      obtain ⟨q1, q2⟩ := hm.2.2.1 k' o' f' hk' ho
      have e3 : gn M' k' o' f' = gn M k' o' f' := by unfold gn; rw [q1]
      rw [e3]
      exact Nat.lt_of_lt_of_le (hT.1 k' o' f' t tk tw hk' ho hd' ht (by show gn M (200 + k') o' f' = 1; rw [← q2]; exact hf)) (mono tk)
  · by_cases e : k' = k ∧ o' = xc M k
    · obtain ⟨rfl, rfl⟩ := e
      have := (h0 j).2
      unfold xf at hf
      omega
    · have ho := old k' o' ho' e
      obtain ⟨-, q2⟩ := hm.2.2.1 k' o' j hk' ho
      exact Nat.lt_of_lt_of_le (hT.2 k' o' tk tw j hk' ho hae' hj (by show gn M (200 + k') o' j = 1; rw [← q2]; exact hf)) (mono tk)
  · by_cases e : k' = k ∧ o' = xc M k
    · obtain ⟨rfl, rfl⟩ := e
      rw [(h0 j).1]
      rfl
    · have ho := old k' o' ho' e
      obtain ⟨q1, -⟩ := hm.2.2.1 k' o' j (xtc_lt k' (by rw [ht]; decide)) ho
      have e3 : gi M' k' o' j = gi M k' o' j := by unfold gi; rw [q1]
      rw [e3]
      exact hB.1 k' o' j ht ho
  · by_cases e : k' = k ∧ o' = xc M k
    · obtain ⟨rfl, rfl⟩ := e
      exact hlen hy
    · have ho := old k' o' ho' e
      rw [hm.2.2.2 k' o' hk' ho]
      exact hB.2 k' o' hy hk' ho
  · obtain ⟨a, b, c, e1, e2, e3, e4, e5⟩ := hK
    exact ⟨Nat.le_trans a (mono _), Nat.le_trans b (mono _), Nat.le_trans c (mono _), Nat.le_trans e1 (mono _), Nat.le_trans e2 (mono _), Nat.le_trans e3 (mono _), Nat.le_trans e4 (mono _), Nat.le_trans e5 (mono _)⟩
theorem va_S_more {A : Nat → Prop} {H0 H H1 : Heap} {locs : List Loc} (h : va_S A H0 H locs) (z : H.size ≤ H1.size) (e : ∀ q, q < H.size → H1[q]? = H[q]?) : va_S A H0 H1 locs :=
  ⟨Nat.le_trans h.1 z, fun q h1 h2 => (e q (Nat.lt_of_lt_of_le h1 h.1)).trans (h.2.1 q h1 h2), h.2.2⟩
theorem xnewL_all : xnewL.all (fun q => Nat.blt q.2.1 60 && (!(xfd q.2.1).isEmpty && (!Nat.beq q.2.1 42 && !Nat.beq q.2.1 43))) = true := by decide +kernel
section XNEW
variable {p : Program} {l : Launch} {e : Env} {R : Room} {s : State} {m : MethodId} {args : Array Value} {below : List Frame} {meth : Method} {c : Code} {H : Heap} {locs : List Loc} {cells slots : Nat} {Q : State → Prop}
variable {cc : ByteArray} {pc : Nat} {ls : Array Slot} {rest : List Value} {A : Nat → Prop} {ad : xA} {M : xM}
theorem xw_new (hx : p.tables.exec = Jvm.exec) (hb : c.code = cc) (hts : ∀ w ∈ xwA, w.before args s = true) {oc ix k n : Nat} (hown : s.vm.findClass (xcn oc) = some m.cls) (hl : ((oc, ix), k, n) ∈ xnewL) (I : xInv s A ad M s.heap H locs) (hA : ∀ q, s.heap.size ≤ q → A q) (hmu : xmut k 13 = true) (hdg : decode cc pc = .ok (.new ix, 3)) (hcells : cells + 1 ≤ R.cells) (hslots : slots + n ≤ R.slots)
    (kk : ∀ H1 : Heap, xInv s A (xup ad k (xc M k) H.size) (xnew M k n) s.heap H1 locs → W p l e R s m args below meth c H1 locs (cells + 1) (slots + n) Q (F0 m (pc + 3) ls (.ref H.size :: rest))) : W p l e R s m args below meth c H locs cells slots Q (F0 m pc ls rest) := by
  obtain ⟨hW, hP, hT, hB, hK, hS⟩ := I
  have h1 := List.all_eq_true.mp xnewL_all _ hl
  simp only [Bool.and_eq_true] at h1
  have hk : k < 60 := Nat.le_of_ble_eq_true h1.1
  have hfd : xfd k ≠ [] := fun z => by have := h1.2.1; simp only [z] at this; cases this
  have h42 : k ≠ 42 := fun z => by have := h1.2.2.1; simp only [z] at this; cases this
  have h43 : k ≠ 43 := fun z => by have := h1.2.2.2; simp only [z] at this; cases this
  have hini : (Cond.initialized (xcl k)).before args s = true := by
    have h2 : (List.range 60).all (fun k => (xfd k).isEmpty || (xinik.contains k)) = true := by decide +kernel
    have h3 := List.all_eq_true.mp h2 k (List.mem_range.mpr hk)
    rcases (Bool.or_eq_true _ _).mp h3 with h | h
    · rw [List.isEmpty_iff] at h; exact absurd h hfd
    · exact hts _ (xinik_ok k (List.contains_iff_mem.mp h))
  have hm := xmk_new (M := M) (n := n) hk
  refine W.newc hx hb hown (hts _ (xnew1_ok _ hl)) (hts _ (xnew2_ok _ hl)) hini rfl hdg hcells hslots fun cC kC f1 f2 f3 f4 => ?_
  have e3 : ∀ q, q < H.size → (H.push { cls := cC, slots := kC.instanceTypes.map defaultValue, vm := .none })[q]? = H[q]? := fun q hq => by
    rw [Array.getElem?_push]
    split
    · omega
    · rfl
  have e1 : (H.push { cls := cC, slots := kC.instanceTypes.map defaultValue, vm := .none })[H.size]? = some ({ cls := cC, slots := kC.instanceTypes.map defaultValue, vm := .none } : Cell) := by simp
  have hcst : xcst k (xc M k) = false := by unfold xcst; rw [xmut_c hmu hK rfl]; rfl
  have hr3 := xrest_mk hk hm hT hB hK (fun f => ⟨(xnew_def (n := n) (f := f) hk).1, (xnew_def (n := n) (f := f) hk).2.2.2⟩) (fun hy => by
    have h2 : (List.range 60).all (fun k => (xfd k).isEmpty || !xdyn k) = true := by decide +kernel
    have h3 := List.all_eq_true.mp h2 k (List.mem_range.mpr hk)
    rcases (Bool.or_eq_true _ _).mp h3 with h | h
    · rw [List.isEmpty_iff] at h; exact absurd h hfd
    · rw [hy] at h; cases h)
  refine kk _ ⟨xWd_mk hW hT hm e3 (fun _ => ?_) (fun ty hty => ?_), xAp_mk hk h42 hP hW hm hcst (hA _ hS.1), hr3.1, hr3.2.1, hr3.2.2, va_S_more hS (by simp) e3⟩
  · refine ⟨_, by rw [xup_eq]; exact e1, rfl, (fun z => by cases z), fun _ => rfl, f1, fun f d hd => ?_⟩
    obtain ⟨ty, hty, t0, t1, t2⟩ := xtypes hk hd
    have hlay := (xlays hts hk h43 hd).elim (fun h => Or.inl h.2) (fun h => Or.inr h.2)
    obtain ⟨i, cf, kf, fi, fd, hi, -⟩ := u_found hlay
    obtain ⟨g1, -, g3⟩ := u_facts f1 f2 hlay hi
    rw [(State.fieldFound?_type hi hty).2] at g3
    refine ⟨cf, kf, fi, fd, hi, g1, ?_⟩
    show (kC.instanceTypes.map defaultValue)[fd.slot]? = _
    rw [Array.getElem?_map, g3]
    obtain ⟨d1, d2, -, d4⟩ := xnew_def (M := M) (n := n) (f := f) hk
    obtain ⟨t, tk, tw⟩ := d
    by_cases ht : 2 ≤ t
    · obtain ⟨t, rfl⟩ : ∃ z, t = z + 2 := ⟨t - 2, by omega⟩
      unfold xfv
      simp only
      rw [if_neg (by omega)]
      have h9 := t2 ht
      cases ty <;> first | rfl | cases h9
    · have : t = 0 ∨ t = 1 := by omega
      rcases this with rfl | rfl
      · show _ = some (Value.int (gi _ k (xc M k) f))
        rw [d1]
        rcases t0 rfl with rfl | rfl | rfl <;> rfl
      · show _ = some (Value.long (gl _ k (xc M k) f))
        rw [d2, t1 rfl]
        rfl
  · have h2 := (xins_of hk h43 (d := (xfd k)[0]'(by cases hz : xfd k with
      | nil => exact absurd hz hfd
      | cons a r => simp)) (f := 0) (by simp)).2
    rw [h2] at hty
    cases hty
end XNEW
