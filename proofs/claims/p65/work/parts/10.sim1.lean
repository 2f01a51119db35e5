/-! LOCALS, STACK, WHAT A METHOD'S TABLE MUST KEEP, the invariant. -/
def xisJ (v : xV) : Bool := match v.2 with
  | .retAddr _ => true
  | _ => false
def xlv (ad : xA) : List xV → Nat → List (Nat × Value)
  | [], _ => []
  | v :: r, i => match xisJ v with
    | true => xlv ad r (i + 1)
    | false => (i, xenc ad v) :: xlv ad r (i + 1)
theorem xlv_mem {ad : xA} {q : Nat × Value} : ∀ (ls : List xV) (i : Nat), q ∈ xlv ad ls i ↔ ∃ j, j < ls.length ∧ q.1 = i + j ∧ xisJ (xg ls j) = false ∧ q.2 = xenc ad (xg ls j)
  | [], i => by simp [xlv]
  | v :: r, i => by
    have ih := xlv_mem (ad := ad) (q := q) r (i + 1)
    have step : (∃ j, j < r.length ∧ q.1 = i + 1 + j ∧ xisJ (xg r j) = false ∧ q.2 = xenc ad (xg r j)) ↔ ∃ j, 0 < j ∧ j < (v :: r).length ∧ q.1 = i + j ∧ xisJ (xg (v :: r) j) = false ∧ q.2 = xenc ad (xg (v :: r) j) := by
      constructor
      · rintro ⟨j, h1, h2, h3, h4⟩
        exact ⟨j + 1, by omega, by simp; omega, by omega, h3, h4⟩
      · rintro ⟨j, h0, h1, h2, h3, h4⟩
        obtain ⟨j, rfl⟩ : ∃ z, j = z + 1 := ⟨j - 1, by omega⟩
        exact ⟨j, by simpa using h1, by omega, h3, h4⟩
    unfold xlv
    cases hv : xisJ v with
    | true =>
      simp only
      rw [ih, step]
      constructor
      · rintro ⟨j, -, h⟩
        exact ⟨j, h⟩
      · rintro ⟨j, h1, h2, h3, h4⟩
        cases j with
        | zero => rw [show xg (v :: r) 0 = v from rfl, hv] at h3; cases h3
        | succ j => exact ⟨j + 1, by omega, h1, h2, h3, h4⟩
    | false =>
      simp only [List.mem_cons]
      rw [ih, step]
      constructor
      · rintro (rfl | ⟨j, -, h⟩)
        · exact ⟨0, by simp, rfl, hv, rfl⟩
        · exact ⟨j, h⟩
      · rintro ⟨j, h1, h2, h3, h4⟩
        cases j with
        | zero => exact Or.inl (by obtain ⟨a, b⟩ := q; simp at h2; subst h2; simp only at h4; rw [h4]; rfl)
        | succ j => exact Or.inr ⟨j + 1, by omega, h1, h2, h3, h4⟩
theorem xs_len : ∀ (ls : List xV) (i : Nat) (v : xV), (xs ls i v).length = ls.length
  | [], _, _ => rfl
  | _ :: _, 0, _ => rfl
  | _ :: r, i + 1, v => by simp [xs, xs_len r i v]
theorem xg_xs : ∀ (ls : List xV) (i j : Nat) (v : xV), xg (xs ls i v) j = if j = i ∧ i < ls.length then v else xg ls j
  | [], i, j, v => by simp [xs]
  | a :: r, 0, 0, v => by simp [xs, xg]
  | a :: r, 0, j + 1, v => by simp [xs, xg]
  | a :: r, i + 1, 0, v => by simp [xs, xg]
  | a :: r, i + 1, j + 1, v => by simp [xs, xg, xg_xs r i j v]
theorem xsw1_len (ls : List xV) (i : Nat) (v : xV) : (xsw1 ls i v).length = ls.length := by
  unfold xsw1
  split
  · exact xs_len _ _ _
  · split
    · rw [xs_len, xs_len]
    · exact xs_len _ _ _
theorem xg_xsw1 {ls : List xV} {i j : Nat} {v : xV} (hi : i < ls.length) : xg (xsw1 ls i v) j = if j = i then v else if j + 1 = i ∧ xwide (xg ls j) = true then xJ else xg ls j := by
  unfold xsw1
  split
  · rw [xg_xs]
    by_cases h : j = 0
    · subst h; simp [hi]
    · simp [h]
  · rename_i k
    split
    · rename_i hw
      rw [xg_xs, xs_len, xg_xs]
      by_cases h : j = k + 1
      · subst h; simp [hi]
      · by_cases h2 : j = k
        · subst h2; simp [hw]; omega
        · have h3 : ¬ (j + 1 = k + 1 ∧ xwide (xg ls j) = true) := by omega
          simp [h, h2]
    · rename_i hw
      rw [xg_xs]
      by_cases h : j = k + 1
      · subst h; simp [hi]
      · by_cases h2 : j = k
        · subst h2; simp [hw]
        · simp [h, h2]
/-- the locals of the frame -/
def xlr (ad : xA) (n : Nat) (la : Array Slot) (ls : List xV) : Prop := ls.length = n ∧ lv_has la n (xlv ad ls 0)
theorem lv_less {la : Array Slot} {n : Nat} {l l' : List (Nat × Value)} (h : lv_has la n l) (hs : ∀ q ∈ l', q ∈ l) : lv_has la n l' := ⟨h.1, h.2.1, fun q hq => h.2.2 q (hs q hq)⟩
theorem xlr.at {ad : xA} {n : Nat} {la : Array Slot} {ls : List xV} (h : xlr ad n la ls) {i : Nat} {w : xV} (hw : xg ls i = w) (hj : xisJ w = false) : la[i]? = some (.val (xenc ad w)) := by
  subst hw
  have hi : i < ls.length := by
    rcases Nat.lt_or_ge i ls.length with q | q
    · exact q
    · have e : xg ls i = xJ := by
        clear hj h
        induction ls generalizing i with
        | nil => rfl
        | cons a r ih =>
          cases i with
          | zero => simp at q
          | succ i => exact ih (by simpa using q)
      rw [e] at hj
      cases hj
  exact h.2.2.2 (i, xenc ad (xg ls i)) ((xlv_mem ls 0).mpr ⟨i, hi, by simp, hj, rfl⟩)
theorem xenc_rn (ad : xA) (k o : Nat) : xenc ad (k, .ref o) = .null ∨ ∃ a, xenc ad (k, .ref o) = .ref a := by
  unfold xenc
  simp only
  split
  · split
    · exact Or.inl rfl
    · exact Or.inr ⟨_, rfl⟩
  · exact Or.inr ⟨_, rfl⟩
theorem xenc_cat {ad : xA} {v : xV} (h : xwide v = false) : ¬ (xenc ad v).category = 2 := by
  obtain ⟨k, w⟩ := v
  cases w with
  | ref o =>
    rcases xenc_rn ad k o with e | ⟨a, e⟩ <;> rw [e] <;> (show ¬ (1 : Nat) = 2) <;> decide
  | long x => simp [xwide] at h
  | double x => simp [xwide] at h
  | _ =>
    show ¬ (1 : Nat) = 2
    decide
theorem xlr.store1 {ad : xA} {n i : Nat} {la : Array Slot} {ls : List xV} {v : xV} (h : xlr ad n la ls) (hi : i < n) {la' : Array Slot} (h' : lv_has la' n ((i, xenc ad v) :: (xlv ad ls 0).filter (fun q => !(q.1 == i) && !(q.1 + 1 == i && q.2.category == 2)))) : xlr ad n la' (xsw1 ls i v) := by
  refine ⟨(xsw1_len _ _ _).trans h.1, lv_less h' fun q hq => ?_⟩
  obtain ⟨j, h1, h2, h3, h4⟩ := (xlv_mem _ 0).mp hq
  rw [xsw1_len] at h1
  rw [xg_xsw1 (by rw [h.1]; exact hi)] at h3 h4
  by_cases hj : j = i
  · subst hj
    rw [if_pos rfl] at h4
    exact List.mem_cons.mpr (Or.inl (Prod.ext (by simpa using h2) h4))
  · rw [if_neg hj] at h3 h4
    by_cases hw : j + 1 = i ∧ xwide (xg ls j) = true
    · rw [if_pos hw] at h3; cases h3
    · rw [if_neg hw] at h3 h4
      refine List.mem_cons.mpr (Or.inr (List.mem_filter.mpr ⟨(xlv_mem ls 0).mpr ⟨j, h1, h2, h3, h4⟩, ?_⟩))
      have e1 : q.1 = j := by omega
      rw [e1, h4]
      by_cases hji : j + 1 = i
      · have := xenc_cat (ad := ad) (v := xg ls j) (by cases hz : xwide (xg ls j) with
          | true => exact absurd ⟨hji, hz⟩ hw
          | false => rfl)
        simp [hj, this]
      · simp [hj, hji]
theorem xlr.store2 {ad : xA} {n i : Nat} {la : Array Slot} {ls : List xV} {v : xV} (h : xlr ad n la ls) (hi : i + 1 < n) {la' : Array Slot} (h' : lv_has la' n ((i, xenc ad v) :: (xlv ad ls 0).filter (fun q => !(q.1 == i) && (!(q.1 == i + 1) && !(q.1 + 1 == i && q.2.category == 2))))) : xlr ad n la' (xs (xsw1 ls i v) (i + 1) xJ) := by
  refine ⟨(xs_len _ _ _).trans ((xsw1_len _ _ _).trans h.1), lv_less h' fun q hq => ?_⟩
  obtain ⟨j, h1, h2, h3, h4⟩ := (xlv_mem _ 0).mp hq
  rw [xs_len, xsw1_len] at h1
  rw [xg_xs, xsw1_len] at h3 h4
  by_cases hj1 : j = i + 1 ∧ i + 1 < ls.length
  · rw [if_pos hj1] at h3; cases h3
  · have hj1' : j ≠ i + 1 := fun e => hj1 ⟨e, by omega⟩
    rw [if_neg hj1, xg_xsw1 (by rw [h.1]; omega)] at h3 h4
    by_cases hj : j = i
    · subst hj
      rw [if_pos rfl] at h4
      exact List.mem_cons.mpr (Or.inl (Prod.ext (by simpa using h2) h4))
    · rw [if_neg hj] at h3 h4
      by_cases hw : j + 1 = i ∧ xwide (xg ls j) = true
      · rw [if_pos hw] at h3; cases h3
      · rw [if_neg hw] at h3 h4
        refine List.mem_cons.mpr (Or.inr (List.mem_filter.mpr ⟨(xlv_mem ls 0).mpr ⟨j, h1, h2, h3, h4⟩, ?_⟩))
        have e1 : q.1 = j := by omega
        rw [e1, h4]
        by_cases hji : j + 1 = i
        · have := xenc_cat (ad := ad) (v := xg ls j) (by cases hz : xwide (xg ls j) with
            | true => exact absurd ⟨hji, hz⟩ hw
            | false => rfl)
          simp [hj, hj1', this]
        · simp [hj, hj1', hji]
theorem xg_kill : ∀ (ks : List Nat) (ls : List xV) (j : Nat), xg (xkill ls ks) j = xg ls j ∨ xg (xkill ls ks) j = xJ
  | [], _, _ => Or.inl rfl
  | k :: r, ls, j => by
    rcases xg_kill r (xs ls k xJ) j with h | h
    · rw [show xkill ls (k :: r) = xkill (xs ls k xJ) r from rfl, h, xg_xs]
      split
      · exact Or.inr rfl
      · exact Or.inl rfl
    · exact Or.inr h
theorem xkill_len : ∀ (ks : List Nat) (ls : List xV), (xkill ls ks).length = ls.length
  | [], _ => rfl
  | k :: r, ls => (xkill_len r _).trans (xs_len _ _ _)
theorem xlr.kill {ad : xA} {n : Nat} {la : Array Slot} {ls : List xV} (h : xlr ad n la ls) (ks : List Nat) : xlr ad n la (xkill ls ks) := by
  refine ⟨(xkill_len _ _).trans h.1, lv_less h.2 fun q hq => ?_⟩
  obtain ⟨j, h1, h2, h3, h4⟩ := (xlv_mem _ 0).mp hq
  rw [xkill_len] at h1
  rcases xg_kill ks ls j with e | e
  · rw [e] at h3 h4
    exact (xlv_mem ls 0).mpr ⟨j, h1, h2, h3, h4⟩
  · rw [e] at h3; cases h3
/-- values are of things that are there -/
def xvok (rg : Option (List (Nat × Nat))) (M : xM) (v : xV) : Prop := match v with
  | (k, .ref o) => k = 51 ∨ (k < 60 ∧ o < xc M k ∧ ∀ L, rg = some L → xstrk k = true → (k, o) ∈ L)
  | _ => True
theorem xvok.mon {rg : Option (List (Nat × Nat))} {M M' : xM} {v : xV} (hm : xmon M M') (h : xvok rg M v) : xvok rg M' v := by
  obtain ⟨k, w⟩ := v
  cases w <;> try trivial
  rcases h with h | ⟨h1, h2, h3⟩
  · exact Or.inl h
  · exact Or.inr ⟨h1, Nat.lt_of_lt_of_le h2 (hm.1 k), h3⟩
theorem xvok_J {rg : Option (List (Nat × Nat))} {M : xM} : xvok rg M xJ := trivial
theorem xlr.ad {ad ad' : xA} {n : Nat} {la : Array Slot} {ls : List xV} (h : xlr ad n la ls) (he : ∀ v ∈ ls, xenc ad' v = xenc ad v) : xlr ad' n la ls := by
  refine ⟨h.1, lv_less h.2 fun q hq => ?_⟩
  obtain ⟨j, h1, h2, h3, h4⟩ := (xlv_mem _ 0).mp hq
  refine (xlv_mem ls 0).mpr ⟨j, h1, h2, h3, ?_⟩
  rw [h4]
  refine he _ ?_
  clear h h2 h3 h4 hq he
  induction ls generalizing j with
  | nil => simp at h1
  | cons a r ih =>
    cases j with
    | zero => exact List.mem_cons_self
    | succ j => exact List.mem_cons_of_mem _ (ih j (by simpa using h1))
theorem xg_mem {ls : List xV} {j : Nat} : xg ls j ∈ ls ∨ xg ls j = xJ := by
  induction ls generalizing j with
  | nil => exact Or.inr rfl
  | cons a r ih =>
    cases j with
    | zero => exact Or.inl List.mem_cons_self
    | succ j => exact (ih (j := j)).imp (List.mem_cons_of_mem _) id
theorem xs_all {P : xV → Prop} : ∀ {ls : List xV} {i : Nat} {v : xV}, (∀ w ∈ ls, P w) → P v → ∀ w ∈ xs ls i v, P w
  | [], _, _, h, _ => h
  | a :: r, 0, v, h, hv => fun w hw => (List.mem_cons.mp hw).elim (fun e => e ▸ hv) (fun z => h w (List.mem_cons_of_mem _ z))
  | a :: r, i + 1, v, h, hv => fun w hw => (List.mem_cons.mp hw).elim (fun e => e ▸ h a List.mem_cons_self) (fun z => xs_all (fun w hw => h w (List.mem_cons_of_mem _ hw)) hv w z)
theorem xsw1_all {P : xV → Prop} {ls : List xV} {i : Nat} {v : xV} (h : ∀ w ∈ ls, P w) (hv : P v) (hJ : P xJ) : ∀ w ∈ xsw1 ls i v, P w := by
  unfold xsw1
  split
  · exact xs_all h hv
  · split
    · exact xs_all (xs_all h hJ) hv
    · exact xs_all h hv
theorem xkill_all {P : xV → Prop} (hJ : P xJ) : ∀ (ks : List Nat) {ls : List xV}, (∀ w ∈ ls, P w) → ∀ w ∈ xkill ls ks, P w
  | [], _, h => h
  | k :: r, _, h => xkill_all hJ r (xs_all h hJ)
/-- the list is closed under references that are read without a look -/
def xclosed (L : List (Nat × Nat)) : Bool := L.all (fun q => match xae q.1 with
  | some (tk, tw) => !xstrk tk || (List.range (xnth xlens q.1)).all (fun i => L.contains (tk, i + tw))
  | none => (xfd q.1).all (fun d => match d with
    | (0, _, _) => true
    | (1, _, _) => true
    | (4, tk, _) => !xstrk tk
    | (t, tk, tw) => !xstrk tk || L.contains (tk, xtg t tw q.2 0)))
theorem xclosed_sl : (xclosed (xsl 0) && xclosed (xsl 1)) && ((xclosed (xsl 2) && xclosed (xsl 3)) && xclosed (xsl 4)) = true := by decide +kernel
def xrok (rg : Option (List (Nat × Nat))) (M : xM) : Prop := ∀ L, rg = some L → xgood L M = true ∧ xclosed L = true
theorem xgdF_spec {M : xM} {k o : Nat} : ∀ {l : List (Nat × Nat × Nat)} {f0 : Nat}, xgdF M k o l f0 = true → ∀ (f t tk tw : Nat), l[f]? = some (t, tk, tw) → 2 ≤ t → xf M k o (f0 + f)
  | [], _, _, f, _, _, _, hf, _ => by simp at hf
  | (t0, w0) :: r, f0, h, f, t, tk, tw, hf, ht => by
    unfold xgdF at h
    rw [Bool.and_eq_true] at h
    cases f with
    | zero =>
      simp at hf
      obtain ⟨rfl, -⟩ := hf
      have h1 := h.1
      split at h1
      · omega
      · omega
      · exact Nat.eq_of_beq_eq_true h1
    | succ f =>
      have := xgdF_spec h.2 f t tk tw (by simpa using hf) ht
      rw [show f0 + (f + 1) = f0 + 1 + f by omega]
      exact this
theorem xgdA_spec {M : xM} {k o : Nat} : ∀ {n : Nat}, xgdA M k o n = true → ∀ j, j < n → xf M k o j
  | 0, _, j, hj => by omega
  | n + 1, h, j, hj => by
    unfold xgdA at h
    rw [Bool.and_eq_true] at h
    rcases Nat.lt_or_ge j n with q | q
    · exact xgdA_spec h.2 j q
    · have : j = n := by omega
      subst this
      exact Nat.eq_of_beq_eq_true h.1
theorem xgood_spec {L : List (Nat × Nat)} {M : xM} (h : xgood L M = true) {k o : Nat} (hq : (k, o) ∈ L) : o < xc M k ∧ (xra k = false → ∀ (f t tk tw : Nat), (xfd k)[f]? = some (t, tk, tw) → 2 ≤ t → xf M k o f) ∧ (xra k = true → ∀ j, j < xnth xlens k → xf M k o j) := by
  have h1 := List.all_eq_true.mp h (k, o) hq
  rw [Bool.and_eq_true] at h1
  refine ⟨Nat.le_of_ble_eq_true h1.1, fun hr f t tk tw hf ht => ?_, fun hr j hj => ?_⟩
  · have h2 := h1.2
    simp only [hr] at h2
    have := xgdF_spec h2 f t tk tw hf ht
    rwa [Nat.zero_add] at this
  · have h2 := h1.2
    simp only [hr] at h2
    exact xgdA_spec h2 j hj
theorem xgdF_mon {M M' : xM} {k o : Nat} (hm : xmon M M') (hk : k < 60) (ho : o < xc M k) : ∀ {l : List (Nat × Nat × Nat)} {f0 : Nat}, xgdF M k o l f0 = true → xgdF M' k o l f0 = true
  | [], _, _ => rfl
  | (t, w) :: r, f0, h => by
    unfold xgdF at h ⊢
    rw [Bool.and_eq_true] at h ⊢
    refine ⟨?_, xgdF_mon hm hk ho h.2⟩
    have h1 := h.1
    split at h1
    · rfl
    · rfl
    · rw [hm.2.1 k o f0 hk ho (Nat.eq_of_beq_eq_true h1)]
      rfl
theorem xgdA_mon {M M' : xM} {k o : Nat} (hm : xmon M M') (hk : k < 60) (ho : o < xc M k) : ∀ {n : Nat}, xgdA M k o n = true → xgdA M' k o n = true
  | 0, _ => rfl
  | n + 1, h => by
    unfold xgdA at h ⊢
    rw [Bool.and_eq_true] at h ⊢
    exact ⟨by rw [hm.2.1 k o n hk ho (Nat.eq_of_beq_eq_true h.1)]; rfl, xgdA_mon hm hk ho h.2⟩
theorem xgood_mon {L : List (Nat × Nat)} {M M' : xM} (hm : xmon M M') (hL : L.all (fun q => Nat.blt q.1 60) = true) (h : xgood L M = true) : xgood L M' = true := by
  refine List.all_eq_true.mpr fun q hq => ?_
  have h1 := List.all_eq_true.mp h q hq
  have hk : q.1 < 60 := Nat.le_of_ble_eq_true (List.all_eq_true.mp hL q hq)
  rw [Bool.and_eq_true] at h1 ⊢
  have ho : q.2 < xc M q.1 := Nat.le_of_ble_eq_true h1.1
  refine ⟨Nat.ble_eq_true_of_le (Nat.lt_of_lt_of_le ho (hm.1 q.1)), ?_⟩
  have h2 := h1.2
  cases hr : xra q.1 with
  | true => simp only [hr] at h2 ⊢; exact xgdA_mon hm hk ho h2
  | false => simp only [hr] at h2 ⊢; exact xgdF_mon hm hk ho h2
