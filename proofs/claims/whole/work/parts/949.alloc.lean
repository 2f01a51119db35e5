/-! the beginning: what is made, what stands in it -/
def onCs (k o _ : Nat) : Bool := Nat.blt k 41 || Nat.beq k 100 || (Nat.beq k 101 && Nat.blt o 41) || (Nat.ble 200 k && Nat.blt k 241)
theorem onCs_t {k o s : Nat} (h : k < 41 ∨ k = 100 ∨ (k = 101 ∧ o < 41) ∨ (200 ≤ k ∧ k < 241)) : onCs k o s = true := by
  unfold onCs
  simp only [Bool.or_eq_true, Bool.and_eq_true, Nat.beq_eq, Nat.ble_eq, Nat.blt_eq]
  omega
theorem onCs_n {k o s : Nat} (h : onCs k o s = false) : ¬ (k < 41 ∨ k = 100 ∨ (k = 101 ∧ o < 41) ∨ (200 ≤ k ∧ k < 241)) := fun q => by
  rw [onCs_t q] at h; exact nomatch h
def upc (c : Nat → Nat) (k : Nat) : Nat → Nat := fun j => if j = k then c k + 1 else c j
def AZ (M0 M : xM) (c : Nat → Nat) (F Z Y : Nat → Nat → Nat → Bool) (r1 r2 : Nat) : Prop := fz onCs M0 M ∧ (∀ k, k < 41 → gn M 101 k 0 = c k) ∧ (∀ k o f, F k o f = true → k < 41 ∧ gn M (200 + k) o f = 1 ∧ o < c k) ∧ (∀ k o s, Z k o s = true → gi M k o s = 0) ∧ (∀ k o s, Y k o s = true → gi M k o s = zi (-1) ∧ k < 41 ∧ o < c k) ∧ gn M 100 0 0 ≤ gn M0 100 0 0 + r1 ∧ gn M 100 0 1 ≤ gn M0 100 0 1 + r2
theorem AZ_c {M0 M : xM} {c : Nat → Nat} {F Z Y : Nat → Nat → Nat → Bool} {r1 r2 : Nat} (h : AZ M0 M c F Z Y r1 r2) {k : Nat} (hk : k < 41) : gn M 101 k 0 = c k := h.2.1 k hk
theorem AZ_f {M0 M : xM} {c : Nat → Nat} {F Z Y : Nat → Nat → Nat → Bool} {r1 r2 : Nat} (h : AZ M0 M c F Z Y r1 r2) {k o f : Nat} (hk : F k o f = true) : gn M (200 + k) o f = 1 := (h.2.2.1 k o f hk).2.1
theorem AZ_weak {M0 M : xM} {c c' : Nat → Nat} {F Z Y F' Z' Y' : Nat → Nat → Nat → Bool} {r1 r2 s1 s2 : Nat} (h : AZ M0 M c F Z Y r1 r2) (hc : ∀ k, k < 41 → c' k = c k) (hF : ∀ k o f, F' k o f = true → F k o f = true) (hZ : ∀ k o f, Z' k o f = true → Z k o f = true) (hY : ∀ k o f, Y' k o f = true → Y k o f = true) (h1 : r1 ≤ s1) (h2 : r2 ≤ s2) : AZ M0 M c' F' Z' Y' s1 s2 := ⟨h.1, fun k hk => (h.2.1 k hk).trans (hc k hk).symm, fun k o f q => by
  obtain ⟨a, b, d⟩ := h.2.2.1 k o f (hF k o f q)
  exact ⟨a, b, by rw [hc k a]; exact d⟩, fun k o s q => h.2.2.2.1 k o s (hZ k o s q), fun k o s q => by
  obtain ⟨a, b, d⟩ := h.2.2.2.2.1 k o s (hY k o s q)
  exact ⟨a, b, by rw [hc k b]; exact d⟩, by have := h.2.2.2.2.2.1; omega, by have := h.2.2.2.2.2.2; omega⟩
theorem xnew_gi0 {M : xM} {k n k' o' s' : Nat} (h : gi M k' o' s' = 0) : gi (xnew M k n) k' o' s' = 0 := by
  unfold xnew xbump
  rw [gi_st, gi_st, gi_st]
  have c : gi (xclr M k (gn M 101 k 0)) k' o' s' = 0 := by
    unfold gi xclr
    by_cases q : (k' = k ∨ k' = 200 + k) ∧ o' = gn M 101 k 0
    · rw [if_pos q]
    · rw [if_neg q]; exact h
  rw [c]
  split
  · rfl
  · split
    · rfl
    · split <;> rfl
theorem gi_ref0 {M : xM} {k o s v k' o' s' : Nat} (h : gi M k' o' s' = 0) : gi (xst M k o s (.ref v)) k' o' s' = 0 := by
  rw [gi_st]
  split
  · rfl
  · exact h
theorem AZ_new {M0 M : xM} {c : Nat → Nat} {F Z Y : Nat → Nat → Nat → Bool} {r1 r2 : Nat} (h : AZ M0 M c F Z Y r1 r2) (k n : Nat) (hk : k < 41) : AZ M0 (xnew M k n) (upc c k) F Z Y (r1 + 1) (r2 + n) := by
  obtain ⟨a1, a2, a3, a4, a5, a6, a7⟩ := h
  have ck := a2 k hk
  have rm := xnew_RM (M := M) (k := k) (n := n) (by omega) (by omega)
  have up : ∀ j o, o < c j → o < upc c k j := fun j o q => by
    unfold upc
    by_cases e : j = k
    · subst e; rw [if_pos rfl]; omega
    · rw [if_neg e]; exact q
  refine ⟨fun k' o s q => ?_, fun j hj => ?_, fun j o f q => ?_, fun j o s q => xnew_gi0 (a4 j o s q), fun j o s q => ?_, by omega, by omega⟩
  · have := onCs_n q
    rw [xnew_v (by omega) (by omega) (by omega)]
    exact a1 k' o s q
  · unfold upc
    by_cases e : j = k
    · subst e; rw [if_pos rfl, xnew_101, ck]
    · rw [if_neg e]
      have : (xnew M k n) 101 j 0 = M 101 j 0 := xnew_v (by decide) (by omega) (by omega)
      have e2 : gn (xnew M k n) 101 j 0 = gn M 101 j 0 := by unfold gn; rw [this]
      rw [e2]; exact a2 j hj
  · obtain ⟨b1, b2, b3⟩ := a3 j o f q
    refine ⟨b1, ?_, up j o b3⟩
    have : (xnew M k n) (200 + j) o f = M (200 + j) o f := xnew_v (by omega) (by omega) (fun r => by
      obtain ⟨r1, r2⟩ := r
      have : j = k := by omega
      subst this
      omega)
    have e2 : gn (xnew M k n) (200 + j) o f = gn M (200 + j) o f := by unfold gn; rw [this]
    rw [e2]; exact b2
  · obtain ⟨b1, b2, b3⟩ := a5 j o s q
    refine ⟨?_, b2, up j o b3⟩
    have : (xnew M k n) j o s = M j o s := xnew_v (by omega) (by omega) (fun r => by
      obtain ⟨r1, r2⟩ := r
      have : j = k := by omega
      subst this
      omega)
    have e2 : gi (xnew M k n) j o s = gi M j o s := by unfold gi; rw [this]
    rw [e2]; exact b1
def is3 (k o f k' o' f' : Nat) : Bool := Nat.beq k' k && (Nat.beq o' o && Nat.beq f' f)
theorem is3_i {k o f k' o' f' : Nat} (h : is3 k o f k' o' f' = true) : k' = k ∧ o' = o ∧ f' = f := by
  unfold is3 at h
  simp only [Bool.and_eq_true, Nat.beq_eq] at h
  exact h
theorem is3_t (k o f : Nat) : is3 k o f k o f = true := by
  unfold is3
  rw [Nat.beq_refl, Nat.beq_refl, Nat.beq_refl]; rfl
theorem AZ_flag {M0 M : xM} {c : Nat → Nat} {F Z Y : Nat → Nat → Nat → Bool} {r1 r2 : Nat} (h : AZ M0 M c F Z Y r1 r2) (k K o f : Nat) (hk : k < 41) (hK : K = 200 + k) (ho : o < c k) : AZ M0 (xst M K o f (.ref 1)) c (fun k' o' f' => F k' o' f' || is3 k o f k' o' f') Z Y r1 r2 := by
  subst hK
  obtain ⟨a1, a2, a3, a4, a5, a6, a7⟩ := h
  refine ⟨fun k' o' s q => ?_, fun j hj => ?_, fun j o' f' q => ?_, fun j o s q => gi_ref0 (a4 j o s q), fun j o' s q => ?_, ?_, ?_⟩
  · have := onCs_n q
    exact (if_neg (fun r => by omega)).trans (a1 k' o' s q)
  · rw [gn_k (by omega)]; exact a2 j hj
  · rw [Bool.or_eq_true] at q
    rcases q with q | q
    · obtain ⟨b1, b2, b3⟩ := a3 j o' f' q
      refine ⟨b1, ?_, b3⟩
      rw [gn_xst]
      by_cases e : 200 + j = 200 + k ∧ o' = o ∧ f' = f
      · rw [if_pos e]
      · rw [if_neg e]; exact b2
    · obtain ⟨rfl, rfl, rfl⟩ := is3_i q
      exact ⟨hk, gn_h _ _ _ _ _, ho⟩
  · obtain ⟨b1, b2, b3⟩ := a5 j o' s q
    exact ⟨(gi_k (by omega)).trans b1, b2, b3⟩
  · rw [gn_k (by omega)]; exact a6
  · rw [gn_k (by omega)]; exact a7
theorem AZ_ref {M0 M : xM} {c : Nat → Nat} {F Z Y : Nat → Nat → Nat → Bool} {r1 r2 : Nat} (h : AZ M0 M c F Z Y r1 r2) (k o s v : Nat) (hk : k < 41) (hY : Y k o s = false) : AZ M0 (xst M k o s (.ref v)) c F Z Y r1 r2 := by
  obtain ⟨a1, a2, a3, a4, a5, a6, a7⟩ := h
  refine ⟨fun k' o' s q => ?_, fun j hj => ?_, fun j o' f' q => ?_, fun j o s q => gi_ref0 (a4 j o s q), fun j o' s' q => ?_, ?_, ?_⟩
  · have := onCs_n q
    exact (if_neg (fun r => by omega)).trans (a1 k' o' s q)
  · rw [gn_k (by omega)]; exact a2 j hj
  · obtain ⟨b1, b2, b3⟩ := a3 j o' f' q
    exact ⟨b1, (gn_k (by omega)).trans b2, b3⟩
  · obtain ⟨b1, b2, b3⟩ := a5 j o' s' q
    refine ⟨?_, b2, b3⟩
    rw [gi_st, if_neg (fun r => by
      obtain ⟨rfl, rfl, rfl⟩ := r
      rw [q] at hY; exact nomatch hY)]
    exact b1
  · rw [gn_k (by omega)]; exact a6
  · rw [gn_k (by omega)]; exact a7
/-- places of kinds below 41 may change -/
theorem AZ_fz {M0 M M' : xM} {c : Nat → Nat} {F Z Y K : Nat → Nat → Nat → Bool} {r1 r2 : Nat} (h : AZ M0 M c F Z Y r1 r2) (f : fz K M M') (hK : ∀ k o s, 41 ≤ k → K k o s = false) : AZ M0 M' c F (fun k o s => Z k o s && !K k o s) (fun k o s => Y k o s && !K k o s) r1 r2 := by
  obtain ⟨a1, a2, a3, a4, a5, a6, a7⟩ := h
  refine ⟨fun k' o' s q => ?_, fun j hj => ?_, fun j o' f' q => ?_, fun j o s q => ?_, fun j o' s' q => ?_, ?_, ?_⟩
  · have := onCs_n q
    exact (f k' o' s (hK _ _ _ (by omega))).trans (a1 k' o' s q)
  · rw [fz_gn f (hK _ _ _ (by decide))]; exact a2 j hj
  · obtain ⟨b1, b2, b3⟩ := a3 j o' f' q
    exact ⟨b1, (fz_gn f (hK _ _ _ (by omega))).trans b2, b3⟩
  · rw [Bool.and_eq_true, Bool.not_eq_true'] at q
    exact (fz_gi f q.2).trans (a4 j o s q.1)
  · rw [Bool.and_eq_true, Bool.not_eq_true'] at q
    obtain ⟨b1, b2, b3⟩ := a5 j o' s' q.1
    exact ⟨(fz_gi f q.2).trans b1, b2, b3⟩
  · rw [fz_gn f (hK _ _ _ (by decide))]; exact a6
  · rw [fz_gn f (hK _ _ _ (by decide))]; exact a7
/-- a plan -/
def fP (p k o f : Nat) : Bool := Nat.beq k 2 && (Nat.beq o p && (Nat.ble 3 f && Nat.ble f 9))
def cP1 (c : Nat → Nat) (p : Nat) : Nat → Nat := fun j => if 3 ≤ j ∧ j ≤ 9 then p + 1 else c j
theorem s_Pinit {M0 M : xM} {c : Nat → Nat} {F Z Y : Nat → Nat → Nat → Bool} {r1 r2 p : Nat} (h : AZ M0 M c F Z Y r1 r2) (hc : ∀ j, 3 ≤ j → j ≤ 9 → c j = p) (h2 : p < c 2) : ∃ M', m_P_init p M = rV M' ∧ AZ M0 M' (cP1 c p) (fun k o f => F k o f || fP p k o f) Z Y (r1 + 7) (r2 + 90) := by
  have b1 := AZ_new h 3 3 (by decide)
  have a1 := AZ_flag b1 2 202 p 3 (by decide) rfl h2
  have b2 := AZ_new a1 4 3 (by decide)
  have a2 := AZ_flag b2 2 202 p 4 (by decide) rfl h2
  have b3 := AZ_new a2 5 12 (by decide)
  have a3 := AZ_flag b3 2 202 p 5 (by decide) rfl h2
  have b4 := AZ_new a3 6 12 (by decide)
  have a4 := AZ_flag b4 2 202 p 6 (by decide) rfl h2
  have b5 := AZ_new a4 7 12 (by decide)
  have a5 := AZ_flag b5 2 202 p 7 (by decide) rfl h2
  have b6 := AZ_new a5 8 12 (by decide)
  have a6 := AZ_flag b6 2 202 p 8 (by decide) rfl h2
  have b7 := AZ_new a6 9 36 (by decide)
  have a7 := AZ_flag b7 2 202 p 9 (by decide) rfl h2
  refine ⟨_, ?_, AZ_weak a7 (fun j hj => ?_) (fun k o f q => ?_) (fun _ _ _ q => q) (fun _ _ _ q => q) (by omega) (by omega)⟩
  · rw [e_m_P_init, if_pos (by decide), if_pos ((AZ_c h (k := 3) (by decide)).trans (hc 3 (by decide) (by decide))), if_pos (by decide), if_pos ((AZ_c b1 (k := 4) (by decide)).trans (hc 4 (by decide) (by decide))), if_pos (by decide), if_pos ((AZ_c b2 (k := 5) (by decide)).trans (hc 5 (by decide) (by decide))), if_pos (by decide), if_pos ((AZ_c b3 (k := 6) (by decide)).trans (hc 6 (by decide) (by decide))), if_pos (by decide), if_pos ((AZ_c b4 (k := 7) (by decide)).trans (hc 7 (by decide) (by decide))), if_pos (by decide), if_pos ((AZ_c b5 (k := 8) (by decide)).trans (hc 8 (by decide) (by decide))), if_pos (by decide), if_pos ((AZ_c b6 (k := 9) (by decide)).trans (hc 9 (by decide) (by decide)))]
  · unfold cP1 upc
    by_cases e : 3 ≤ j ∧ j ≤ 9
    · rw [if_pos e]
      have h3 := hc 3 (by decide) (by decide)
      have h4 := hc 4 (by decide) (by decide)
      have h5 := hc 5 (by decide) (by decide)
      have h6 := hc 6 (by decide) (by decide)
      have h7 := hc 7 (by decide) (by decide)
      have h8 := hc 8 (by decide) (by decide)
      have h9 := hc 9 (by decide) (by decide)
      have : j = 3 ∨ j = 4 ∨ j = 5 ∨ j = 6 ∨ j = 7 ∨ j = 8 ∨ j = 9 := by omega
      rcases this with rfl | rfl | rfl | rfl | rfl | rfl | rfl
      · show p + 1 = c 3 + 1; omega
      · show p + 1 = c 4 + 1; omega
      · show p + 1 = c 5 + 1; omega
      · show p + 1 = c 6 + 1; omega
      · show p + 1 = c 7 + 1; omega
      · show p + 1 = c 8 + 1; omega
      · show p + 1 = c 9 + 1; omega
    · rw [if_neg e, if_neg (by omega), if_neg (by omega), if_neg (by omega), if_neg (by omega), if_neg (by omega), if_neg (by omega), if_neg (by omega)]
  · cases hF : F k o f with
    | true => simp [hF]
    | false =>
      unfold fP at q
      unfold is3
      simp only [hF, Bool.false_or, Bool.or_eq_true, Bool.and_eq_true, Nat.beq_eq, Nat.ble_eq] at q ⊢
      omega
