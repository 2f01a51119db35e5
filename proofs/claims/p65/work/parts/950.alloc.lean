/-! the beginning: what is made, what stands in it; the class up to its texts -/
theorem kC {o p k o' s : Nat} (h : onC o p k o' s = true) : (k = 21 ∧ o' = o) ∨ (2 ≤ k ∧ k ≤ 9 ∧ o' = p) := by
  unfold onC on21 onPz at h
  rcases Bool.or_eq_true_iff.mp h with h | h
  · obtain ⟨h1, h2⟩ := Bool.and_eq_true_iff.mp h
    exact Or.inl ⟨Nat.eq_of_beq_eq_true h1, Nat.eq_of_beq_eq_true h2⟩
  · obtain ⟨h1, h2⟩ := Bool.and_eq_true_iff.mp h
    obtain ⟨h3, h4⟩ := Bool.and_eq_true_iff.mp h1
    exact Or.inr ⟨Nat.le_of_ble_eq_true h3, Nat.le_of_ble_eq_true h4, Nat.eq_of_beq_eq_true h2⟩
def onCs (k o _ : Nat) : Bool := Nat.blt k 41 || Nat.beq k 100 || (Nat.beq k 101 && Nat.blt o 41) || (Nat.ble 200 k && Nat.blt k 241)
theorem onCs_t {k o s : Nat} (h : k < 41 ∨ k = 100 ∨ (k = 101 ∧ o < 41) ∨ (200 ≤ k ∧ k < 241)) : onCs k o s = true := by
  unfold onCs
  simp only [Bool.or_eq_true, Bool.and_eq_true, Nat.beq_eq, Nat.ble_eq, Nat.blt_eq]
  omega
theorem onCs_n {k o s : Nat} (h : onCs k o s = false) : ¬ (k < 41 ∨ k = 100 ∨ (k = 101 ∧ o < 41) ∨ (200 ≤ k ∧ k < 241)) := fun q => by
  rw [onCs_t q] at h; exact nomatch h
def upc (c : Nat → Nat) (k : Nat) : Nat → Nat := fun j => if j = k then c k + 1 else c j
def AZ (M0 M : xM) (c : Nat → Nat) (F Z Y : Nat → Nat → Nat → Bool) (r1 r2 : Nat) : Prop := fz onCs M0 M ∧ (∀ k, k < 41 → gn M 101 k 0 = c k) ∧ (∀ k o f, F k o f = true → k < 41 ∧ gn M (200 + k) o f = 1 ∧ o < c k) ∧ (∀ k o s, Z k o s = true → gi M k o s = 0) ∧ (∀ k o s, Y k o s = true → gi M k o s = zi (-1) ∧ k < 41 ∧ o < c k) ∧ gn M 100 0 0 ≤ gn M0 100 0 0 + r1 ∧ gn M 100 0 1 ≤ gn M0 100 0 1 + r2
theorem AZ_c {M0 M : xM} {c : Nat → Nat} {F Z Y : Nat → Nat → Nat → Bool} {r1 r2 : Nat} (h : AZ M0 M c F Z Y r1 r2) {k : Nat} (hk : k < 41) : gn M 101 k 0 = c k := h.2.1 k hk
theorem AZ_f {M0 M : xM} {c : Nat → Nat} {F Z Y : Nat → Nat → Nat → Bool} {r1 r2 : Nat} (h : AZ M0 M c F Z Y r1 r2) {k o f : Nat} (hk : F k o f = true) : gn M (200 + k) o f = 1 := (h.2.2.1 k o f hk).2.1
theorem AZ_weak {M0 M : xM} {c c' : Nat → Nat} {F Z Y F' Z' Y' : Nat → Nat → Nat → Bool} {r1 r2 s1 s2 : Nat} (h : AZ M0 M c F Z Y r1 r2) (hc : ∀ k, k < 41 → c' k = c k) (hF : ∀ k o f, F' k o f = true → F k o f = true) (hZ : ∀ k o f, Z' k o f = true → Z k o f = true) (hY : ∀ k o f, Y' k o f = true → Y k o f = true) (h1 : r1 ≤ s1) (h2 : r2 ≤ s2) : AZ M0 M c' F' Z' Y' s1 s2 := ⟨h.1, fun k hk => (h.2.1 k hk).trans (hc k hk).symm, fun k o f q => by
  obtain ⟨a, b, d⟩ := h.2.2.1 k o f (hF k o f q)
  exact ⟨a, b, by rw [hc k a]; exact d⟩, fun k o s q => h.2.2.2.1 k o s (hZ k o s q), fun k o s q => by
  obtain ⟨a, b, d⟩ := h.2.2.2.2.1 k o s (hY k o s q)
  exact ⟨a, b, by rw [hc k b]; exact d⟩, by have := h.2.2.2.2.2.1; omega, by have := h.2.2.2.2.2.2; omega⟩
theorem xnew_gi0 {M : xM} {k n k' o' s' : Nat} (h : gi M k' o' s' = 0) : gi (xnew M k n) k' o' s' = 0 := by
  unfold xnew xbump
  rw [gi_st, gi_st, gi_st]
  have c : gi (xclr M k (gn M 101 k 0)) k' o' s' = 0 := by
    unfold gi xclr
    by_cases q : (k' = k ∨ k' = 200 + k) ∧ o' = gn M 101 k 0
    · rw [if_pos q]
    · rw [if_neg q]; exact h
  rw [c]
  split
  · rfl
  · split
    · rfl
    · split <;> rfl
theorem gi_ref0 {M : xM} {k o s v k' o' s' : Nat} (h : gi M k' o' s' = 0) : gi (xst M k o s (.ref v)) k' o' s' = 0 := by
  rw [gi_st]
  split
  · rfl
  · exact h
theorem AZ_new {M0 M : xM} {c : Nat → Nat} {F Z Y : Nat → Nat → Nat → Bool} {r1 r2 : Nat} (h : AZ M0 M c F Z Y r1 r2) (k n : Nat) (hk : k < 41) : AZ M0 (xnew M k n) (upc c k) F Z Y (r1 + 1) (r2 + n) := by
  obtain ⟨a1, a2, a3, a4, a5, a6, a7⟩ := h
  have ck := a2 k hk
  have rm := xnew_RM (M := M) (k := k) (n := n) (by omega) (by omega)
  have up : ∀ j o, o < c j → o < upc c k j := fun j o q => by
    unfold upc
    by_cases e : j = k
    · subst e; rw [if_pos rfl]; omega
    · rw [if_neg e]; exact q
  refine ⟨fun k' o s q => ?_, fun j hj => ?_, fun j o f q => ?_, fun j o s q => xnew_gi0 (a4 j o s q), fun j o s q => ?_, by omega, by omega⟩
  · have := onCs_n q
    rw [xnew_v (by omega) (by omega) (by omega)]
    exact a1 k' o s q
  · unfold upc
    by_cases e : j = k
    · subst e; rw [if_pos rfl, xnew_101, ck]
    · rw [if_neg e]
      have : (xnew M k n) 101 j 0 = M 101 j 0 := xnew_v (by decide) (by omega) (by omega)
      have e2 : gn (xnew M k n) 101 j 0 = gn M 101 j 0 := by unfold gn; rw [this]
      rw [e2]; exact a2 j hj
  · obtain ⟨b1, b2, b3⟩ := a3 j o f q
    refine ⟨b1, ?_, up j o b3⟩
    have : (xnew M k n) (200 + j) o f = M (200 + j) o f := xnew_v (by omega) (by omega) (fun r => by
      obtain ⟨r1, r2⟩ := r
      have : j = k := by omega
      subst this
      omega)
    have e2 : gn (xnew M k n) (200 + j) o f = gn M (200 + j) o f := by unfold gn; rw [this]
    rw [e2]; exact b2
  · obtain ⟨b1, b2, b3⟩ := a5 j o s q
    refine ⟨?_, b2, up j o b3⟩
    have : (xnew M k n) j o s = M j o s := xnew_v (by omega) (by omega) (fun r => by
      obtain ⟨r1, r2⟩ := r
      have : j = k := by omega
      subst this
      omega)
    have e2 : gi (xnew M k n) j o s = gi M j o s := by unfold gi; rw [this]
    rw [e2]; exact b1
def is3 (k o f k' o' f' : Nat) : Bool := Nat.beq k' k && (Nat.beq o' o && Nat.beq f' f)
theorem is3_i {k o f k' o' f' : Nat} (h : is3 k o f k' o' f' = true) : k' = k ∧ o' = o ∧ f' = f := by
  unfold is3 at h
  simp only [Bool.and_eq_true, Nat.beq_eq] at h
  exact h
theorem is3_t (k o f : Nat) : is3 k o f k o f = true := by
  unfold is3
  rw [Nat.beq_refl, Nat.beq_refl, Nat.beq_refl]; rfl
theorem AZ_flag {M0 M : xM} {c : Nat → Nat} {F Z Y : Nat → Nat → Nat → Bool} {r1 r2 : Nat} (h : AZ M0 M c F Z Y r1 r2) (k K o f : Nat) (hk : k < 41) (hK : K = 200 + k) (ho : o < c k) : AZ M0 (xst M K o f (.ref 1)) c (fun k' o' f' => F k' o' f' || is3 k o f k' o' f') Z Y r1 r2 := by
  subst hK
  obtain ⟨a1, a2, a3, a4, a5, a6, a7⟩ := h
  refine ⟨fun k' o' s q => ?_, fun j hj => ?_, fun j o' f' q => ?_, fun j o s q => gi_ref0 (a4 j o s q), fun j o' s q => ?_, ?_, ?_⟩
  · have := onCs_n q
    exact (if_neg (fun r => by omega)).trans (a1 k' o' s q)
  · rw [gn_k (by omega)]; exact a2 j hj
  · rw [Bool.or_eq_true] at q
    rcases q with q | q
    · obtain ⟨b1, b2, b3⟩ := a3 j o' f' q
      refine ⟨b1, ?_, b3⟩
      rw [gn_xst]
      by_cases e : 200 + j = 200 + k ∧ o' = o ∧ f' = f
      · rw [if_pos e]
      · rw [if_neg e]; exact b2
    · obtain ⟨rfl, rfl, rfl⟩ := is3_i q
      exact ⟨hk, gn_h _ _ _ _ _, ho⟩
  · obtain ⟨b1, b2, b3⟩ := a5 j o' s q
    exact ⟨(gi_k (by omega)).trans b1, b2, b3⟩
  · rw [gn_k (by omega)]; exact a6
  · rw [gn_k (by omega)]; exact a7
theorem AZ_ref {M0 M : xM} {c : Nat → Nat} {F Z Y : Nat → Nat → Nat → Bool} {r1 r2 : Nat} (h : AZ M0 M c F Z Y r1 r2) (k o s v : Nat) (hk : k < 41) (hY : Y k o s = false) : AZ M0 (xst M k o s (.ref v)) c F Z Y r1 r2 := by
  obtain ⟨a1, a2, a3, a4, a5, a6, a7⟩ := h
  refine ⟨fun k' o' s q => ?_, fun j hj => ?_, fun j o' f' q => ?_, fun j o s q => gi_ref0 (a4 j o s q), fun j o' s' q => ?_, ?_, ?_⟩
  · have := onCs_n q
    exact (if_neg (fun r => by omega)).trans (a1 k' o' s q)
  · rw [gn_k (by omega)]; exact a2 j hj
  · obtain ⟨b1, b2, b3⟩ := a3 j o' f' q
    exact ⟨b1, (gn_k (by omega)).trans b2, b3⟩
  · obtain ⟨b1, b2, b3⟩ := a5 j o' s' q
    refine ⟨?_, b2, b3⟩
    rw [gi_st, if_neg (fun r => by
      obtain ⟨rfl, rfl, rfl⟩ := r
      rw [q] at hY; exact nomatch hY)]
    exact b1
  · rw [gn_k (by omega)]; exact a6
  · rw [gn_k (by omega)]; exact a7
/-- places of kinds below 41 may change -/
theorem AZ_fz {M0 M M' : xM} {c : Nat → Nat} {F Z Y K : Nat → Nat → Nat → Bool} {r1 r2 : Nat} (h : AZ M0 M c F Z Y r1 r2) (f : fz K M M') (hK : ∀ k o s, 41 ≤ k → K k o s = false) : AZ M0 M' c F (fun k o s => Z k o s && !K k o s) (fun k o s => Y k o s && !K k o s) r1 r2 := by
  obtain ⟨a1, a2, a3, a4, a5, a6, a7⟩ := h
  refine ⟨fun k' o' s q => ?_, fun j hj => ?_, fun j o' f' q => ?_, fun j o s q => ?_, fun j o' s' q => ?_, ?_, ?_⟩
  · have := onCs_n q
    exact (f k' o' s (hK _ _ _ (by omega))).trans (a1 k' o' s q)
  · rw [fz_gn f (hK _ _ _ (by decide))]; exact a2 j hj
  · obtain ⟨b1, b2, b3⟩ := a3 j o' f' q
    exact ⟨b1, (fz_gn f (hK _ _ _ (by omega))).trans b2, b3⟩
  · rw [Bool.and_eq_true, Bool.not_eq_true'] at q
    exact (fz_gi f q.2).trans (a4 j o s q.1)
  · rw [Bool.and_eq_true, Bool.not_eq_true'] at q
    obtain ⟨b1, b2, b3⟩ := a5 j o' s' q.1
    exact ⟨(fz_gi f q.2).trans b1, b2, b3⟩
  · rw [fz_gn f (hK _ _ _ (by decide))]; exact a6
  · rw [fz_gn f (hK _ _ _ (by decide))]; exact a7
/-- a plan -/
def fP (p k o f : Nat) : Bool := Nat.beq k 2 && (Nat.beq o p && (Nat.ble 3 f && Nat.ble f 9))
def cP1 (c : Nat → Nat) (p : Nat) : Nat → Nat := fun j => if 3 ≤ j ∧ j ≤ 9 then p + 1 else c j
theorem s_Pinit {M0 M : xM} {c : Nat → Nat} {F Z Y : Nat → Nat → Nat → Bool} {r1 r2 p : Nat} (h : AZ M0 M c F Z Y r1 r2) (hc : ∀ j, 3 ≤ j → j ≤ 9 → c j = p) (h2 : p < c 2) : ∃ M', m_P_init p M = rV M' ∧ AZ M0 M' (cP1 c p) (fun k o f => F k o f || fP p k o f) Z Y (r1 + 7) (r2 + 90) := by
  have b1 := AZ_new h 3 3 (by decide)
  have a1 := AZ_flag b1 2 202 p 3 (by decide) rfl h2
  have b2 := AZ_new a1 4 3 (by decide)
  have a2 := AZ_flag b2 2 202 p 4 (by decide) rfl h2
  have b3 := AZ_new a2 5 12 (by decide)
  have a3 := AZ_flag b3 2 202 p 5 (by decide) rfl h2
  have b4 := AZ_new a3 6 12 (by decide)
  have a4 := AZ_flag b4 2 202 p 6 (by decide) rfl h2
  have b5 := AZ_new a4 7 12 (by decide)
  have a5 := AZ_flag b5 2 202 p 7 (by decide) rfl h2
  have b6 := AZ_new a5 8 12 (by decide)
  have a6 := AZ_flag b6 2 202 p 8 (by decide) rfl h2
  have b7 := AZ_new a6 9 36 (by decide)
  have a7 := AZ_flag b7 2 202 p 9 (by decide) rfl h2
  refine ⟨_, ?_, AZ_weak a7 (fun j hj => ?_) (fun k o f q => ?_) (fun _ _ _ q => q) (fun _ _ _ q => q) (by omega) (by omega)⟩
  · rw [e_m_P_init, if_pos (by decide), if_pos ((AZ_c h (k := 3) (by decide)).trans (hc 3 (by decide) (by decide))), if_pos (by decide), if_pos ((AZ_c b1 (k := 4) (by decide)).trans (hc 4 (by decide) (by decide))), if_pos (by decide), if_pos ((AZ_c b2 (k := 5) (by decide)).trans (hc 5 (by decide) (by decide))), if_pos (by decide), if_pos ((AZ_c b3 (k := 6) (by decide)).trans (hc 6 (by decide) (by decide))), if_pos (by decide), if_pos ((AZ_c b4 (k := 7) (by decide)).trans (hc 7 (by decide) (by decide))), if_pos (by decide), if_pos ((AZ_c b5 (k := 8) (by decide)).trans (hc 8 (by decide) (by decide))), if_pos (by decide), if_pos ((AZ_c b6 (k := 9) (by decide)).trans (hc 9 (by decide) (by decide)))]
  · unfold cP1 upc
    by_cases e : 3 ≤ j ∧ j ≤ 9
    · rw [if_pos e]
      have h3 := hc 3 (by decide) (by decide)
      have h4 := hc 4 (by decide) (by decide)
      have h5 := hc 5 (by decide) (by decide)
      have h6 := hc 6 (by decide) (by decide)
      have h7 := hc 7 (by decide) (by decide)
      have h8 := hc 8 (by decide) (by decide)
      have h9 := hc 9 (by decide) (by decide)
      have : j = 3 ∨ j = 4 ∨ j = 5 ∨ j = 6 ∨ j = 7 ∨ j = 8 ∨ j = 9 := by omega
      rcases this with rfl | rfl | rfl | rfl | rfl | rfl | rfl
      · show p + 1 = c 3 + 1; omega
      · show p + 1 = c 4 + 1; omega
      · show p + 1 = c 5 + 1; omega
      · show p + 1 = c 6 + 1; omega
      · show p + 1 = c 7 + 1; omega
      · show p + 1 = c 8 + 1; omega
      · show p + 1 = c 9 + 1; omega
    · rw [if_neg e, if_neg (by omega), if_neg (by omega), if_neg (by omega), if_neg (by omega), if_neg (by omega), if_neg (by omega), if_neg (by omega)]
  · cases hF : F k o f with
    | true => simp [hF]
    | false =>
      unfold fP at q
      unfold is3
      simp only [hF, Bool.false_or, Bool.or_eq_true, Bool.and_eq_true, Nat.beq_eq, Nat.ble_eq] at q ⊢
      omega
def cP2 (c : Nat → Nat) (p : Nat) : Nat → Nat := fun j => if 2 ≤ j ∧ j ≤ 9 then p + 1 else c j
theorem s_newP {M0 M : xM} {c : Nat → Nat} {F Z Y : Nat → Nat → Nat → Bool} {r1 r2 p : Nat} (h : AZ M0 M c F Z Y r1 r2) (hc : ∀ j, 2 ≤ j → j ≤ 9 → c j = p) : ∃ M', m_P_init (gn M 101 2 0) (xnew M 2 10) = rV M' ∧ gn M 101 2 0 = p ∧ AZ M0 M' (cP2 c p) (fun k o f => F k o f || fP p k o f) Z Y (r1 + 8) (r2 + 100) := by
  have g2 : gn M 101 2 0 = p := (AZ_c h (by decide)).trans (hc 2 (by decide) (by decide))
  have a := AZ_new h 2 10 (by decide)
  obtain ⟨M', e, A⟩ := s_Pinit (p := p) a (fun j h1 h2 => by
    unfold upc
    rw [if_neg (by omega)]; exact hc j (by omega) h2) (by unfold upc; rw [if_pos rfl, hc 2 (by decide) (by decide)]; omega)
  refine ⟨M', by rw [g2]; exact e, g2, AZ_weak A (fun j hj => ?_) (fun _ _ _ q => q) (fun _ _ _ q => q) (fun _ _ _ q => q) (by omega) (by omega)⟩
  unfold cP2 cP1 upc
  by_cases e2 : 3 ≤ j ∧ j ≤ 9
  · rw [if_pos (by omega), if_pos e2]
  · rw [if_neg e2]
    by_cases e3 : j = 2
    · subst e3; rw [if_pos (by omega), if_pos rfl, hc 2 (by decide) (by decide)]
    · rw [if_neg (by omega), if_neg e3]
/-- what was remembered -/
def cH (c : Nat → Nat) (i : Nat) : Nat → Nat := fun j => if 2 ≤ j ∧ j ≤ 9 then i + 1 else if j = 18 then 1 else c j
def fH (i k o f : Nat) : Bool := (Nat.beq k 17 && (Nat.beq o 0 && Nat.beq f 0)) || ((Nat.beq k 2 && (Nat.ble 1 o && (Nat.ble o i && (Nat.ble 3 f && Nat.ble f 9)))) || (Nat.beq k 18 && (Nat.beq o 0 && Nat.blt f i)))
theorem s_Hinit {M0 M : xM} {c : Nat → Nat} {F Z Y : Nat → Nat → Nat → Bool} {r1 r2 : Nat} (h : AZ M0 M c F Z Y r1 r2) (hc : ∀ j, 2 ≤ j → j ≤ 9 → c j = 1) (h17 : c 17 = 1) (h18 : c 18 = 0) : ∃ M', m_H_init 0 M = rV M' ∧ AZ M0 M' (cH c 6) (fun k o f => F k o f || fH 6 k o f) Z Y (r1 + 49) (r2 + 606) := by
  have a1 := AZ_new h 18 6 (by decide)
  have a2 := AZ_flag a1 17 217 0 0 (by decide) rfl (by unfold upc; rw [if_neg (by decide), h17]; decide)
  have i0 : AZ M0 (xst (xnew M 18 6) 217 0 0 (.ref 1)) (cH c 0) (fun k o f => F k o f || fH 0 k o f) Z Y (r1 + 1 + 8 * 0) (r2 + 6 + 100 * 0) := AZ_weak a2 (fun j hj => by
    unfold cH upc
    by_cases e : 2 ≤ j ∧ j ≤ 9
    · rw [if_pos e, if_neg (by omega), hc j e.1 e.2]
    · rw [if_neg e]
      by_cases e2 : j = 18
      · rw [if_pos e2, if_pos e2, h18]
      · rw [if_neg e2, if_neg e2]) (fun k o f q => by
    cases hF : F k o f with
    | true => simp [hF]
    | false =>
      unfold fH at q
      unfold is3
      simp only [hF, Bool.false_or, Bool.or_eq_true, Bool.and_eq_true, Nat.beq_eq, Nat.ble_eq, Nat.blt_eq] at q ⊢
      omega) (fun _ _ _ q => q) (fun _ _ _ q => q) (by omega) (by omega)
  rw [e_m_H_init, if_pos (by decide), if_pos ((AZ_c h (k := 18) (by decide)).trans h18)]
  refine lpM (B := fun i N => b_H_init_9 0 (zi (i : Nat)) N) (n := 6) (fun i N => AZ M0 N (cH c i) (fun k o f => F k o f || fH i k o f) Z Y (r1 + 1 + 8 * i) (r2 + 6 + 100 * i)) (fun q => ∃ M', q = rV M' ∧ AZ M0 M' (cH c 6) (fun k o f => F k o f || fH 6 k o f) Z Y (r1 + 49) (r2 + 606)) (fun i N hi g => ?_) (fun N g => ?_) 0 _ (Nat.zero_le _) i0
  · obtain ⟨N1, e1, g1, b1⟩ := s_newP g (p := i + 1) (fun j x y => by unfold cH; rw [if_pos ⟨x, y⟩])
    have b2 := AZ_flag b1 18 218 0 i (by decide) rfl (by unfold cP2 cH; rw [if_neg (by decide), if_neg (by decide), if_pos rfl]; decide)
    have f17 : gn N 217 0 0 = 1 := AZ_f g (k := 17) (o := 0) (f := 0) (by
      show (F 17 0 0 || fH i 17 0 0) = true
      rw [show fH i 17 0 0 = true from rfl, Bool.or_true])
    refine ⟨xst N1 218 0 i (.ref 1), AZ_weak b2 (fun j hj => ?_) (fun k o f q => ?_) (fun _ _ _ q => q) (fun _ _ _ q => q) (by omega) (by omega), ?_⟩
    · unfold cP2 cH
      by_cases e : 2 ≤ j ∧ j ≤ 9
      · rw [if_pos e, if_pos e]
      · rw [if_neg e, if_neg e, if_neg e]
    · cases hF : F k o f with
      | true => simp [hF]
      | false =>
        unfold fH at q
        unfold is3 fP fH
        simp only [hF, Bool.false_or, Bool.or_eq_true, Bool.and_eq_true, Nat.beq_eq, Nat.ble_eq, Nat.blt_eq] at q ⊢
        omega
    · show b_H_init_9 0 (zi (i : Nat)) N = b_H_init_9 0 (zi ((i + 1 : Nat) : Int)) _
      rw [e_b_H_init_9, zi_06, zif (by omega) (by omega) (by decide) (by decide), if_pos (by omega), if_pos f17, e1, xret_v, xbV_r, xck_n hi (by decide), g1, zix (by omega), if_pos rfl, zi_suc]
  · show ∃ M', b_H_init_9 0 (zi ((6 : Nat) : Int)) N = rV M' ∧ _
    rw [e_b_H_init_9, if_neg (by decide)]
    exact ⟨N, rfl, AZ_weak g (fun _ _ => rfl) (fun _ _ _ q => q) (fun _ _ _ q => q) (fun _ _ _ q => q) (by omega) (by omega)⟩
/-- the table of commands -/
def cR (c : Nat → Nat) (i : Nat) : Nat → Nat := fun j => if j = 24 then i else if j = 23 then 1 else c j
def fR (i k o f : Nat) : Bool := (Nat.beq k 22 && (Nat.beq o 0 && Nat.beq f 0)) || ((Nat.beq k 24 && (Nat.blt o i && Nat.beq f 0)) || (Nat.beq k 23 && (Nat.beq o 0 && Nat.blt f i)))
theorem s_Rinit {M0 M : xM} {c : Nat → Nat} {F Z Y : Nat → Nat → Nat → Bool} {r1 r2 : Nat} (h : AZ M0 M c F Z Y r1 r2) (h22 : c 22 = 1) (h23 : c 23 = 0) (h24 : c 24 = 0) (hY : ∀ o s, Y 24 o s = false) : ∃ M', m_R_init 0 M = rV M' ∧ AZ M0 M' (cR c 30) (fun k o f => F k o f || fR 30 k o f) Z Y (r1 + 31) (r2 + 180) := by
  have a1 := AZ_new h 23 30 (by decide)
  have a2 := AZ_flag a1 22 222 0 0 (by decide) rfl (by unfold upc; rw [if_neg (by decide), h22]; decide)
  have i0 : AZ M0 (xst (xnew M 23 30) 222 0 0 (.ref 1)) (cR c 0) (fun k o f => F k o f || fR 0 k o f) Z Y (r1 + 1 + 0) (r2 + 30 + 5 * 0) := AZ_weak a2 (fun j hj => by
    unfold cR upc
    by_cases e : j = 24
    · subst e; rw [if_pos rfl, if_neg (by decide), h24]
    · rw [if_neg e]
      by_cases e2 : j = 23
      · rw [if_pos e2, if_pos e2, h23]
      · rw [if_neg e2, if_neg e2]) (fun k o f q => by
    cases hF : F k o f with
    | true => simp [hF]
    | false =>
      unfold fR at q
      unfold is3
      simp only [hF, Bool.false_or, Bool.or_eq_true, Bool.and_eq_true, Nat.beq_eq, Nat.ble_eq, Nat.blt_eq] at q ⊢
      omega) (fun _ _ _ q => q) (fun _ _ _ q => q) (by omega) (by omega)
  rw [e_m_R_init, if_pos (by decide), if_pos ((AZ_c h (k := 23) (by decide)).trans h23)]
  refine lpM (B := fun i N => b_R_init_9 0 (zi (i : Nat)) N) (n := 30) (fun i N => AZ M0 N (cR c i) (fun k o f => F k o f || fR i k o f) Z Y (r1 + 1 + i) (r2 + 30 + 5 * i)) (fun q => ∃ M', q = rV M' ∧ AZ M0 M' (cR c 30) (fun k o f => F k o f || fR 30 k o f) Z Y (r1 + 31) (r2 + 180)) (fun i N hi g => ?_) (fun N g => ?_) 0 _ (Nat.zero_le _) i0
  · have c24 : gn N 101 24 0 = i := AZ_c g (k := 24) (by decide)
    have b1 := AZ_new g 24 5 (by decide)
    have b2 := AZ_ref b1 24 i 0 0 (by decide) (hY _ _)
    have b3 := AZ_flag b2 24 224 i 0 (by decide) rfl (by unfold upc cR; rw [if_pos rfl, if_pos rfl]; omega)
    have b4 := AZ_flag b3 23 223 0 i (by decide) rfl (by unfold upc cR; rw [if_neg (by decide), if_neg (by decide), if_pos rfl]; decide)
    have f22 : gn N 222 0 0 = 1 := AZ_f g (k := 22) (o := 0) (f := 0) (by
      show (F 22 0 0 || fR i 22 0 0) = true
      rw [show fR i 22 0 0 = true from rfl, Bool.or_true])
    refine ⟨_, AZ_weak b4 (fun j hj => ?_) (fun k o f q => ?_) (fun _ _ _ q => q) (fun _ _ _ q => q) (by omega) (by omega), ?_⟩
    · unfold upc cR
      by_cases e : j = 24
      · rw [if_pos e, if_pos e, if_pos rfl]
      · rw [if_neg e, if_neg e, if_neg e]
    · cases hF : F k o f with
      | true => simp [hF]
      | false =>
        unfold fR at q
        unfold is3 fR
        simp only [hF, Bool.false_or, Bool.or_eq_true, Bool.and_eq_true, Nat.beq_eq, Nat.ble_eq, Nat.blt_eq] at q ⊢
        omega
    · show b_R_init_9 0 (zi (i : Nat)) N = b_R_init_9 0 (zi ((i + 1 : Nat) : Int)) _
      rw [e_b_R_init_9, zi_30, zif (by omega) (by omega) (by decide) (by decide), if_pos (by omega), if_pos f22, c24, e_m_K_init, xret_v, xbV_r, xck_n hi (by decide), zix (by omega), if_pos (by omega), zi_suc]
  · show ∃ M', b_R_init_9 0 (zi ((30 : Nat) : Int)) N = rV M' ∧ _
    rw [e_b_R_init_9, if_neg (by decide)]
    exact ⟨N, rfl, AZ_weak g (fun _ _ => rfl) (fun _ _ _ q => q) (fun _ _ _ q => q) (fun _ _ _ q => q) (by omega) (by omega)⟩
/-- a reader of tokens with its text -/
theorem is3_41 {k o f k' o' s : Nat} (hk : k < 41) (h : 41 ≤ k') : is3 k o f k' o' s = false := by
  cases e : is3 k o f k' o' s with
  | false => rfl
  | true =>
    have := is3_i e
    omega
theorem AZ_neg {M0 M : xM} {c : Nat → Nat} {F Z Y : Nat → Nat → Nat → Bool} {r1 r2 k o s : Nat} (h : AZ M0 M c F Z Y r1 r2) (hk : k < 41) (ho : o < c k) (hv : gi M k o s = zi (-1)) : AZ M0 M c F Z (fun k' o' s' => Y k' o' s' || is3 k o s k' o' s') r1 r2 := ⟨h.1, h.2.1, h.2.2.1, h.2.2.2.1, fun k' o' s' q => by
  rw [Bool.or_eq_true] at q
  rcases q with q | q
  · exact h.2.2.2.2.1 k' o' s' q
  · obtain ⟨rfl, rfl, rfl⟩ := is3_i q
    exact ⟨hv, hk, ho⟩, h.2.2.2.2.2⟩
def cT (c : Nat → Nat) (o : Nat) : Nat → Nat := fun j => if j = 19 ∨ j = 20 then o + 1 else c j
def fT (t k o f : Nat) : Bool := Nat.beq o t && ((Nat.beq k 19 && Nat.beq f 0) || (Nat.beq k 21 && (Nat.beq f 0 || Nat.beq f 3)))
theorem s_Tinit {M0 M : xM} {c : Nat → Nat} {F Z Y : Nat → Nat → Nat → Bool} {r1 r2 o : Nat} (h : AZ M0 M c F Z Y r1 r2) (h19 : c 19 = o) (h20 : c 20 = o) (h21 : o < c 21) (hY : ∀ s, Y 21 o s = false) : ∃ M', m_T_init o M = rV M' ∧ AZ M0 M' (cT c o) (fun k o' f => F k o' f || fT o k o' f) (fun k' o' s' => Z k' o' s' && !is3 21 o 9 k' o' s') (fun k' o' s' => Y k' o' s' || is3 21 o 9 k' o' s') (r1 + 2) (r2 + 602) := by
  have a1 := AZ_new h 19 2 (by decide)
  have a2 := AZ_new a1 20 600 (by decide)
  have a3 := AZ_flag a2 19 219 o 0 (by decide) rfl (by unfold upc; rw [if_neg (by decide), if_pos rfl]; omega)
  have q21 : o < upc (upc c 19) 20 21 := by unfold upc; rw [if_neg (by decide), if_neg (by decide)]; exact h21
  have a4 := AZ_flag a3 21 221 o 0 (by decide) rfl q21
  have a5 := AZ_ref a4 21 o 3 4 (by decide) (hY _)
  have a6 := AZ_flag a5 21 221 o 3 (by decide) rfl q21
  have a7 := AZ_fz a6 (fz_st (K := is3 21 o 9) (v := .int (-1)) (is3_t 21 o 9)) (fun k o' s hk => is3_41 (by decide) hk)
  have a8 := AZ_neg a7 (k := 21) (o := o) (s := 9) (by decide) q21 (gi_h _ _ _ _ _)
  refine ⟨_, ?_, AZ_weak a8 (fun j hj => ?_) (fun k o' f q => ?_) (fun _ _ _ q => q) (fun k o' f q => ?_) (by omega) (by omega)⟩
  · rw [e_m_T_init, AZ_c h (k := 19) (by decide), h19, e_m_I_init, if_pos (by decide), if_pos ((AZ_c a1 (k := 20) (by decide)).trans (show upc c 19 20 = o from h20)), xret_v, xbV_r, if_pos rfl]
  · unfold cT upc
    by_cases e : j = 19
    · subst e; rw [if_pos (Or.inl rfl), if_neg (by decide), if_pos rfl, h19]
    · by_cases e2 : j = 20
      · subst e2; rw [if_pos (Or.inr rfl), if_pos rfl, if_neg (by decide), h20]
      · rw [if_neg (by omega), if_neg e2, if_neg e]
  · cases hF : F k o' f with
    | true => simp [hF]
    | false =>
      unfold fT at q
      unfold is3
      simp only [hF, Bool.false_or, Bool.or_eq_true, Bool.and_eq_true, Nat.beq_eq, Nat.ble_eq, Nat.blt_eq] at q ⊢
      omega
  · rw [Bool.or_eq_true] at q ⊢
    rcases q with q | q
    · left
      rw [Bool.and_eq_true]
      refine ⟨q, ?_⟩
      cases e : is3 21 o 9 k o' f with
      | false => rfl
      | true =>
        obtain ⟨rfl, rfl, rfl⟩ := is3_i e
        rw [hY] at q; exact nomatch q
    · exact Or.inr q
/-- the dates and the schedule -/
def cS (c : Nat → Nat) : Nat → Nat := fun j => if j = 10 ∨ j = 11 ∨ j = 12 ∨ j = 13 ∨ j = 14 ∨ j = 16 then 1 else c j
def fS (k o f : Nat) : Bool := Nat.beq o 0 && ((Nat.beq k 10 && Nat.blt f 4) || (Nat.beq k 15 && Nat.blt f 2))
theorem s_Sinit {M0 M : xM} {c : Nat → Nat} {F Z Y : Nat → Nat → Nat → Bool} {r1 r2 : Nat} (h : AZ M0 M c F Z Y r1 r2) (h10 : c 10 = 0) (h11 : c 11 = 0) (h12 : c 12 = 0) (h13 : c 13 = 0) (h14 : c 14 = 0) (h15 : c 15 = 1) (h16 : c 16 = 0) : ∃ M', m_S_init 0 M = rV M' ∧ AZ M0 M' (cS c) (fun k o f => F k o f || fS k o f) Z Y (r1 + 6) (r2 + 65) := by
  have a0 := AZ_new h 10 5 (by decide)
  have q10 : ∀ {c1 : Nat → Nat}, c1 10 = 1 → 0 < c1 10 := fun e => by rw [e]; decide
  have b1 := AZ_new a0 11 12 (by decide)
  have a1 := AZ_flag b1 10 210 0 0 (by decide) rfl (by unfold upc; rw [if_neg (by decide), if_pos rfl]; omega)
  have b2 := AZ_new a1 12 12 (by decide)
  have a2 := AZ_flag b2 10 210 0 1 (by decide) rfl (by unfold upc; rw [if_neg (by decide), if_neg (by decide), if_pos rfl]; omega)
  have b3 := AZ_new a2 13 12 (by decide)
  have a3 := AZ_flag b3 10 210 0 2 (by decide) rfl (by unfold upc; rw [if_neg (by decide), if_neg (by decide), if_neg (by decide), if_pos rfl]; omega)
  have b4 := AZ_new a3 14 12 (by decide)
  have a4 := AZ_flag b4 10 210 0 3 (by decide) rfl (by unfold upc; rw [if_neg (by decide), if_neg (by decide), if_neg (by decide), if_neg (by decide), if_pos rfl]; omega)
  have q15 : 0 < upc (upc (upc (upc (upc c 10) 11) 12) 13) 14 15 := by
    show 0 < c 15
    omega
  have a5 := AZ_flag a4 15 215 0 0 (by decide) rfl q15
  have b6 := AZ_new a5 16 12 (by decide)
  have a6 := AZ_flag b6 15 215 0 1 (by decide) rfl (by show 0 < c 15; omega)
  refine ⟨_, ?_, AZ_weak a6 (fun j hj => ?_) (fun k o f q => ?_) (fun _ _ _ q => q) (fun _ _ _ q => q) (by omega) (by omega)⟩
  · rw [e_m_S_init, AZ_c h (k := 10) (by decide), h10, e_m_D_init, if_pos (by decide), if_pos ((AZ_c a0 (k := 11) (by decide)).trans (show c 11 = 0 from h11)), if_pos (by decide), if_pos ((AZ_c b1 (k := 12) (by decide)).trans (show c 12 = 0 from h12)), if_pos (by decide), if_pos ((AZ_c b2 (k := 13) (by decide)).trans (show c 13 = 0 from h13)), if_pos (by decide), if_pos ((AZ_c b3 (k := 14) (by decide)).trans (show c 14 = 0 from h14)), xret_v, xbV_r, if_pos rfl, if_pos (by decide), if_pos ((AZ_c a4 (k := 16) (by decide)).trans (show c 16 = 0 from h16))]
  · unfold cS
    by_cases e : j = 10 ∨ j = 11 ∨ j = 12 ∨ j = 13 ∨ j = 14 ∨ j = 16
    · rw [if_pos e]
      rcases e with rfl | rfl | rfl | rfl | rfl | rfl
      · show 1 = c 10 + 1; omega
      · show 1 = c 11 + 1; omega
      · show 1 = c 12 + 1; omega
      · show 1 = c 13 + 1; omega
      · show 1 = c 14 + 1; omega
      · show 1 = c 16 + 1; omega
    · rw [if_neg e]
      unfold upc
      rw [if_neg (by omega), if_neg (by omega), if_neg (by omega), if_neg (by omega), if_neg (by omega), if_neg (by omega)]
  · cases hF : F k o f with
    | true => simp [hF]
    | false =>
      unfold fS at q
      unfold is3
      simp only [hF, Bool.false_or, Bool.or_eq_true, Bool.and_eq_true, Nat.beq_eq, Nat.ble_eq, Nat.blt_eq] at q ⊢
      omega
def ZC (k o s : Nat) : Bool := Nat.beq k 17 || Nat.beq k 19 || (Nat.beq k 21 && (Nat.beq o 0 && Nat.beq s 8)) || Nat.beq k 26 || (Nat.ble 27 k && Nat.blt k 41)
theorem ZC_i {k o s : Nat} (h : ZC k o s = true) : k = 17 ∨ k = 19 ∨ (k = 21 ∧ o = 0 ∧ s = 8) ∨ k = 26 ∨ (27 ≤ k ∧ k < 41) := by
  unfold ZC at h
  simp only [Bool.or_eq_true, Bool.and_eq_true, Nat.beq_eq, Nat.ble_eq, Nat.blt_eq] at h
  omega
def YC (k o s : Nat) : Bool := is3 21 0 9 k o s
theorem rng10 {c : Nat → Nat} {v : Nat} (h : (List.range 10).all (fun j => Nat.blt j 2 || Nat.beq (c j) v) = true) : ∀ j, 2 ≤ j → j ≤ 9 → c j = v := fun j h1 h2 => by
  have := List.all_eq_true.mp h j (List.mem_range.mpr (by omega))
  rw [Bool.or_eq_true, Nat.blt_eq, Nat.beq_eq] at this
  omega
theorem rng41 {c c' : Nat → Nat} (h : (List.range 41).all (fun j => Nat.beq (c' j) (c j)) = true) : ∀ j, j < 41 → c' j = c j := fun j h1 => Nat.eq_of_beq_eq_true (List.all_eq_true.mp h j (List.mem_range.mpr h1))
def cB1 (j : Nat) : Nat := xnth [0, 1, 7, 7, 7, 7, 7, 7, 7, 7, 1, 1, 1, 1, 1, 1, 1, 1, 1, 1, 1, 1, 1, 1, 30, 1, 1] j
def fB1 (k o f : Nat) : Bool := false || fP 0 k o f || is3 1 0 1 k o f || fH 6 k o f || is3 1 0 2 k o f || is3 1 0 3 k o f || is3 1 0 4 k o f || fT 0 k o f || is3 1 0 5 k o f || fR 30 k o f || is3 1 0 6 k o f || fS k o f || is3 1 0 7 k o f || is3 1 0 8 k o f
theorem s_C1 {M0 M : xM} (h : AZ M0 M (fun _ => 0) (fun _ _ _ => false) ZC (fun _ _ _ => false) 0 0) : ∃ B, m_C_init 0 (xnew M 1 9) = b_C_init_41 0 0 B ∧ AZ M0 B cB1 fB1 ZC YC 200 2000 ∧ gn B 1 0 8 = 4 := by
  have a0 := AZ_new h 1 9 (by decide)
  obtain ⟨A1, e1, g1, b1⟩ := s_newP a0 (p := 0) (rng10 (by decide +kernel))
  have b2 := AZ_flag b1 1 201 0 1 (by decide) rfl (by decide +kernel)
  have b3 := AZ_new b2 17 3 (by decide)
  obtain ⟨A2, e2, b4⟩ := s_Hinit b3 (rng10 (by decide +kernel)) (by decide +kernel) (by decide +kernel)
  have b5 := AZ_flag b4 1 201 0 2 (by decide) rfl (by decide +kernel)
  have b6 := AZ_new b5 25 2 (by decide)
  have b7 := AZ_flag b6 1 201 0 3 (by decide) rfl (by decide +kernel)
  have b8 := AZ_new b7 26 2 (by decide)
  have b9 := AZ_flag b8 1 201 0 4 (by decide) rfl (by decide +kernel)
  have b10 := AZ_new b9 21 10 (by decide)
  obtain ⟨A3, e3, b11⟩ := s_Tinit b10 (o := 0) (by decide +kernel) (by decide +kernel) (by decide +kernel) (fun _ => rfl)
  have b12 := AZ_flag b11 1 201 0 5 (by decide) rfl (by decide +kernel)
  have b13 := AZ_new b12 22 2 (by decide)
  obtain ⟨A4, e4, b14⟩ := s_Rinit b13 (by decide +kernel) (by decide +kernel) (by decide +kernel) (fun _ _ => rfl)
  have b15 := AZ_flag b14 1 201 0 6 (by decide) rfl (by decide +kernel)
  have b16 := AZ_new b15 15 4 (by decide)
  obtain ⟨A5, e5, b17⟩ := s_Sinit b16 (by decide +kernel) (by decide +kernel) (by decide +kernel) (by decide +kernel) (by decide +kernel) (by decide +kernel) (by decide +kernel)
  have b18 := AZ_flag b17 1 201 0 7 (by decide) rfl (by decide +kernel)
  have b19 := AZ_ref b18 1 0 8 4 (by decide) rfl
  have b20 := AZ_flag b19 1 201 0 8 (by decide) rfl (by decide +kernel)
  have c17 : gn A1 101 17 0 = 0 := (AZ_c b1 (by decide)).trans (by decide +kernel)
  have c25 : gn A2 101 25 0 = 0 := (AZ_c b4 (by decide)).trans (by decide +kernel)
  have c26 : gn (xnew (xst A2 201 0 2 (.ref 1)) 25 2) 101 26 0 = 0 := (AZ_c b6 (by decide)).trans (by decide +kernel)
  have c21 : gn (xnew (xst (xnew (xst A2 201 0 2 (.ref 1)) 25 2) 201 0 3 (.ref 1)) 26 2) 101 21 0 = 0 := (AZ_c b8 (by decide)).trans (by decide +kernel)
  have c22 : gn A3 101 22 0 = 0 := (AZ_c b11 (by decide)).trans (by decide +kernel)
  have c15 : gn A4 101 15 0 = 0 := (AZ_c b14 (by decide)).trans (by decide +kernel)
  refine ⟨_, ?_, AZ_weak b20 (rng41 (by decide +kernel)) (fun k o f q => ?_) (fun k o s q => ?_) (fun k o s q => ?_) (by decide) (by decide), ?_⟩
  · rw [e_m_C_init, e1, xret_v, xbV_r, g1, if_pos rfl, c17, e2, xret_v, xbV_r, if_pos rfl, if_pos (by decide), c25, if_pos rfl, if_pos (by decide), c26, if_pos rfl, c21, e3, xret_v, xbV_r, if_pos rfl, c22, e4, xret_v, xbV_r, if_pos rfl, c15, e5, xret_v, xbV_r, if_pos rfl]
  · exact q
  · show (ZC k o s && !is3 21 0 9 k o s) = true
    rw [q, Bool.true_and]
    cases e : is3 21 0 9 k o s with
    | false => rfl
    | true =>
      have := is3_i e
      have := ZC_i q
      omega
  · show (false || is3 21 0 9 k o s) = true
    exact q
  · rw [gn_k (by decide), gn_h]
def cB2 (j : Nat) : Nat := xnth [0, 1, 9, 9, 9, 9, 9, 9, 9, 9, 1, 1, 1, 1, 1, 1, 1, 1, 1, 1, 1, 1, 1, 1, 30, 1, 1] j
def fB2 (k o f : Nat) : Bool := fB1 k o f || fP 7 k o f || is3 25 0 0 k o f || fP 8 k o f || is3 25 0 1 k o f
/-- the first thing stays as it is -/
theorem sndE {x y : Option xV ⊕ Nat} {a b : xM} (h : (some (x, a) : xR) = some (y, b)) : a = b := congrArg Prod.snd (Option.some.inj h)
theorem ch1 {N : xM} {k n p f o s k' : Nat} {v : Value} (hk : 3 ≤ k ∧ k ≤ 9) (h : k' = 1 ∨ (10 ≤ k' ∧ k' < 60)) : (xst (xnew N k n) 202 p f v) k' o s = N k' o s := (if_neg (fun q => by omega)).trans (xnew_v (by omega) (by omega) (by omega))
theorem Pinit_1 {p : Nat} {M M' : xM} (h : m_P_init p M = rV M') {k : Nat} (hk : k = 1 ∨ (10 ≤ k ∧ k < 60)) (o s : Nat) : M' k o s = M k o s := by
  have no : ∀ {c : Prop} [Decidable c] {a : xR}, (if c then a else none) = rV M' → a = rV M' := fun {c} _ {a} e => by
    by_cases q : c
    · rw [if_pos q] at e; exact e
    · rw [if_neg q] at e; exact nomatch e
  rw [e_m_P_init] at h
  have h := no (no (no (no (no (no (no (no (no (no (no (no (no (no h)))))))))))))
  have h := sndE h
  have e := congrFun (congrFun (congrFun h k) o) s
  rw [← e]
  refine (ch1 (by decide) hk).trans ?_
  refine (ch1 (by decide) hk).trans ?_
  refine (ch1 (by decide) hk).trans ?_
  refine (ch1 (by decide) hk).trans ?_
  refine (ch1 (by decide) hk).trans ?_
  refine (ch1 (by decide) hk).trans ?_
  exact ch1 (by decide) hk
theorem newP_1 {p : Nat} {M M' : xM} (h : m_P_init p (xnew M 2 10) = rV M') : gn M' 1 0 8 = gn M 1 0 8 := by
  unfold gn
  rw [Pinit_1 h (Or.inl rfl), xnew_v (by decide) (by omega) (by omega)]
theorem Tinit_1 {t : Nat} {M M' : xM} (h : m_T_init t (xnew M 21 10) = rV M') : gn M' 1 0 8 = gn M 1 0 8 := by
  have no : ∀ {c : Prop} [Decidable c] {a : xR} {N : xM}, (if c then a else none) = rV N → a = rV N := fun {c} _ {a} {N} e => by
    by_cases q : c
    · rw [if_pos q] at e; exact e
    · rw [if_neg q] at e; exact nomatch e
  rw [e_m_T_init, e_m_I_init] at h
  generalize hN : xnew M 21 10 = N at h
  generalize hP : xnew N 19 2 = P at h
  by_cases c1 : (600 : Int32) = Int32.ofNat 600
  · rw [if_pos c1] at h
    by_cases c2 : gn P 101 20 0 = gn N 101 19 0
    · rw [if_pos c2, xret_v, xbV_r] at h
      have h := sndE (no h)
      have e := congrFun (congrFun (congrFun h 1) 0) 8
      unfold gn
      rw [← e]
      have k1 : (xst (xst (xst (xst (xst (xnew P 20 600) 219 (gn N 101 19 0) 0 (.ref 1)) 221 t 0 (.ref 1)) 21 t 3 (.ref 4)) 221 t 3 (.ref 1)) 21 t 9 (.int (-1))) 1 0 8 = M 1 0 8 := (if_neg (fun q => by omega)).trans ((if_neg (fun q => by omega)).trans ((if_neg (fun q => by omega)).trans ((if_neg (fun q => by omega)).trans ((if_neg (fun q => by omega)).trans ((xnew_v (by decide) (by omega) (by omega)).trans (by
        rw [← hP, ← hN, xnew_v (by decide) (by omega) (by omega), xnew_v (by decide) (by omega) (by omega)]))))))
      rw [k1]
    · rw [if_neg c2] at h; exact nomatch h
  · exact absurd (by decide) c1
theorem s_C41 {M0 B : xM} {r1 r2 : Nat} (h : AZ M0 B cB1 fB1 ZC YC r1 r2) : ∃ A, b_C_init_41 0 0 B = b_C_init_41 0 2 A ∧ AZ M0 A cB2 fB2 ZC YC (r1 + 16) (r2 + 200) ∧ gn A 1 0 8 = gn B 1 0 8 := by
  have w1 : ∀ {N : xM} {c : Nat → Nat} {F : Nat → Nat → Nat → Bool} {s1 s2 : Nat}, AZ M0 N c F ZC YC s1 s2 → F 1 0 3 = true → gn N 201 0 3 = 1 := fun a q => AZ_f a (k := 1) (o := 0) (f := 3) q
  obtain ⟨A1, e1, g1, b1⟩ := s_newP h (p := 7) (rng10 (by decide +kernel))
  have b2 := AZ_flag b1 25 225 0 0 (by decide) rfl (by decide +kernel)
  obtain ⟨A2, e2, g2, b3⟩ := s_newP b2 (p := 8) (rng10 (by decide +kernel))
  have b4 := AZ_flag b3 25 225 0 1 (by decide) rfl (by decide +kernel)
  have x0 : ∀ k, xck 0 2 k = k := fun k => if_neg (by decide)
  have x1 : ∀ k, xck (0 + 1) 2 k = k := fun k => if_neg (by decide)
  have i1 : ix (0 + 1) = 1 := rfl
  refine ⟨_, ?_, AZ_weak b4 (rng41 (by decide +kernel)) (fun k o f q => q) (fun _ _ _ q => q) (fun _ _ _ q => q) (by omega) (by omega), ?_⟩
  · rw [e_b_C_init_41, if_pos (by decide), if_pos (w1 h rfl), e1, xret_v, xbV_r, x0, g1, ix_0, if_pos (by decide), e_b_C_init_41, if_pos (by decide), if_pos (w1 b2 rfl), e2, xret_v, xbV_r, x1, g2, i1, if_pos (by decide)]
    rfl
  · rw [g1] at e1
    rw [g2] at e2
    rw [gn_k (by decide), newP_1 e2, gn_k (by decide), newP_1 e1]
def MAz (c : Nat → Nat) (F : Nat → Nat → Nat → Bool) : xM := fun k o f => if k = 101 then .ref (c o) else if F (k - 200) o f = true then .ref 1 else .retAddr 0
theorem MAz_f {c : Nat → Nat} {F : Nat → Nat → Nat → Bool} {k o f : Nat} (h : gn (MAz c F) (200 + k) o f = 1) : F k o f = true := by
  have e : MAz c F (200 + k) o f = if F k o f = true then .ref 1 else .retAddr 0 := by
    unfold MAz
    rw [if_neg (by omega), Nat.add_sub_cancel_left]
  unfold gn at h
  rw [e] at h
  cases hF : F k o f with
  | true => rfl
  | false =>
    rw [hF, if_neg (by decide)] at h
    exact nomatch h
theorem xgdF_up {M M' : xM} {k : Nat} (h : ∀ o f, gn M (200 + k) o f = 1 → gn M' (200 + k) o f = 1) (o : Nat) : ∀ (L : List (Nat × Nat × Nat)) (f : Nat), xgdF M k o L f = true → xgdF M' k o L f = true := by
  intro L
  induction L with
  | nil => intro f _; rfl
  | cons q r ih =>
    intro f g
    obtain ⟨t, q2⟩ := q
    unfold xgdF at g ⊢
    rw [Bool.and_eq_true] at g ⊢
    refine ⟨?_, ih (f + 1) g.2⟩
    rcases t with _ | _ | t
    · rfl
    · rfl
    · have g1 : Nat.beq (gn M (200 + k) o f) 1 = true := g.1
      show Nat.beq (gn M' (200 + k) o f) 1 = true
      rw [h o f (Nat.eq_of_beq_eq_true g1)]
      rfl
theorem xgdA_up {M M' : xM} {k : Nat} (h : ∀ o f, gn M (200 + k) o f = 1 → gn M' (200 + k) o f = 1) (o : Nat) : ∀ n, xgdA M k o n = true → xgdA M' k o n = true := by
  intro n
  induction n with
  | zero => intro _; rfl
  | succ n ih =>
    intro g
    unfold xgdA at g ⊢
    rw [Bool.and_eq_true] at g ⊢
    refine ⟨?_, ih g.2⟩
    rw [h o n (Nat.eq_of_beq_eq_true g.1)]
    rfl
theorem xgood_AZ {M0 M : xM} {c : Nat → Nat} {F Z Y : Nat → Nat → Nat → Bool} {r1 r2 : Nat} {L : List (Nat × Nat)} (h : AZ M0 M c F Z Y r1 r2) (hL : L.all (fun q => Nat.blt q.1 41) = true) (g : xgood L (MAz c F) = true) : xgood L M = true := by
  unfold xgood at g ⊢
  refine List.all_eq_true.mpr (fun q hq => ?_)
  have g1 := List.all_eq_true.mp g q hq
  have l : q.1 < 41 := Nat.le_of_ble_eq_true (List.all_eq_true.mp hL q hq)
  rw [Bool.and_eq_true] at g1 ⊢
  have up : ∀ o f, gn (MAz c F) (200 + q.1) o f = 1 → gn M (200 + q.1) o f = 1 := fun o f e => AZ_f h (MAz_f e)
  refine ⟨?_, ?_⟩
  · rw [AZ_c h l]
    exact g1.1
  · have g2 := g1.2
    cases e : xra q.1 with
    | true =>
      rw [e] at g2
      exact xgdA_up up _ _ g2
    | false =>
      rw [e] at g2
      exact xgdF_up up _ _ _ g2
/-- letters into the class's text -/
def onIx (o k o' s : Nat) : Bool := Nat.beq o' o && ((Nat.beq k 19 && Nat.beq s 1) || Nat.beq k 20)
theorem onIx_i {o k o' s : Nat} (h : onIx o k o' s = true) : o' = o ∧ ((k = 19 ∧ s = 1) ∨ k = 20) := by
  unfold onIx at h
  simp only [Bool.and_eq_true, Bool.or_eq_true, Nat.beq_eq] at h
  exact h
theorem onIx_f {o k o' s : Nat} (h : ¬ (k = 19 ∨ k = 20)) : onIx o k o' s = false := by
  cases e : onIx o k o' s with
  | false => rfl
  | true => have := onIx_i e; omega
theorem onIx_t {o s : Nat} : onIx o 19 o 1 = true ∧ onIx o 20 o s = true := by
  unfold onIx
  rw [Nat.beq_refl]
  exact ⟨rfl, rfl⟩
theorem KC_Ix {o : Nat} {M M' : xM} (h : KC M) (f : fz (onIx o) M M') : KC M' := KC_fz h f (fun k o s q => onIx_f (by omega))
theorem s_putText {M : xM} {o t n : Nat} (hK : KC M) (ht : t < 13) (h1 : gi M 19 o 1 = zi (n : Nat)) (hn : n + cN t ≤ 600) : ∃ M', m_I_putText o t M = rV M' ∧ fz (onIx o) M M' ∧ gi M' 19 o 1 = zi ((n + cN t : Nat) : Int) ∧ (∀ k, k < n → gi M' 20 o k = gi M 20 o k) ∧ ∀ k, k < cN t → gi M' 20 o (n + k) = zi (cB t k) := by
  have hc := cN_bd ht
  rw [e_m_I_putText]
  refine lpM (B := fun i N => b_I_putText_3 o t (zi (i : Nat)) N) (n := cN t) (fun i N => fz (onIx o) M N ∧ gi N 19 o 1 = zi ((n + i : Nat) : Int) ∧ (∀ k, k < n → gi N 20 o k = gi M 20 o k) ∧ ∀ k, k < i → gi N 20 o (n + k) = zi (cB t k)) (fun q => ∃ M', q = rV M' ∧ fz (onIx o) M M' ∧ gi M' 19 o 1 = zi ((n + cN t : Nat) : Int) ∧ (∀ k, k < n → gi M' 20 o k = gi M 20 o k) ∧ ∀ k, k < cN t → gi M' 20 o (n + k) = zi (cB t k)) (fun i N hi g => ?_) (fun N g => ?_) 0 M (Nat.zero_le _) ⟨fz_refl M, h1, fun _ _ => rfl, fun k hk => absurd hk (Nat.not_lt_zero k)⟩
  · obtain ⟨g1, g2, g3, g4⟩ := g
    have hKN := KC_Ix hK g1
    have hb := cB_bd ht hi
    have e0 : cB t i = (((cB t i).toNat : Nat) : Int) := by omega
    have by1 := by_eq (c := (cB t i).toNat) (by omega)
    rw [← e0] at by1
    refine ⟨xst (xst N 20 o (n + i) (.int (zi (cB t i)))) 19 o 1 (.int (zi ((n + (i + 1) : Nat) : Int))), ⟨fz_step (fz_step g1 onIx_t.2) (onIx_t (s := 0)).1, gi_h _ _ _ _ _, fun k hk => ?_, fun k hk => ?_⟩, ?_⟩
    · rw [gi_k (by decide), gi_s (by omega)]; exact g3 k hk
    · rw [gi_k (by decide)]
      by_cases c : k = i
      · subst c; rw [gi_h]
      · rw [gi_s (by omega)]; exact g4 k (by omega)
    · show b_I_putText_3 o t (zi (i : Nat)) N = b_I_putText_3 o t (zi ((i + 1 : Nat) : Int)) _
      rw [e_b_I_putText_3, s_strlen hKN ht, xret_I, xbI_r, if_pos (zi_ltn hi (by omega)), s_charAt hKN ht hi, xret_I, xbI_r, e_m_I_putByte, g2, zi_600, zif (by omega) (by omega) (by decide) (by decide), if_pos (by omega), xck_n (by omega) (by decide), zix (by omega), by1, zi_suc, xbV_r, zi_suc]
      rfl
  · obtain ⟨g1, g2, g3, g4⟩ := g
    show ∃ M', b_I_putText_3 o t (zi (cN t : Nat)) N = rV M' ∧ _
    rw [e_b_I_putText_3, s_strlen (KC_Ix hK g1) ht, xret_I, xbI_r, if_neg (zi_irr _)]
    exact ⟨N, rfl, g1, g2, g3, g4⟩
def ZC2 (k o s : Nat) : Bool := Nat.beq k 17 || (Nat.beq k 19 && Nat.beq o 0) || (Nat.beq k 21 && (Nat.beq o 0 && Nat.beq s 8)) || Nat.beq k 26 || (Nat.ble 27 k && Nat.blt k 41)
theorem ZC2_i {k o s : Nat} (h : ZC2 k o s = true) : k = 17 ∨ (k = 19 ∧ o = 0) ∨ (k = 21 ∧ o = 0 ∧ s = 8) ∨ k = 26 ∨ (27 ≤ k ∧ k < 41) := by
  unfold ZC2 at h
  simp only [Bool.or_eq_true, Bool.and_eq_true, Nat.beq_eq, Nat.ble_eq, Nat.blt_eq] at h
  omega
theorem ZC_t {k o s : Nat} (h : k = 17 ∨ k = 19 ∨ (k = 21 ∧ o = 0 ∧ s = 8) ∨ k = 26 ∨ (27 ≤ k ∧ k < 41)) : ZC k o s = true := by
  unfold ZC
  simp only [Bool.or_eq_true, Bool.and_eq_true, Nat.beq_eq, Nat.ble_eq, Nat.blt_eq]
  omega
theorem is3_f {k o f k' o' f' : Nat} (h : ¬ (k' = k ∧ o' = o ∧ f' = f)) : is3 k o f k' o' f' = false := by
  cases e : is3 k o f k' o' f' with
  | false => rfl
  | true => exact absurd (is3_i e) h
theorem kC_f {o p k o' s : Nat} (h : ¬ ((k = 21 ∧ o' = o) ∨ (2 ≤ k ∧ k ≤ 9 ∧ o' = p))) : onC o p k o' s = false := by
  cases e : onC o p k o' s with
  | false => rfl
  | true => exact absurd (kC e) h
theorem onCs_f {k o s : Nat} (h : ¬ (k < 41 ∨ k = 100 ∨ (k = 101 ∧ o < 41) ∨ (200 ≤ k ∧ k < 241))) : onCs k o s = false := by
  cases e : onCs k o s with
  | false => rfl
  | true =>
    unfold onCs at e
    simp only [Bool.or_eq_true, Bool.and_eq_true, Nat.beq_eq, Nat.ble_eq, Nat.blt_eq] at e
    omega
theorem KC_Cs {M M' : xM} (h : KC M) (f : fz onCs M M') : KC M' := KC_fz h f (fun k o s q => onCs_f (by omega))
def cC2 (j : Nat) : Nat := xnth [0, 1, 10, 10, 10, 10, 10, 10, 10, 10, 1, 1, 1, 1, 1, 1, 1, 1, 1, 2, 2, 2, 1, 1, 30, 1, 1] j
def fC2 (k o f : Nat) : Bool := fB2 k o f || fT 1 k o f || fP 9 k o f || is3 1 0 0 k o f
