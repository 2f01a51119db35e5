/-! what holds between two calls: blocks that are the same where it counts -/
def nmA (b b2 : Nat → Int) (a : Nat) : Prop := b2 a = b a ∧ ∀ k, k < (b a).toNat → b2 (a + 1 + k) = b (a + 1 + k)
def AG (b b2 : Nat → Int) : Prop := (b2 0 = b 0 ∧ b2 1 = b 1 ∧ b2 2 = b 2) ∧ (∀ t, t < nT b → bD b2 t = bD b t ∧ bE b2 t = bE b t ∧ (∀ r, r < nR b → bU b2 t r = bU b t r) ∧ nmA b b2 (28 + 12 * t)) ∧ (∀ r, r < nR b → bC b2 r = bC b r ∧ nmA b b2 (4 + 8 * r)) ∧ ∀ f t, f < 12 → t < 12 → b2 (172 + 12 * f + t) = b (172 + 12 * f + t)
theorem nmB_ag {b b2 : Nat → Int} {a : Nat} (h : nmB b a) (e : nmA b b2 a) : nmB b2 a := by
  unfold nmB
  rw [e.1]
  exact ⟨h.1, fun k hk => by rw [e.2 k hk]; exact h.2 k hk⟩
theorem AG_T {b b2 : Nat → Int} (h : AG b b2) : nT b2 = nT b := by unfold nT; rw [h.1.2.2]
theorem AG_R {b b2 : Nat → Int} (h : AG b b2) : nR b2 = nR b := by unfold nR; rw [h.1.2.1]
theorem AG_L {b b2 : Nat → Int} (h : AG b b2) {f t : Nat} (hf : f < 12) (ht : t < 12) : bL b2 f t = bL b f t := by unfold bL; rw [h.2.2.2 f t hf ht]
theorem wF_AG {b b2 : Nat → Int} (hw : wF b) (h : AG b b2) : wF b2 := by
  have hn := wS_n hw.1
  obtain ⟨⟨a1, a2, a3, a4, a5, a6, a7, a8⟩, w2, w3, w4, w5⟩ := hw
  have eT := AG_T h
  have eR := AG_R h
  refine ⟨⟨by rw [h.1.2.2]; exact a1, by rw [h.1.2.1]; exact a2, by rw [h.1.1]; exact a3, fun t ht => ?_, fun t ht => ?_, fun t r ht hr => ?_, fun r hr => ?_, ?_⟩, fun f t hf ht => ?_, fun t ht => ?_, fun r hr => ?_, fun r hr => ?_⟩
  · rw [eT] at ht; rw [(h.2.1 t ht).1]; exact a4 t ht
  · rw [eT] at ht; rw [(h.2.1 t ht).2.1]; exact a5 t ht
  · rw [eT] at ht; rw [eR] at hr; rw [(h.2.1 t ht).2.2.1 r hr, (h.2.2.1 r hr).1]; exact a6 t r ht hr
  · rw [eR] at hr; rw [(h.2.2.1 r hr).1]; exact a7 r hr
  · rw [eT]
    exact acy_congr a8 (fun f t hf ht q => by rw [AG_L h (by omega) (by omega)] at q; exact q)
  · rw [h.2.2.2 f t hf ht, eT]; exact w2 f t hf ht
  · rw [eT] at ht
    exact nmB_ag (w3 t ht) (h.2.1 t ht).2.2.2
  · rw [eR] at hr
    exact nmB_ag (w4 r hr) (h.2.2.1 r hr).2
  · rw [eR] at hr; rw [(h.2.2.1 r hr).1]; exact w5 r hr
theorem CP_AG {M : xM} {p : Nat} {b b2 : Nat → Int} (hc : CP M p b) (h : AG b b2) : CP M p b2 := by
  have eT := AG_T h
  have eR := AG_R h
  have hn := CP_n hc
  obtain ⟨c1, c2, c3, c4, c5⟩ := hc
  refine ⟨by rw [eT, eR]; exact c1, by rw [eT, eR, h.1.1]; exact c2, fun t ht => ?_, fun r hr => ?_, fun t r ht hr => ?_⟩
  · rw [eT] at ht
    obtain ⟨d1, d2, d3, d4⟩ := h.2.1 t ht
    rw [d1, d2, pk_congr d4.1 d4.2]
    obtain ⟨e1, e2, e3, e4⟩ := c3 t ht
    exact ⟨e1, e2, e3.trans (mk_ext (fun f hf => (AG_L h hf (by omega)).symm)), e4⟩
  · rw [eR] at hr
    obtain ⟨d1, d4⟩ := h.2.2.1 r hr
    rw [d1, pk_congr d4.1 d4.2]
    exact c4 r hr
  · rw [eT] at ht; rw [eR] at hr
    rw [(h.2.1 t ht).2.2.1 r hr]
    exact c5 t r ht hr
theorem AG_rg {b b2 : Nat → Int} (hw : wF b) (e : ∀ k, k < 316 → -2147483648 ≤ b k → b k < 2147483648 → b2 k = b k) : AG b b2 := by
  have hn := wS_n hw.1
  have hr3 : nR b ≤ 3 := by unfold nR; have := hw.1.2.1; omega
  obtain ⟨⟨a1, a2, a3, a4, a5, a6, a7, a8⟩, w2, w3, w4, w5⟩ := hw
  have nmg : ∀ a, a + 7 < 316 → nmB b a → nmA b b2 a := fun a ha hb => ⟨e a (by omega) (by have := hb.1; omega) (by have := hb.1; omega), fun k hk => by
    have q := hb.2 k hk
    have q2 := hb.1
    exact e _ (by omega) (by omega) (by omega)⟩
  refine ⟨⟨e 0 (by omega) (by omega) (by omega), e 1 (by omega) (by omega) (by omega), e 2 (by omega) (by omega) (by omega)⟩, fun t ht => ⟨?_, ?_, fun r hr => ?_, nmg _ (by omega) (w3 t ht)⟩, fun r hr => ⟨?_, nmg _ (by omega) (w4 r hr)⟩, fun f t hf ht => ?_⟩
  · have q := a4 t ht; unfold bD at q ⊢; exact e _ (by omega) (by omega) (by omega)
  · have q := a5 t ht; unfold bE at q ⊢; exact e _ (by omega) (by omega) (by omega)
  · have q := a6 t r ht hr; have q2 := a7 r hr; unfold bU at q ⊢; exact e _ (by omega) (by omega) (by omega)
  · have q := a7 r hr; unfold bC at q ⊢; exact e _ (by omega) (by omega) (by omega)
  · have q := (w2 f t hf ht).1; exact e _ (by omega) (by omega) (by omega)
/-- a block that stands in the store is well formed, and the class's plan is the same -/
theorem AG_bk {M : xM} {b : Nat → Int} {i : Nat} (hB : ∀ k, k < 316 → gi M 28 0 (316 * i + k) = zi (b k)) (hw : wF b) : AG b (bk M i) := AG_rg hw (fun k hk h1 h2 => by
  unfold bk
  rw [if_pos hk, hB k hk]
  exact Int32.toInt_ofInt_of_le h1 h2)
/-! the state between two calls -/
def BB (M : xM) : Nat → Int := fun k => (gi M 30 0 k).toInt
def PLN (M : xM) (p i : Nat) : Prop := wF (bk M i) ∧ CP M p (bk M i)
def HIS (M : xM) : Prop := ∃ c w : Nat, c ≤ 6 ∧ w < 6 ∧ gi M 27 0 2 = zi c ∧ gi M 17 0 2 = zi c ∧ gi M 17 0 1 = zi w ∧ ∀ j, j < c → PLN M ((w + 6 - j) % 6 + 1) (c - j)
def SAV (M : xM) : Prop := ∀ s, s < 2 → ∃ f : Bool, gi M 26 0 s = bz f ∧ gi M 29 0 s = bz f ∧ (f = true → PLN M (7 + s) (7 + s))
def INP (M : xM) : Prop := ∃ n, IN M 0 (BB M) n ∧ IR M (BB M) n
def ERR (M : xM) : Prop := gi M 21 0 8 = gi M 27 0 5 ∧ gi M 21 0 9 = gi M 27 0 6
def TX (M : xM) (o len : Nat) (f : Nat → Int32) : Prop := gn M 246 o 0 = 1 ∧ gn M 157 o 0 = len ∧ gi M 46 o 1 = 0 ∧ ∀ i, gi M 47 o i = f i
def OUT (M : xM) : Prop := ∃ (len : Nat) (f : Nat → Int32), (len ≤ 220 ∧ ∀ i, i < len → ∃ c : Nat, c < 128 ∧ f i = zi (c : Nat)) ∧ TX M (gn M 1 0 8) len f ∧ gi M 27 0 8 = zi len ∧ ∀ i, i < len → gi M 31 0 i = f i
def Inv (M : xM) : Prop := PLN M 9 0 ∧ HIS M ∧ SAV M ∧ INP M ∧ ERR M ∧ OUT M ∧ KC M ∧ GB M
def onI (k o s : Nat) : Bool := !(Nat.beq k 28 || (Nat.ble 2 k && Nat.ble k 9 && Nat.blt 0 o) || Nat.beq k 17 || Nat.beq k 26 || Nat.beq k 29 || (Nat.beq k 27 && (Nat.beq s 2 || Nat.beq s 4 || Nat.beq s 5 || Nat.beq s 6 || Nat.beq s 8)) || Nat.beq k 19 || Nat.beq k 20 || Nat.beq k 30 || (Nat.beq k 21 && (Nat.beq s 8 || Nat.beq s 9)) || Nat.beq k 1 || Nat.beq k 31 || Nat.beq k 43 || Nat.beq k 45 || Nat.beq k 48 || Nat.beq k 52 || Nat.beq k 243 || Nat.beq k 244 || Nat.beq k 46 || Nat.beq k 47 || Nat.beq k 157 || Nat.beq k 246 || Nat.beq k 38)
theorem PLN_fz {K : Nat → Nat → Nat → Bool} {M M' : xM} {p i : Nat} (h : PLN M p i) (f : fz K M M') (h1 : ∀ s, K 28 0 s = false) (h2 : ∀ k s, 2 ≤ k → k ≤ 9 → K k p s = false) : PLN M' p i := by
  have e := bk_fz f (i := i) (fun k _ => h1 _)
  unfold PLN
  rw [e]
  exact ⟨h.1, CP_fz h.2 f h2⟩
theorem onI_p {k o s : Nat} (h1 : 2 ≤ k) (h2 : k ≤ 9) (h3 : 1 ≤ o) : onI k o s = false := by
  unfold onI
  rw [Nat.ble_eq_true_of_le h1, Nat.ble_eq_true_of_le h2, show Nat.blt 0 o = true from Nat.ble_eq_true_of_le h3]
  simp
theorem BB_fz {K : Nat → Nat → Nat → Bool} {M M' : xM} (f : fz K M M') (h : ∀ s, K 30 0 s = false) : BB M' = BB M := by
  funext k
  unfold BB
  rw [fz_gi f (h k)]
theorem Inv_I {M M' : xM} (h : Inv M) (f : fz onI M M') : Inv M' := by
  obtain ⟨h1, ⟨c, w, g1, g2, g3, g4, g5, g6⟩, h3, ⟨n, i1, i2⟩, ⟨e1, e2⟩, ⟨len, t, t1, ⟨x1, x2, x3, x4⟩, t3, t4⟩, h7, h8⟩ := h
  have p28 : ∀ s, onI 28 0 s = false := fun _ => rfl
  have eo : gn M' 1 0 8 = gn M 1 0 8 := fz_gn f rfl
  refine ⟨PLN_fz h1 f p28 (fun k s a b => onI_p a b (by decide)), ⟨c, w, g1, g2, (fz_gi f rfl).trans g3, (fz_gi f rfl).trans g4, (fz_gi f rfl).trans g5, fun j hj => PLN_fz (g6 j hj) f p28 (fun k s a b => onI_p a b (by omega))⟩, fun s hs => ?_, ⟨n, ?_, ?_⟩, ⟨?_, ?_⟩, ⟨len, t, t1, ⟨?_, ?_, ?_, fun i => ?_⟩, (fz_gi f rfl).trans t3, fun i hi => (fz_gi f rfl).trans (t4 i hi)⟩, KC_fz h7 f (fun k o s q => ?_), GB_eq h8 (fun s => fz_gi f rfl)⟩
  · obtain ⟨fl, s1, s2, s3⟩ := h3 s hs
    exact ⟨fl, (fz_gi f rfl).trans s1, (fz_gi f rfl).trans s2, fun q => PLN_fz (s3 q) f p28 (fun k s a b => onI_p a b (by omega))⟩
  · rw [BB_fz f (fun _ => rfl)]; exact IN_fz i1 f rfl (fun _ => rfl)
  · rw [BB_fz f (fun _ => rfl)]; exact IR_fz i2 f rfl (fun _ => rfl)
  · rw [fz_gi f rfl, fz_gi f rfl]; exact e1
  · rw [fz_gi f rfl, fz_gi f rfl]; exact e2
  · rw [eo, fz_gn f rfl]; exact x1
  · rw [eo, fz_gn f rfl]; exact x2
  · rw [eo, fz_gi f rfl]; exact x3
  · rw [eo, fz_gi f rfl]; exact x4 i
  · rcases q with rfl | rfl | rfl | rfl | rfl | rfl | ⟨rfl | rfl | rfl | rfl, _⟩ <;> rfl
