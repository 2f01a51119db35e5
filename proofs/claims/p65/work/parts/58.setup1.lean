/-! the setup text: the class's half of parts 58-63 of whole -/
def onPz (p k o : Nat) (_ : Nat) : Bool := (Nat.ble 2 k && Nat.ble k 9) && Nat.beq o p
theorem onPz_t {p k s : Nat} (h1 : 2 ≤ k) (h2 : k ≤ 9) : onPz p k p s = true := by
  unfold onPz
  rw [Nat.ble_eq_true_of_le h1, Nat.ble_eq_true_of_le h2]
  exact Nat.beq_refl p
theorem onPz_k {p k o s : Nat} (h : k < 2 ∨ 9 < k) : onPz p k o s = false := by
  unfold onPz
  cases h1 : Nat.ble 2 k with
  | false => rfl
  | true =>
    cases h2 : Nat.ble k 9 with
    | false => rfl
    | true =>
      have := Nat.le_of_ble_eq_true h1
      have := Nat.le_of_ble_eq_true h2
      omega
def onC (o p k o' s : Nat) : Bool := on21 o k o' s || onPz p k o' s
theorem onC_21 {o p : Nat} {M M' : xM} (f : fz (on21 o) M M') : fz (onC o p) M M' := fz_mono (fun k o' s h => by unfold onC; rw [h]; rfl) f
theorem onC_P {o p : Nat} {M M' : xM} (f : fz (onPz p) M M') : fz (onC o p) M M' := fz_mono (fun k o' s h => by unfold onC; rw [h, Bool.or_true]) f
/-- .. but the error -/
def onC8 (o p k o' s : Nat) : Bool := on8 o k o' s || onPz p k o' s
theorem onC_8 {o p : Nat} {M M' : xM} (f : fz (on8 o) M M') : fz (onC8 o p) M M' := fz_mono (fun k o' s h => by unfold onC8; rw [h]; rfl) f
theorem onC8_P {o p : Nat} {M M' : xM} (f : fz (onPz p) M M') : fz (onC8 o p) M M' := fz_mono (fun k o' s h => by unfold onC8; rw [h, Bool.or_true]) f
theorem onC8_C {o p : Nat} {M M' : xM} (f : fz (onC8 o p) M M') : fz (onC o p) M M' := fz_mono (fun k o' s h => by
  unfold onC8 at h
  unfold onC
  rcases Bool.or_eq_true_iff.mp h with h | h
  · obtain ⟨h1, h2⟩ := Bool.and_eq_true_iff.mp h
    unfold on21
    rw [h1]; rfl
  · rw [h, Bool.or_true]) f
theorem IN_P {M M' : xM} {o p : Nat} {B : Nat → Int} {n : Nat} (h : IN M o B n) (f : fz (onPz p) M M') : IN M' o B n := IN_fz h f (onPz_k (by omega)) (fun _ => onPz_k (by omega))
theorem CT_P {M M' : xM} {o p : Nat} {B : Nat → Int} {n pos : Nat} (h : CT M o B n pos) (f : fz (onPz p) M M') : CT M' o B n pos := ⟨IN_P h.1 f, TC_fz h.2.1 f (fun _ _ => onPz_k (by omega)), KC_fz h.2.2 f (fun k o s q => onPz_k (by omega))⟩
theorem CP_fz {K : Nat → Nat → Nat → Bool} {M M' : xM} {p : Nat} {b : Nat → Int} (h : CP M p b) (f : fz K M M') (hK : ∀ k s, 2 ≤ k → k ≤ 9 → K k p s = false) : CP M' p b := by
  refine ⟨h.1, ⟨?_, ?_, ?_⟩, fun t ht => ⟨?_, ?_, ?_, ?_⟩, fun r hr => ⟨?_, ?_⟩, fun t r ht hr => ?_⟩
  · rw [fz_gi f (hK 2 _ (by omega) (by omega))]; exact CP_0 h
  · rw [fz_gi f (hK 2 _ (by omega) (by omega))]; exact CP_R h
  · rw [fz_gi f (hK 2 _ (by omega) (by omega))]; exact CP_T h
  · rw [fz_gi f (hK 6 _ (by omega) (by omega))]; exact CP_D h ht
  · rw [fz_gi f (hK 7 _ (by omega) (by omega))]; exact CP_E h ht
  · rw [fz_gi f (hK 8 _ (by omega) (by omega))]; exact CP_L h ht
  · rw [fz_gl f (hK 5 _ (by omega) (by omega))]; exact CP_N h ht
  · rw [fz_gi f (hK 4 _ (by omega) (by omega))]; exact CP_C h hr
  · rw [fz_gl f (hK 3 _ (by omega) (by omega))]; exact CP_M h hr
  · rw [fz_gi f (hK 9 _ (by omega) (by omega))]; exact CP_U h ht hr
theorem CP_8 {M M' : xM} {o p : Nat} {b : Nat → Int} (h : CP M p b) (f : fz (on8 o) M M') : CP M' p b := CP_fz h f (fun k s h1 h2 => on8_k (by omega))
theorem CP_21 {M M' : xM} {o p : Nat} {b : Nat → Int} (h : CP M p b) (f : fz (on21 o) M M') : CP M' p b := CP_fz h f (fun k s h1 h2 => on21_k (by omega))
/-- a plan that is being read: links up to task k -/
def wQ (b : Nat → Int) (k : Nat) : Prop := wN b ∧ (0 ≤ b 0 ∧ b 0 ≤ 3) ∧ (∀ r, r < nR b → 1 ≤ bC b r ∧ bC b r ≤ 9) ∧ (∀ t, t < nT b → (1 ≤ bD b t ∧ bD b t ≤ 30) ∧ (0 ≤ bE b t ∧ bE b t ≤ 99) ∧ ∀ r, r < nR b → 0 ≤ bU b t r ∧ bU b t r ≤ bC b r) ∧ ∀ f t, f < 12 → t < 12 → (b (172 + 12 * f + t) = 0 ∨ b (172 + 12 * f + t) = 1) ∧ (b (172 + 12 * f + t) = 1 → f < t ∧ t < k)
theorem wQ_F {b : Nat → Int} (h : wQ b (nT b)) (h1 : 1 ≤ nT b) (h2 : 1 ≤ nR b) : wF b := by
  obtain ⟨a1, a2, a3, a4, a5⟩ := h
  have eT := wN_T a1
  have eR := wN_R a1
  refine ⟨⟨⟨by omega, by omega⟩, ⟨by omega, by omega⟩, a2, fun t ht => (a4 t ht).1, fun t ht => (a4 t ht).2.1, fun t r ht hr => (a4 t ht).2.2 r hr, fun r hr => by have := a3 r hr; omega, acy_of (fun t => t) (fun f t hf ht q => ?_)⟩, fun f t hf ht => ⟨(a5 f t hf ht).1, fun q => by have := (a5 f t hf ht).2 q; omega⟩, a1.2.2.1, a1.2.2.2, fun r hr => (a3 r hr).2⟩
  exact ((a5 f t (by omega) (by omega)).2 (of_decide_eq_true q)).1
theorem ite_bt {α : Type} (a c : α) : (if bz true = 0 then a else c) = c := if_neg (by decide)
theorem ite_bf {α : Type} (a c : α) : (if bz false = 0 then a else c) = a := if_pos (by decide)
/-- a name that was put -/
def pnB (b : Nat → Int) (a : Nat) (B : Nat → Int) (f k : Nat) : Nat → Int := fun i => if i = a then (k : Int) else if a < i ∧ i ≤ a + k then B (f + (i - a - 1)) else b i
theorem pnB_h {b : Nat → Int} {a : Nat} {B : Nat → Int} {f k : Nat} : pnB b a B f k a = k := if_pos rfl
theorem pnB_i {b : Nat → Int} {a : Nat} {B : Nat → Int} {f k i : Nat} (h : i < k) : pnB b a B f k (a + 1 + i) = B (f + i) := by
  unfold pnB
  rw [if_neg (by omega), if_pos (by omega), show a + 1 + i - a - 1 = i by omega]
theorem pnB_n {b : Nat → Int} {a : Nat} {B : Nat → Int} {f k i : Nat} (h : i < a ∨ a + k < i) : pnB b a B f k i = b i := by
  unfold pnB
  rw [if_neg (by omega), if_neg (by omega)]
theorem nmB_pn {b B : Nat → Int} {a f k : Nat} (h1 : 1 ≤ k) (h2 : k ≤ 6) (hB : ∀ i, i < k → 97 ≤ B (f + i) ∧ B (f + i) ≤ 122) : nmB (pnB b a B f k) a := by
  refine ⟨by rw [pnB_h]; omega, fun i hi => ?_⟩
  rw [pnB_h] at hi
  rw [pnB_i (by omega)]
  exact hB i (by omega)
theorem pk_pn {b B : Nat → Int} {a f k : Nat} : pk (pnB b a B f k) a = pw B f k := by
  unfold pk pw
  rw [pnB_h]
  congr 1
  rw [show ((k : Int)).toNat = k by omega]
  exact pkN_congr (fun i hi => by rw [pnB_i hi])
theorem opE_at {B : Nat → Int} {n pos lit : Nat} {room : Bool} (h : atW B n pos lit = true) : opE B n pos lit room = if room = true then 0 else 5 := by
  unfold opE; rw [if_pos h]
theorem s_open1 {M : xM} {o : Nat} {B : Nat → Int} {n p lit : Nat} (h : CT M o B n p) (hl : lit < 4) : tkR o B n p M (m_T_takeOpening o lit 1 M) (opE B n p lit true) (fun _ => True) := s_opening h hl true
def rsB (b : Nat → Int) (B : Nat → Int) (f k : Nat) (v : Int) : Nat → Int := upI (upI (pnB b (4 + 8 * nR b) B f k) (11 + 8 * nR b) v) 1 (nR b + 1)
/-- all but task t's own row and the links to it is as it was -/
def agT (b0 b : Nat → Int) (t : Nat) : Prop := ∀ k, (k < 28 + 12 * t ∨ 172 ≤ k) → (∀ f, f < 12 → k ≠ 172 + 12 * f + t) → b k = b0 k
/-- task t, not yet counted: its row on both sides, demands below k -/
def IPT (M : xM) (p : Nat) (b0 b : Nat → Int) (t k : Nat) : Prop := agT b0 b t ∧ nmB b (28 + 12 * t) ∧ (1 ≤ bD b t ∧ bD b t ≤ 30) ∧ bE b t = 0 ∧ (∀ r, r < k → 0 ≤ bU b t r ∧ bU b t r ≤ bC b r) ∧ (∀ f, f < 12 → (b (172 + 12 * f + t) = 0 ∨ b (172 + 12 * f + t) = 1) ∧ (b (172 + 12 * f + t) = 1 → f < t)) ∧ (gl M 5 p t = pk b (28 + 12 * t) ∧ gi M 6 p t = zi (bD b t) ∧ gi M 7 p t = zi (bE b t) ∧ gi M 8 p t = mk (fun f => bL b f t)) ∧ ∀ r, r < k → gi M 9 p (3 * t + r) = zi (bU b t r)
theorem IPT_fz {K : Nat → Nat → Nat → Bool} {M M' : xM} {p t k : Nat} {b0 b : Nat → Int} (h : IPT M p b0 b t k) (f : fz K M M') (hK : ∀ k s, 2 ≤ k → k ≤ 9 → K k p s = false) : IPT M' p b0 b t k := by
  obtain ⟨h1, h2, h3, h4, h5, h6, ⟨h7, h8, h9, h10⟩, h11⟩ := h
  exact ⟨h1, h2, h3, h4, h5, h6, ⟨(fz_gl f (hK 5 _ (by omega) (by omega))).trans h7, (fz_gi f (hK 6 _ (by omega) (by omega))).trans h8, (fz_gi f (hK 7 _ (by omega) (by omega))).trans h9, (fz_gi f (hK 8 _ (by omega) (by omega))).trans h10⟩, fun r hr => (fz_gi f (hK 9 _ (by omega) (by omega))).trans (h11 r hr)⟩
theorem IPT_8 {M M' : xM} {o p t k : Nat} {b0 b : Nat → Int} (h : IPT M p b0 b t k) (f : fz (on8 o) M M') : IPT M' p b0 b t k := IPT_fz h f (fun k s h1 h2 => on8_k (by omega))
theorem agT_R {b0 b : Nat → Int} {t : Nat} (h : agT b0 b t) : nR b = nR b0 := by
  unfold nR; rw [h 1 (by omega) (fun f hf => by omega)]
theorem agT_T {b0 b : Nat → Int} {t : Nat} (h : agT b0 b t) : nT b = nT b0 := by
  unfold nT; rw [h 2 (by omega) (fun f hf => by omega)]
theorem agT_C {b0 b : Nat → Int} {t r : Nat} (h : agT b0 b t) (hr : r < 3) : bC b r = bC b0 r := by
  by_cases c : 11 + 8 * r < 28 + 12 * t
  · exact h _ (Or.inl c) (fun f hf => by omega)
  · omega
theorem agT_up {b0 b : Nat → Int} {t a : Nat} {v : Int} (h : agT b0 b t) (h1 : 28 + 12 * t ≤ a) (h2 : a < 172 ∨ ∃ f, f < 12 ∧ a = 172 + 12 * f + t) : agT b0 (upI b a v) t := fun k hk hf => by
  rw [upI_n (by
    rintro rfl
    rcases h2 with h2 | ⟨f, g1, g2⟩
    · omega
    · exact hf f g1 g2)]
  exact h k hk hf
theorem cnt_up {P Q : Nat → Bool} {n x : Nat} (hx : x < n) (h1 : P x = false) (h2 : ∀ i, i < n → Q i = (P i || (i == x))) : cnt Q n = cnt P n + 1 := by
  have : cnt Q n = cnt (addP P x) n := cnt_congr (fun i hi => h2 i hi)
  rw [this, cnt_addP hx h1]
def rwB (b : Nat → Int) (B : Nat → Int) (f k : Nat) (v : Int) : Nat → Int := upI (upI (pnB b (28 + 12 * nT b) B f k) (35 + 12 * nT b) v) (36 + 12 * nT b) 0
theorem done_task {M : xM} {p : Nat} {b0 b : Nat → Int} (hQ : wQ b0 (nT b0)) (ht2 : nT b0 < 12) (hP : CP M p b0) (hI : IPT M p b0 b (nT b0) (nR b0)) : CP (xst M 2 p 2 (.int (zi (nT b0 + 1 : Nat)))) p (upI b 2 (nT b0 + 1 : Nat)) ∧ wQ (upI b 2 (nT b0 + 1 : Nat)) (nT b0 + 1) ∧ nT (upI b 2 (nT b0 + 1 : Nat)) = nT b0 + 1 ∧ nR (upI b 2 (nT b0 + 1 : Nat)) = nR b0 := by
  have eR := wN_R hQ.1
  have eT := wN_T hQ.1
  obtain ⟨ag, h2, h3, h4, h5, h6, ⟨h7, h8, h9, h10⟩, h11⟩ := hI
  have eTn : nT (upI b 2 (nT b0 + 1 : Nat)) = nT b0 + 1 := by
    show (upI b 2 ((nT b0 + 1 : Nat) : Int) 2).toNat = _
    rw [upI_h]; omega
  have eRn : nR (upI b 2 (nT b0 + 1 : Nat)) = nR b0 := by rw [up_R (by omega), agT_R ag]
  have old : ∀ k, k ≠ 2 → (k < 28 + 12 * nT b0 ∨ 172 ≤ k) → (∀ f, f < 12 → k ≠ 172 + 12 * f + nT b0) → upI b 2 (nT b0 + 1 : Nat) k = b0 k := fun k hk h hf => by
    rw [upI_n hk]; exact ag k h hf
  have oD : ∀ s, s < nT b0 → bD (upI b 2 (nT b0 + 1 : Nat)) s = bD b0 s := fun s hs => old _ (by omega) (by omega) (fun f hf => by omega)
  have oE : ∀ s, s < nT b0 → bE (upI b 2 (nT b0 + 1 : Nat)) s = bE b0 s := fun s hs => old _ (by omega) (by omega) (fun f hf => by omega)
  have oU : ∀ s r, s < nT b0 → r < 3 → bU (upI b 2 (nT b0 + 1 : Nat)) s r = bU b0 s r := fun s r hs hr => old _ (by omega) (by omega) (fun f hf => by omega)
  have oC : ∀ r, r < nR b0 → bC (upI b 2 (nT b0 + 1 : Nat)) r = bC b0 r := fun r hr => old _ (by omega) (by omega) (fun f hf => by omega)
  have oL : ∀ f s, f < 12 → s < 12 → s ≠ nT b0 → upI b 2 (nT b0 + 1 : Nat) (172 + 12 * f + s) = b0 (172 + 12 * f + s) := fun f s hf hs hn => old _ (by omega) (by omega) (fun g hg => by omega)
  refine ⟨⟨⟨by rw [eTn]; omega, by rw [eRn]; omega⟩, ⟨?_, ?_, ?_⟩, fun s hs => ?_, fun r hr => ?_, fun s r hs hr => ?_⟩, ⟨⟨?_, ?_, fun s hs => ?_, fun r hr => ?_⟩, ?_, fun r hr => ?_, fun s hs => ?_, fun f s hf hs => ?_⟩, eTn, eRn⟩
  · rw [gi_s (by decide), old 0 (by omega) (by omega) (fun f hf => by omega)]; exact CP_0 hP
  · rw [gi_s (by decide), eRn]; exact CP_R hP
  · rw [gi_h, eTn]
  · rw [eTn] at hs
    rw [gi_k (by decide : 6 ≠ 2), gi_k (by decide : 7 ≠ 2), gi_k (by decide : 8 ≠ 2), gl_k (by decide)]
    by_cases e : s = nT b0
    · subst e
      rw [up_D (by omega), up_E (by omega)]
      refine ⟨h8, h9, ?_, ?_⟩
      · rw [h10]; exact mk_ext (fun f hf => (up_L (by omega)).symm)
      · rw [h7]
        have := h2.1
        exact (pk_congr (upI_n (by omega)) (fun k hk => upI_n (by omega))).symm
    · have hs' : s < nT b0 := by omega
      rw [oD s hs', oE s hs']
      refine ⟨CP_D hP hs', CP_E hP hs', ?_, ?_⟩
      · rw [CP_L hP hs']
        refine mk_ext (fun f hf => ?_)
        unfold bL
        rw [oL f s hf (by omega) e]
      · rw [CP_N hP hs']
        have := (hQ.1.2.2.1 s hs').1
        exact (pk_congr (old _ (by omega) (by omega) (fun f hf => by omega)) (fun k hk => old _ (by omega) (by omega) (fun f hf => by omega))).symm
  · rw [eRn] at hr
    rw [gi_k (by decide), gl_k (by decide), oC r hr]
    refine ⟨CP_C hP hr, ?_⟩
    rw [CP_M hP hr]
    have := (hQ.1.2.2.2 r hr).1
    exact (pk_congr (old _ (by omega) (by omega) (fun f hf => by omega)) (fun k hk => old _ (by omega) (by omega) (fun f hf => by omega))).symm
  · rw [eTn] at hs
    rw [eRn] at hr
    rw [gi_k (by decide)]
    by_cases e : s = nT b0
    · subst e
      rw [up_U (by omega)]; exact h11 r hr
    · rw [oU s r (by omega) (by omega)]; exact CP_U hP (by omega) hr
  · rw [upI_h]; omega
  · rw [old 1 (by omega) (by omega) (fun f hf => by omega)]; exact hQ.1.2.1
  · rw [eTn] at hs
    by_cases e : s = nT b0
    · subst e
      exact nmB_congr h2 (upI_n (by omega)) (fun k hk => upI_n (by omega))
    · exact nmB_congr (hQ.1.2.2.1 s (by omega)) (old _ (by omega) (by omega) (fun f hf => by omega)) (fun k hk => old _ (by omega) (by omega) (fun f hf => by omega))
  · rw [eRn] at hr
    exact nmB_congr (hQ.1.2.2.2 r hr) (old _ (by omega) (by omega) (fun f hf => by omega)) (fun k hk => old _ (by omega) (by omega) (fun f hf => by omega))
  · rw [old 0 (by omega) (by omega) (fun f hf => by omega)]; exact hQ.2.1
  · rw [eRn] at hr
    rw [oC r hr]; exact hQ.2.2.1 r hr
  · rw [eTn] at hs
    by_cases e : s = nT b0
    · subst e
      rw [up_D (by omega), up_E (by omega), h4]
      refine ⟨h3, by omega, fun r hr => ?_⟩
      rw [eRn] at hr
      rw [up_U (by omega), up_C (by omega)]; exact h5 r hr
    · rw [oD s (by omega), oE s (by omega)]
      have hh := hQ.2.2.2.1 s (by omega)
      refine ⟨hh.1, hh.2.1, fun r hr => ?_⟩
      rw [eRn] at hr
      rw [oU s r (by omega) (by omega), oC r hr]; exact hh.2.2 r hr
  · by_cases e : s = nT b0
    · subst e
      rw [upI_n (by omega)]
      exact ⟨(h6 f hf).1, fun q => ⟨(h6 f hf).2 q, by omega⟩⟩
    · rw [oL f s hf hs e]
      have hh := hQ.2.2.2.2 f s hf hs
      exact ⟨hh.1, fun q => ⟨(hh.2 q).1, by have := (hh.2 q).2; omega⟩⟩
theorem s_open {M : xM} {o : Nat} {B : Nat → Int} {n : Nat} (hI : IN M o B n) (hK : KC M) : ∃ M1, m_T_open o M = rV M1 ∧ fz (on21 o) M M1 ∧ CT M1 o B n 0 ∧ gi M1 21 o 8 = zi 0 ∧ gi M1 21 o 9 = zi (-1) := by
  have f0 : fz (on21 o) M (xst (xst (xst M 21 o 8 (.int 0)) 21 o 9 (.int (-1))) 21 o 2 (.int 0)) := fz_step (fz_step (fz_st on21_t) on21_t) on21_t
  obtain ⟨M1, e1, f1, t1⟩ := s_advance (IN_21 hI f0) (p := 0) (Nat.zero_le _) (gi_h _ _ _ _ _)
  rw [e_m_T_open, e1, xbV_r]
  refine ⟨M1, rfl, fz_trans f0 (onT_21 f1), ⟨IN_21 hI (fz_trans f0 (onT_21 f1)), t1, KC_21 hK (fz_trans f0 (onT_21 f1))⟩, ?_, ?_⟩
  · rw [fz_gi f1 (onT_s (by decide)), gi_s (by decide), gi_s (by decide), gi_h]; rfl
  · rw [fz_gi f1 (onT_s (by decide)), gi_s (by decide), gi_h]; rfl
theorem atW_0 {B : Nat → Int} {n pos lit : Nat} (h : tT B n pos ≠ 0) : atW B n pos lit = false := by
  unfold atW
  rw [decide_eq_false h, Bool.false_and]
theorem tk_ok {o : Nat} {B : Nat → Int} {n p : Nat} {M : xM} {r : xR} {E : Nat} {Q : xM → Prop} (h : tkR o B n p M r E Q) (hE : E = 0) : ∃ M', r = rI (bz true) M' ∧ fz (on8 o) M M' ∧ CT M' o B n (tE B n p) ∧ Q M' := by
  subst hE
  obtain ⟨M', e, f, g, _⟩ := h
  obtain ⟨a, c, d⟩ := g rfl
  exact ⟨M', e, a, c, d⟩
