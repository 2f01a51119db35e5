/-! the class's half of the part 47 of the proof of whole (wip/p65/mkhalf.py) -/
/-- a name: 1 to 6 small letters -/
def nmB (b : Nat → Int) (a : Nat) : Prop := (1 ≤ b a ∧ b a ≤ 6) ∧ ∀ k, k < (b a).toNat → 97 ≤ b (a + 1 + k) ∧ b (a + 1 + k) ≤ 122
/-- a plan as it can be -/
def wF (b : Nat → Int) : Prop := wS b ∧ wL b ∧ (∀ t, t < nT b → nmB b (28 + 12 * t)) ∧ (∀ r, r < nR b → nmB b (4 + 8 * r)) ∧ (∀ r, r < nR b → bC b r ≤ 9)
theorem wF_S {b : Nat → Int} (h : wF b) : wS b := h.1
theorem wF_L {b : Nat → Int} (h : wF b) : wL b := h.2.1
theorem upI_h (b : Nat → Int) (k : Nat) (v : Int) : upI b k v k = v := if_pos rfl
theorem upI_n {b : Nat → Int} {k : Nat} {v : Int} {i : Nat} (h : i ≠ k) : upI b k v i = b i := if_neg h
theorem pkN_congr {g h : Nat → Nat} {n : Nat} (e : ∀ i, i < n → g i = h i) : pkN g n = pkN h n := by
  induction n with
  | zero => rfl
  | succ n ih =>
    show pkN g n + g n * 256 ^ n = pkN h n + h n * 256 ^ n
    rw [ih (fun i hi => e i (by omega)), e n (by omega)]
theorem pk_congr {b b' : Nat → Int} {a a' : Nat} (h0 : b' a' = b a) (h : ∀ k, k < (b a).toNat → b' (a' + 1 + k) = b (a + 1 + k)) : pk b' a' = pk b a := by
  unfold pk
  rw [h0]
  congr 1
  exact pkN_congr (fun i hi => by rw [h i hi])
theorem nmB_congr {b b' : Nat → Int} {a a' : Nat} (hn : nmB b a) (h0 : b' a' = b a) (h : ∀ k, k < 6 → b' (a' + 1 + k) = b (a + 1 + k)) : nmB b' a' := by
  obtain ⟨⟨h1, h2⟩, h3⟩ := hn
  refine ⟨by rw [h0]; exact ⟨h1, h2⟩, fun k hk => ?_⟩
  rw [h0] at hk
  rw [h k (by omega)]
  exact h3 k hk
/-- a plan of which b says the same -/
theorem CP_ext {M M' : xM} {p p' : Nat} {b b' : Nat → Int} (h : CP M p b) (hm : (∀ t, t < nT b' → t < nT b) ∧ nR b' = nR b ∧ nT b' ≤ 12) (h0 : gi M' 2 p' 0 = zi (b' 0) ∧ gi M' 2 p' 1 = zi (nR b') ∧ gi M' 2 p' 2 = zi (nT b')) (hD : ∀ t, t < nT b' → gi M' 6 p' t = zi (bD b' t) ∧ gi M' 7 p' t = zi (bE b' t) ∧ gi M' 8 p' t = mk (fun f => bL b' f t) ∧ gl M' 5 p' t = pk b' (28 + 12 * t)) (hR : ∀ r, r < nR b' → gi M' 4 p' r = zi (bC b' r) ∧ gl M' 3 p' r = pk b' (4 + 8 * r)) (hU : ∀ t r, t < nT b' → r < nR b' → gi M' 9 p' (3 * t + r) = zi (bU b' t r)) : CP M' p' b' :=
  ⟨⟨hm.2.2, by rw [hm.2.1]; exact h.1.2⟩, h0, hD, hR, hU⟩
theorem up_T {b : Nat → Int} {k : Nat} {v : Int} (h : k ≠ 2) : nT (upI b k v) = nT b := by
  unfold nT; rw [upI_n (by omega)]
theorem up_R {b : Nat → Int} {k : Nat} {v : Int} (h : k ≠ 1) : nR (upI b k v) = nR b := by
  unfold nR; rw [upI_n (by omega)]
theorem up_D {b : Nat → Int} {k : Nat} {v : Int} {t : Nat} (h : k ≠ 35 + 12 * t) : bD (upI b k v) t = bD b t := upI_n (by omega)
theorem up_E {b : Nat → Int} {k : Nat} {v : Int} {t : Nat} (h : k ≠ 36 + 12 * t) : bE (upI b k v) t = bE b t := upI_n (by omega)
theorem up_U {b : Nat → Int} {k : Nat} {v : Int} {t r : Nat} (h : k ≠ 37 + 12 * t + r) : bU (upI b k v) t r = bU b t r := upI_n (by omega)
theorem up_C {b : Nat → Int} {k : Nat} {v : Int} {r : Nat} (h : k ≠ 11 + 8 * r) : bC (upI b k v) r = bC b r := upI_n (by omega)
theorem up_L {b : Nat → Int} {k : Nat} {v : Int} {f t : Nat} (h : k ≠ 172 + 12 * f + t) : bL (upI b k v) f t = bL b f t := by
  unfold bL; rw [upI_n (by omega)]
theorem up_pkT {b : Nat → Int} (hw : wF b) {k : Nat} {v : Int} {t : Nat} (ht : t < nT b) (h : k < 28 + 12 * t ∨ 34 + 12 * t < k) : pk (upI b k v) (28 + 12 * t) = pk b (28 + 12 * t) := by
  have := (hw.2.2.1 t ht).1
  exact pk_congr (upI_n (by omega)) (fun i hi => upI_n (by omega))
theorem up_pkR {b : Nat → Int} (hw : wF b) {k : Nat} {v : Int} {r : Nat} (hr : r < nR b) (h : k < 4 + 8 * r ∨ 10 + 8 * r < k) : pk (upI b k v) (4 + 8 * r) = pk b (4 + 8 * r) := by
  have := (hw.2.2.2.1 r hr).1
  exact pk_congr (upI_n (by omega)) (fun i hi => upI_n (by omega))
theorem up_nmT {b : Nat → Int} (hw : wF b) {k : Nat} {v : Int} {t : Nat} (ht : t < nT b) (h : k < 28 + 12 * t ∨ 34 + 12 * t < k) : nmB (upI b k v) (28 + 12 * t) := nmB_congr (hw.2.2.1 t ht) (upI_n (by omega)) (fun i hi => upI_n (by omega))
theorem up_nmR {b : Nat → Int} (hw : wF b) {k : Nat} {v : Int} {r : Nat} (hr : r < nR b) (h : k < 4 + 8 * r ∨ 10 + 8 * r < k) : nmB (upI b k v) (4 + 8 * r) := nmB_congr (hw.2.2.2.1 r hr) (upI_n (by omega)) (fun i hi => upI_n (by omega))
theorem acy_congr {n : Nat} {L L' : Nat → Nat → Bool} (h : acy n L) (e : ∀ f t, f < n → t < n → L' f t = true → L f t = true) : acy n L' := by
  obtain ⟨rk, h1, h2⟩ := h
  exact ⟨rk, h1, fun f t hf ht q => h2 f t hf ht (e f t hf ht q)⟩
/-- a change that leaves the links -/
theorem wF_up {b : Nat → Int} (hw : wF b) {k : Nat} {v : Int} (hk2 : k ≠ 1 ∧ k ≠ 2) (hk : k < 172) (h0 : k = 0 → 0 ≤ v ∧ v ≤ 3) (hT : ∀ t, t < nT b → k < 28 + 12 * t ∨ 34 + 12 * t < k) (hR : ∀ r, r < nR b → k < 4 + 8 * r ∨ 10 + 8 * r < k) (hD : ∀ t, t < nT b → k = 35 + 12 * t → 1 ≤ v ∧ v ≤ 30) (hE : ∀ t, t < nT b → k = 36 + 12 * t → 0 ≤ v ∧ v ≤ 99) (hU : ∀ t r, t < nT b → r < nR b → k = 37 + 12 * t + r → 0 ≤ v ∧ v ≤ bC b r) (hC : ∀ r, r < nR b → k = 11 + 8 * r → 1 ≤ v ∧ v ≤ 9 ∧ ∀ t, t < nT b → bU b t r ≤ v) : wF (upI b k v) := by
  obtain ⟨⟨a1, a2, a3, a4, a5, a6, a7, a8⟩, w2, w3, w4, w5⟩ := hw
  have eT : nT (upI b k v) = nT b := up_T (by omega)
  have eR : nR (upI b k v) = nR b := up_R (by omega)
  have nt : nT b ≤ 12 := by unfold nT; omega
  have nr : nR b ≤ 3 := by unfold nR; omega
  have hCr : ∀ r, r < nR b → (bC (upI b k v) r = bC b r ∧ k ≠ 11 + 8 * r) ∨ (k = 11 + 8 * r ∧ bC (upI b k v) r = v) := fun r hr => by
    by_cases e : k = 11 + 8 * r
    · exact Or.inr ⟨e, by rw [e]; exact upI_h _ _ _⟩
    · exact Or.inl ⟨up_C e, e⟩
  refine ⟨⟨by rw [upI_n (by omega)]; exact a1, by rw [upI_n (by omega)]; exact a2, ?_, fun t ht => ?_, fun t ht => ?_, fun t r ht hr => ?_, fun r hr => ?_, ?_⟩, fun f t hf ht => ?_, fun t ht => ?_, fun r hr => ?_, fun r hr => ?_⟩
  · by_cases e : k = 0
    · rw [e, upI_h]; exact h0 e
    · rw [upI_n (by omega)]; exact a3
  · rw [eT] at ht
    by_cases e : k = 35 + 12 * t
    · have : bD (upI b k v) t = v := by rw [e]; exact upI_h _ _ _
      rw [this]; exact hD t ht e
    · rw [up_D e]; exact a4 t ht
  · rw [eT] at ht
    by_cases e : k = 36 + 12 * t
    · have : bE (upI b k v) t = v := by rw [e]; exact upI_h _ _ _
      rw [this]; exact hE t ht e
    · rw [up_E e]; exact a5 t ht
  · rw [eT] at ht
    rw [eR] at hr
    have h6 := a6 t r ht hr
    rcases hCr r hr with ⟨c1, c2⟩ | ⟨c1, c2⟩
    · rw [c1]
      by_cases e : k = 37 + 12 * t + r
      · have : bU (upI b k v) t r = v := by rw [e]; exact upI_h _ _ _
        rw [this]; exact hU t r ht hr e
      · rw [up_U e]; exact h6
    · rw [c2, up_U (by omega)]
      exact ⟨h6.1, (hC r hr c1).2.2 t ht⟩
  · rw [eR] at hr
    have h7 := a7 r hr
    rcases hCr r hr with ⟨c1, c2⟩ | ⟨c1, c2⟩
    · rw [c1]; exact h7
    · rw [c2]
      have := hC r hr c1
      omega
  · rw [eT]
    exact acy_congr a8 (fun f t hf ht q => by rw [up_L (by omega)] at q; exact q)
  · rw [eT, upI_n (by omega)]
    exact w2 f t hf ht
  · rw [eT] at ht
    exact up_nmT ⟨⟨a1, a2, a3, a4, a5, a6, a7, a8⟩, w2, w3, w4, w5⟩ ht (hT t ht)
  · rw [eR] at hr
    exact up_nmR ⟨⟨a1, a2, a3, a4, a5, a6, a7, a8⟩, w2, w3, w4, w5⟩ hr (hR r hr)
  · rw [eR] at hr
    rcases hCr r hr with ⟨c1, c2⟩ | ⟨c1, c2⟩
    · rw [c1]; exact w5 r hr
    · rw [c2]; exact (hC r hr c1).2.1
theorem CP_upD {M : xM} {p : Nat} {b : Nat → Int} (h : CP M p b) (hw : wF b) {t : Nat} (ht : t < nT b) (v : Int) : CP (xst M 6 p t (.int (zi v))) p (upI b (35 + 12 * t) v) := by
  have hn := CP_n h
  have hr := CP_r h
  refine CP_ext h ⟨fun t q => by rw [up_T (by omega)] at q; exact q, up_R (by omega), by rw [up_T (by omega)]; exact hn⟩ ⟨?_, ?_, ?_⟩ (fun s hs => ?_) (fun r hr2 => ?_) (fun s r hs hr2 => ?_)
  · rw [gi_k (by decide), upI_n (by omega)]; exact CP_0 h
  · rw [gi_k (by decide), up_R (by omega)]; exact CP_R h
  · rw [gi_k (by decide), up_T (by omega)]; exact CP_T h
  · rw [up_T (by omega)] at hs
    rw [gi_k (by decide : 7 ≠ 6), gi_k (by decide : 8 ≠ 6), gl_k (by decide : 5 ≠ 6), up_E (by omega), up_pkT hw hs (by omega)]
    refine ⟨?_, CP_E h hs, ?_, CP_N h hs⟩
    · by_cases e : s = t
      · subst e; rw [gi_h]; congr 1; symm; exact upI_h _ _ _
      · rw [gi_s e, up_D (by omega)]; exact CP_D h hs
    · rw [CP_L h hs]; exact mk_ext (fun f hf => (up_L (by omega)).symm)
  · rw [up_R (by omega)] at hr2
    rw [gi_k (by decide), gl_k (by decide), up_C (by omega), up_pkR hw hr2 (by omega)]
    exact ⟨CP_C h hr2, CP_M h hr2⟩
  · rw [up_T (by omega)] at hs
    rw [up_R (by omega)] at hr2
    rw [gi_k (by decide), up_U (by omega)]; exact CP_U h hs hr2
theorem CP_upE {M : xM} {p : Nat} {b : Nat → Int} (h : CP M p b) (hw : wF b) {t : Nat} (ht : t < nT b) (v : Int) : CP (xst M 7 p t (.int (zi v))) p (upI b (36 + 12 * t) v) := by
  have hn := CP_n h
  have hr := CP_r h
  refine CP_ext h ⟨fun t q => by rw [up_T (by omega)] at q; exact q, up_R (by omega), by rw [up_T (by omega)]; exact hn⟩ ⟨?_, ?_, ?_⟩ (fun s hs => ?_) (fun r hr2 => ?_) (fun s r hs hr2 => ?_)
  · rw [gi_k (by decide), upI_n (by omega)]; exact CP_0 h
  · rw [gi_k (by decide), up_R (by omega)]; exact CP_R h
  · rw [gi_k (by decide), up_T (by omega)]; exact CP_T h
  · rw [up_T (by omega)] at hs
    rw [gi_k (by decide : 6 ≠ 7), gi_k (by decide : 8 ≠ 7), gl_k (by decide : 5 ≠ 7), up_D (by omega), up_pkT hw hs (by omega)]
    refine ⟨CP_D h hs, ?_, ?_, CP_N h hs⟩
    · by_cases e : s = t
      · subst e; rw [gi_h]; congr 1; symm; exact upI_h _ _ _
      · rw [gi_s e, up_E (by omega)]; exact CP_E h hs
    · rw [CP_L h hs]; exact mk_ext (fun f hf => (up_L (by omega)).symm)
  · rw [up_R (by omega)] at hr2
    rw [gi_k (by decide), gl_k (by decide), up_C (by omega), up_pkR hw hr2 (by omega)]
    exact ⟨CP_C h hr2, CP_M h hr2⟩
  · rw [up_T (by omega)] at hs
    rw [up_R (by omega)] at hr2
    rw [gi_k (by decide), up_U (by omega)]; exact CP_U h hs hr2
theorem CP_upU {M : xM} {p : Nat} {b : Nat → Int} (h : CP M p b) (hw : wF b) {t r : Nat} (ht : t < nT b) (hr0 : r < nR b) (v : Int) : CP (xst M 9 p (3 * t + r) (.int (zi v))) p (upI b (37 + 12 * t + r) v) := by
  have hn := CP_n h
  have hr := CP_r h
  refine CP_ext h ⟨fun t q => by rw [up_T (by omega)] at q; exact q, up_R (by omega), by rw [up_T (by omega)]; exact hn⟩ ⟨?_, ?_, ?_⟩ (fun s hs => ?_) (fun r2 hr2 => ?_) (fun s r2 hs hr2 => ?_)
  · rw [gi_k (by decide), upI_n (by omega)]; exact CP_0 h
  · rw [gi_k (by decide), up_R (by omega)]; exact CP_R h
  · rw [gi_k (by decide), up_T (by omega)]; exact CP_T h
  · rw [up_T (by omega)] at hs
    rw [gi_k (by decide : 6 ≠ 9), gi_k (by decide : 7 ≠ 9), gi_k (by decide : 8 ≠ 9), gl_k (by decide : 5 ≠ 9), up_D (by omega), up_E (by omega), up_pkT hw hs (by omega)]
    refine ⟨CP_D h hs, CP_E h hs, ?_, CP_N h hs⟩
    rw [CP_L h hs]; exact mk_ext (fun f hf => (up_L (by omega)).symm)
  · rw [up_R (by omega)] at hr2
    rw [gi_k (by decide), gl_k (by decide), up_C (by omega), up_pkR hw hr2 (by omega)]
    exact ⟨CP_C h hr2, CP_M h hr2⟩
  · rw [up_T (by omega)] at hs
    rw [up_R (by omega)] at hr2
    by_cases e : 3 * s + r2 = 3 * t + r
    · have e1 : s = t := by omega
      have e2 : r2 = r := by omega
      subst e1 e2
      rw [gi_h]; congr 1; symm; exact upI_h _ _ _
    · rw [gi_s e, up_U (by omega)]; exact CP_U h hs hr2
theorem CP_upC {M : xM} {p : Nat} {b : Nat → Int} (h : CP M p b) (hw : wF b) {r : Nat} (hr0 : r < nR b) (v : Int) : CP (xst M 4 p r (.int (zi v))) p (upI b (11 + 8 * r) v) := by
  have hn := CP_n h
  have hr := CP_r h
  refine CP_ext h ⟨fun t q => by rw [up_T (by omega)] at q; exact q, up_R (by omega), by rw [up_T (by omega)]; exact hn⟩ ⟨?_, ?_, ?_⟩ (fun s hs => ?_) (fun r2 hr2 => ?_) (fun s r2 hs hr2 => ?_)
  · rw [gi_k (by decide), upI_n (by omega)]; exact CP_0 h
  · rw [gi_k (by decide), up_R (by omega)]; exact CP_R h
  · rw [gi_k (by decide), up_T (by omega)]; exact CP_T h
  · rw [up_T (by omega)] at hs
    rw [gi_k (by decide : 6 ≠ 4), gi_k (by decide : 7 ≠ 4), gi_k (by decide : 8 ≠ 4), gl_k (by decide : 5 ≠ 4), up_D (by omega), up_E (by omega), up_pkT hw hs (by omega)]
    refine ⟨CP_D h hs, CP_E h hs, ?_, CP_N h hs⟩
    rw [CP_L h hs]; exact mk_ext (fun f hf => (up_L (by omega)).symm)
  · rw [up_R (by omega)] at hr2
    rw [gl_k (by decide), up_pkR hw hr2 (by omega)]
    refine ⟨?_, CP_M h hr2⟩
    by_cases e : r2 = r
    · subst e; rw [gi_h]; congr 1; symm; exact upI_h _ _ _
    · rw [gi_s e, up_C (by omega)]; exact CP_C h hr2
  · rw [up_T (by omega)] at hs
    rw [up_R (by omega)] at hr2
    rw [gi_k (by decide), up_U (by omega)]; exact CP_U h hs hr2
theorem CP_up0 {M : xM} {p : Nat} {b : Nat → Int} (h : CP M p b) (hw : wF b) (v : Int) : CP (xst M 2 p 0 (.int (zi v))) p (upI b 0 v) := by
  have hn := CP_n h
  have hr := CP_r h
  refine CP_ext h ⟨fun t q => by rw [up_T (by omega)] at q; exact q, up_R (by omega), by rw [up_T (by omega)]; exact hn⟩ ⟨?_, ?_, ?_⟩ (fun s hs => ?_) (fun r2 hr2 => ?_) (fun s r2 hs hr2 => ?_)
  · rw [gi_h, upI_h]
  · rw [gi_s (by decide), up_R (by omega)]; exact CP_R h
  · rw [gi_s (by decide), up_T (by omega)]; exact CP_T h
  · rw [up_T (by omega)] at hs
    rw [gi_k (by decide : 6 ≠ 2), gi_k (by decide : 7 ≠ 2), gi_k (by decide : 8 ≠ 2), gl_k (by decide : 5 ≠ 2), up_D (by omega), up_E (by omega), up_pkT hw hs (by omega)]
    refine ⟨CP_D h hs, CP_E h hs, ?_, CP_N h hs⟩
    rw [CP_L h hs]; exact mk_ext (fun f hf => (up_L (by omega)).symm)
  · rw [up_R (by omega)] at hr2
    rw [gi_k (by decide), gl_k (by decide), up_C (by omega), up_pkR hw hr2 (by omega)]
    exact ⟨CP_C h hr2, CP_M h hr2⟩
  · rw [up_T (by omega)] at hs
    rw [up_R (by omega)] at hr2
    rw [gi_k (by decide), up_U (by omega)]; exact CP_U h hs hr2
theorem CP_upL {M : xM} {p : Nat} {b : Nat → Int} (h : CP M p b) (hw : wF b) {f t : Nat} (hf : f < 12) (ht : t < nT b) (c : Bool) : CP (xst M 8 p t (.int (mk (fun g => if g = f then c else bL b g t)))) p (upI b (172 + 12 * f + t) (if c = true then 1 else 0)) := by
  have hn := CP_n h
  have hr := CP_r h
  refine CP_ext h ⟨fun t q => by rw [up_T (by omega)] at q; exact q, up_R (by omega), by rw [up_T (by omega)]; exact hn⟩ ⟨?_, ?_, ?_⟩ (fun s hs => ?_) (fun r2 hr2 => ?_) (fun s r2 hs hr2 => ?_)
  · rw [gi_k (by decide), upI_n (by omega)]; exact CP_0 h
  · rw [gi_k (by decide), up_R (by omega)]; exact CP_R h
  · rw [gi_k (by decide), up_T (by omega)]; exact CP_T h
  · rw [up_T (by omega)] at hs
    rw [gi_k (by decide : 6 ≠ 8), gi_k (by decide : 7 ≠ 8), gl_k (by decide : 5 ≠ 8), up_D (by omega), up_E (by omega), up_pkT hw hs (by omega)]
    refine ⟨CP_D h hs, CP_E h hs, ?_, CP_N h hs⟩
    by_cases e : s = t
    · subst e
      rw [gi_h]
      refine mk_ext (fun g hg => ?_)
      by_cases e2 : g = f
      · subst e2
        rw [if_pos rfl]
        show _ = decide (upI _ _ _ _ = 1)
        rw [upI_h]
        cases c <;> rfl
      · rw [if_neg e2]
        exact (up_L (by omega)).symm
    · rw [gi_s e, CP_L h hs]
      exact mk_ext (fun g hg => (up_L (by omega)).symm)
  · rw [up_R (by omega)] at hr2
    rw [gi_k (by decide), gl_k (by decide), up_C (by omega), up_pkR hw hr2 (by omega)]
    exact ⟨CP_C h hr2, CP_M h hr2⟩
  · rw [up_T (by omega)] at hs
    rw [up_R (by omega)] at hr2
    rw [gi_k (by decide), up_U (by omega)]; exact CP_U h hs hr2
/-- a link that comes or goes -/
theorem wF_upL {b : Nat → Int} (hw : wF b) {f t : Nat} (hf : f < nT b) (ht : t < nT b) (c : Bool) (hc : c = true → dF (nT b) (bL b) t (nT b) f = -1) : wF (upI b (172 + 12 * f + t) (if c = true then 1 else 0)) := by
  obtain ⟨⟨a1, a2, a3, a4, a5, a6, a7, a8⟩, w2, w3, w4, w5⟩ := hw
  have nt : nT b ≤ 12 := by unfold nT; omega
  have nr : nR b ≤ 3 := by unfold nR; omega
  have hw : wF b := ⟨⟨a1, a2, a3, a4, a5, a6, a7, a8⟩, w2, w3, w4, w5⟩
  have eT : nT (upI b (172 + 12 * f + t) (if c = true then 1 else 0)) = nT b := up_T (by omega)
  have eR : nR (upI b (172 + 12 * f + t) (if c = true then 1 else 0)) = nR b := up_R (by omega)
  refine ⟨⟨by rw [upI_n (by omega)]; exact a1, by rw [upI_n (by omega)]; exact a2, by rw [upI_n (by omega)]; exact a3, fun s hs => ?_, fun s hs => ?_, fun s r hs hr => ?_, fun r hr => ?_, ?_⟩, fun g s hg hs => ?_, fun s hs => ?_, fun r hr => ?_, fun r hr => ?_⟩
  · rw [eT] at hs; rw [up_D (by omega)]; exact a4 s hs
  · rw [eT] at hs; rw [up_E (by omega)]; exact a5 s hs
  · rw [eT] at hs; rw [eR] at hr; rw [up_U (by omega), up_C (by omega)]; exact a6 s r hs hr
  · rw [eR] at hr; rw [up_C (by omega)]; exact a7 r hr
  · rw [eT]
    cases c with
    | false =>
      refine acy_congr a8 (fun g s hg hs q => ?_)
      by_cases e : 172 + 12 * g + s = 172 + 12 * f + t
      · unfold bL at q
        rw [e, upI_h] at q
        exact absurd q (by decide)
      · rw [up_L (by omega)] at q; exact q
    | true =>
      have hr : rch (nT b) (bL b) t (nT b) f = false := by
        rcases dF_rch (n := nT b) (L := bL b) (a := t) (nT b) f with ⟨_, h⟩ | ⟨j, _, h, _⟩
        · exact h
        · have := hc rfl; omega
      refine acy_congr (acy_add a8 hf ht hr) (fun g s hg hs q => ?_)
      rw [Bool.or_eq_true]
      by_cases e : 172 + 12 * g + s = 172 + 12 * f + t
      · right
        have e1 : g = f := by omega
        have e2 : s = t := by omega
        rw [e1, e2]; simp
      · left
        rw [up_L (by omega)] at q; exact q
  · rw [eT]
    by_cases e : 172 + 12 * g + s = 172 + 12 * f + t
    · rw [e, upI_h]
      have e1 : g = f := by omega
      have e2 : s = t := by omega
      refine ⟨?_, fun _ => by omega⟩
      cases c
      · exact Or.inl rfl
      · exact Or.inr rfl
    · rw [upI_n e]; exact w2 g s hg hs
  · rw [eT] at hs; exact up_nmT hw hs (by omega)
  · rw [eR] at hr; exact up_nmR hw hr (by omega)
  · rw [eR] at hr; rw [up_C (by omega)]; exact w5 r hr
