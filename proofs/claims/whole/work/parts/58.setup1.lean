/-! the setup text: both readers, side by side -/
def onPz (p k o : Nat) (_ : Nat) : Bool := (Nat.ble 2 k && Nat.ble k 9) && Nat.beq o p
theorem onPz_t {p k s : Nat} (h1 : 2 ≤ k) (h2 : k ≤ 9) : onPz p k p s = true := by
  unfold onPz
  rw [Nat.ble_eq_true_of_le h1, Nat.ble_eq_true_of_le h2]
  exact Nat.beq_refl p
theorem onPz_k {p k o s : Nat} (h : k < 2 ∨ 9 < k) : onPz p k o s = false := by
  unfold onPz
  cases h1 : Nat.ble 2 k with
  | false => rfl
  | true =>
    cases h2 : Nat.ble k 9 with
    | false => rfl
    | true =>
      have := Nat.le_of_ble_eq_true h1
      have := Nat.le_of_ble_eq_true h2
      omega
def onC (o p k o' s : Nat) : Bool := on21 o k o' s || onPz p k o' s
theorem onC_21 {o p : Nat} {M M' : xM} (f : fz (on21 o) M M') : fz (onC o p) M M' := fz_mono (fun k o' s h => by unfold onC; rw [h]; rfl) f
theorem onC_P {o p : Nat} {M M' : xM} (f : fz (onPz p) M M') : fz (onC o p) M M' := fz_mono (fun k o' s h => by unfold onC; rw [h, Bool.or_true]) f
/-- .. but the error -/
def onC8 (o p k o' s : Nat) : Bool := on8 o k o' s || onPz p k o' s
theorem onC_8 {o p : Nat} {M M' : xM} (f : fz (on8 o) M M') : fz (onC8 o p) M M' := fz_mono (fun k o' s h => by unfold onC8; rw [h]; rfl) f
theorem onC8_P {o p : Nat} {M M' : xM} (f : fz (onPz p) M M') : fz (onC8 o p) M M' := fz_mono (fun k o' s h => by unfold onC8; rw [h, Bool.or_true]) f
theorem onC8_C {o p : Nat} {M M' : xM} (f : fz (onC8 o p) M M') : fz (onC o p) M M' := fz_mono (fun k o' s h => by
  unfold onC8 at h
  unfold onC
  rcases Bool.or_eq_true_iff.mp h with h | h
  · obtain ⟨h1, h2⟩ := Bool.and_eq_true_iff.mp h
    unfold on21
    rw [h1]; rfl
  · rw [h, Bool.or_true]) f
theorem IN_P {M M' : xM} {o p : Nat} {B : Nat → Int} {n : Nat} (h : IN M o B n) (f : fz (onPz p) M M') : IN M' o B n := IN_fz h f (onPz_k (by omega)) (fun _ => onPz_k (by omega))
theorem CT_P {M M' : xM} {o p : Nat} {B : Nat → Int} {n pos : Nat} (h : CT M o B n pos) (f : fz (onPz p) M M') : CT M' o B n pos := ⟨IN_P h.1 f, TC_fz h.2.1 f (fun _ _ => onPz_k (by omega)), KC_fz h.2.2 f (fun k o s q => onPz_k (by omega))⟩
theorem RT_0 {M M' : xM} {B : Nat → Int} {n p : Nat} (h : RT M B n p) (f : fz on280 M M') : RT M' B n p := ⟨IR_fz h.1 f rfl (fun _ => rfl), TR_fz h.2.1 f (fun _ _ _ => rfl), KC_fz h.2.2.1 f (fun k o s q => by
  unfold on280
  cases e : Nat.beq k 28 with
  | false => rw [Bool.and_false]; rfl
  | true => have := Nat.eq_of_beq_eq_true e; omega), IB_fz h.2.2.2 f (fun _ => rfl)⟩
theorem CP_fz {K : Nat → Nat → Nat → Bool} {M M' : xM} {p : Nat} {b : Nat → Int} (h : CP M p b) (f : fz K M M') (hK : ∀ k s, 2 ≤ k → k ≤ 9 → K k p s = false) : CP M' p b := by
  refine ⟨h.1, ⟨?_, ?_, ?_⟩, fun t ht => ⟨?_, ?_, ?_, ?_⟩, fun r hr => ⟨?_, ?_⟩, fun t r ht hr => ?_⟩
  · rw [fz_gi f (hK 2 _ (by omega) (by omega))]; exact CP_0 h
  · rw [fz_gi f (hK 2 _ (by omega) (by omega))]; exact CP_R h
  · rw [fz_gi f (hK 2 _ (by omega) (by omega))]; exact CP_T h
  · rw [fz_gi f (hK 6 _ (by omega) (by omega))]; exact CP_D h ht
  · rw [fz_gi f (hK 7 _ (by omega) (by omega))]; exact CP_E h ht
  · rw [fz_gi f (hK 8 _ (by omega) (by omega))]; exact CP_L h ht
  · rw [fz_gl f (hK 5 _ (by omega) (by omega))]; exact CP_N h ht
  · rw [fz_gi f (hK 4 _ (by omega) (by omega))]; exact CP_C h hr
  · rw [fz_gl f (hK 3 _ (by omega) (by omega))]; exact CP_M h hr
  · rw [fz_gi f (hK 9 _ (by omega) (by omega))]; exact CP_U h ht hr
theorem CP_8 {M M' : xM} {o p : Nat} {b : Nat → Int} (h : CP M p b) (f : fz (on8 o) M M') : CP M' p b := CP_fz h f (fun k s h1 h2 => on8_k (by omega))
theorem CP_21 {M M' : xM} {o p : Nat} {b : Nat → Int} (h : CP M p b) (f : fz (on21 o) M M') : CP M' p b := CP_fz h f (fun k s h1 h2 => on21_k (by omega))
/-- a plan that is being read: links up to task k -/
def wQ (b : Nat → Int) (k : Nat) : Prop := wN b ∧ (0 ≤ b 0 ∧ b 0 ≤ 3) ∧ (∀ r, r < nR b → 1 ≤ bC b r ∧ bC b r ≤ 9) ∧ (∀ t, t < nT b → (1 ≤ bD b t ∧ bD b t ≤ 30) ∧ (0 ≤ bE b t ∧ bE b t ≤ 99) ∧ ∀ r, r < nR b → 0 ≤ bU b t r ∧ bU b t r ≤ bC b r) ∧ ∀ f t, f < 12 → t < 12 → (b (172 + 12 * f + t) = 0 ∨ b (172 + 12 * f + t) = 1) ∧ (b (172 + 12 * f + t) = 1 → f < t ∧ t < k)
theorem wQ_F {b : Nat → Int} (h : wQ b (nT b)) (h1 : 1 ≤ nT b) (h2 : 1 ≤ nR b) : wF b := by
  obtain ⟨a1, a2, a3, a4, a5⟩ := h
  have eT := wN_T a1
  have eR := wN_R a1
  refine ⟨⟨⟨by omega, by omega⟩, ⟨by omega, by omega⟩, a2, fun t ht => (a4 t ht).1, fun t ht => (a4 t ht).2.1, fun t r ht hr => (a4 t ht).2.2 r hr, fun r hr => by have := a3 r hr; omega, acy_of (fun t => t) (fun f t hf ht q => ?_)⟩, fun f t hf ht => ⟨(a5 f t hf ht).1, fun q => by have := (a5 f t hf ht).2 q; omega⟩, a1.2.2.1, a1.2.2.2, fun r hr => (a3 r hr).2⟩
  exact ((a5 f t (by omega) (by omega)).2 (of_decide_eq_true q)).1
def PP (M M' : xM) (o p : Nat) (B : Nat → Int) (n pos : Nat) (b : Nat → Int) : Prop := CT M o B n pos ∧ RT M' B n pos ∧ CP M p b ∧ RB M' b
/-- both come to the same end -/
def PO (o p : Nat) (M M' : xM) (r r' : xR) (G : xM → xM → Prop) : Prop := ∃ (ok : Bool) (M1 M1' : xM), r = rI (bz ok) M1 ∧ r' = rI (bz ok) M1' ∧ fz (onC o p) M M1 ∧ fz onV M' M1' ∧ (ok = true → fz (onC8 o p) M M1 ∧ fz onV8 M' M1' ∧ G M1 M1') ∧ (ok = false → ∃ c f, EC M1 o c f ∧ ER M1' c f)
theorem PO_no {o p c f : Nat} {M M' M1 M1' : xM} {G : xM → xM → Prop} (h1 : fz (onC o p) M M1) (h2 : fz onV M' M1') (h3 : EC M1 o c f) (h4 : ER M1' c f) : PO o p M M' (rI (bz false) M1) (rI (bz false) M1') G := ⟨false, M1, M1', rfl, rfl, h1, h2, fun q => (nomatch q), fun _ => ⟨c, f, h3, h4⟩⟩
theorem ite_bt {α : Type} (a c : α) : (if bz true = 0 then a else c) = c := if_neg (by decide)
theorem ite_bf {α : Type} (a c : α) : (if bz false = 0 then a else c) = a := if_pos (by decide)
/-- a name that was put -/
def pnB (b : Nat → Int) (a : Nat) (B : Nat → Int) (f k : Nat) : Nat → Int := fun i => if i = a then (k : Int) else if a < i ∧ i ≤ a + k then B (f + (i - a - 1)) else b i
theorem pnB_h {b : Nat → Int} {a : Nat} {B : Nat → Int} {f k : Nat} : pnB b a B f k a = k := if_pos rfl
theorem pnB_i {b : Nat → Int} {a : Nat} {B : Nat → Int} {f k i : Nat} (h : i < k) : pnB b a B f k (a + 1 + i) = B (f + i) := by
  unfold pnB
  rw [if_neg (by omega), if_pos (by omega), show a + 1 + i - a - 1 = i by omega]
theorem pnB_n {b : Nat → Int} {a : Nat} {B : Nat → Int} {f k i : Nat} (h : i < a ∨ a + k < i) : pnB b a B f k i = b i := by
  unfold pnB
  rw [if_neg (by omega), if_neg (by omega)]
theorem RB_pn {M M1 : xM} {b B : Nat → Int} {a f k : Nat} (h : RB M b) (g : ∀ i, gi M1 28 0 i = if i = a then zi ((k : Nat) : Int) else if a < i ∧ i ≤ a + k then zi (B (f + (i - a - 1))) else gi M 28 0 i) : RB M1 (pnB b a B f k) := fun i hi => by
  rw [g i]
  unfold pnB
  by_cases c : i = a
  · rw [if_pos c, if_pos c]
  · rw [if_neg c, if_neg c]
    by_cases c2 : a < i ∧ i ≤ a + k
    · rw [if_pos c2, if_pos c2]
    · rw [if_neg c2, if_neg c2]; exact h i hi
theorem RB_up {M M1 : xM} {b : Nat → Int} {a : Nat} {v : Int} (h : RB M b) (g : ∀ i, gi M1 28 0 i = if i = a then zi v else gi M 28 0 i) : RB M1 (upI b a v) := fun i hi => by
  rw [g i]
  unfold upI
  by_cases c : i = a
  · rw [if_pos c, if_pos c]
  · rw [if_neg c, if_neg c]; exact h i hi
theorem RB_st {M : xM} {b : Nat → Int} {a : Nat} {v : Int} (h : RB M b) : RB (xst M 28 0 a (.int (zi v))) (upI b a v) := RB_up h (fun i => by
  by_cases c : i = a
  · rw [if_pos c, c, gi_h]
  · rw [if_neg c, gi_s c])
theorem nmB_pn {b B : Nat → Int} {a f k : Nat} (h1 : 1 ≤ k) (h2 : k ≤ 6) (hB : ∀ i, i < k → 97 ≤ B (f + i) ∧ B (f + i) ≤ 122) : nmB (pnB b a B f k) a := by
  refine ⟨by rw [pnB_h]; omega, fun i hi => ?_⟩
  rw [pnB_h] at hi
  rw [pnB_i (by omega)]
  exact hB i (by omega)
theorem pk_pn {b B : Nat → Int} {a f k : Nat} : pk (pnB b a B f k) a = pw B f k := by
  unfold pk pw
  rw [pnB_h]
  congr 1
  rw [show ((k : Int)).toNat = k by omega]
  exact pkN_congr (fun i hi => by rw [pnB_i hi])
/-- both find the same task, the same resource -/
theorem same_task {b B : Nat → Int} {n p : Nat} (hw : wN b) (hp : p ≤ n) (h0 : tT B n p = 0) : fnd (fun t => decide (pk b (28 + 12 * t) = pw B (tF B n p) (tE B n p - tF B n p))) (nT b) = fnd (fun t => nmE b (28 + 12 * t) B (tF B n p) (tE B n p - tF B n p)) (nT b) := by
  have hw2 := tT_w hp h0
  exact fnd_congr (fun t ht => nm_pk (hw.2.2.1 t ht) hw2.2.1 (fun i hi => hw2.2.2 _ (by omega) (by omega)))
theorem same_res {b B : Nat → Int} {n p : Nat} (hw : wN b) (hp : p ≤ n) (h0 : tT B n p = 0) : fnd (fun r => decide (pk b (4 + 8 * r) = pw B (tF B n p) (tE B n p - tF B n p))) (nR b) = fnd (fun r => nmE b (4 + 8 * r) B (tF B n p) (tE B n p - tF B n p)) (nR b) := by
  have hw2 := tT_w hp h0
  exact fnd_congr (fun t ht => nm_pk (hw.2.2.2 t ht) hw2.2.1 (fun i hi => hw2.2.2 _ (by omega) (by omega)))
/-- the part of a new name, both sides: one error or the name taken -/
theorem both_new {M M' : xM} {o : Nat} {B : Nat → Int} {n p a : Nat} (hc : CT M o B n p) (hr : RT M' B n p) (ha : a + 6 < 316) {x y : Int} (hx : -1 ≤ x ∧ x ≤ 1000) (hxy : tT B n p = 0 → x = y) (hy : -1 ≤ y ∧ y ≤ 1000) {k : xM → xR} {k' : xM → xR} {g : Int32 → xM → xR} (hg0 : ∀ M2, g (bz false) M2 = rI (bz false) M2) (hg1 : tT B n p = 0 → tE B n p - tF B n p ≤ 6 → g (bz true) M' = if zi y = -1 then xbV (m_M_putName 0 (zi a) M') k' else xbI (m_M_wrong 0 3 M') (fun r12 M11 => rI (xnar 1 r12) M11)) {p0 : Nat} {G : xM → xM → Prop} (hk : ∀ M1 M1', fz (on8 o) M M1 → fz (onQn a) M' M1' → CT M1 o B n (tE B n p) → RT M1' B n (tE B n p) → gl M1 21 o 6 = pw B (tF B n p) (tE B n p - tF B n p) → (1 ≤ tE B n p - tF B n p ∧ tE B n p - tF B n p ≤ 6 ∧ ∀ i, i < tE B n p - tF B n p → 97 ≤ B (tF B n p + i) ∧ B (tF B n p + i) ≤ 122) → (∀ b, RB M' b → RB M1' (pnB b a B (tF B n p) (tE B n p - tF B n p))) → x = -1 → PO o p0 M M' (k M1) (k' M1') G) : PO o p0 M M' (xbI (m_T_takeNewName o (zi x) M) (fun r M1 => if r = 0 then rI (xnar 1 0) M1 else k M1)) (xbI (m_M_isShortWord 0 M') g) G := by
  obtain ⟨M1, e1, f1, a1, b1⟩ := s_newName hc hx
  obtain ⟨M2, e2, f2, a2, b2⟩ := r_short hr
  by_cases c0 : tT B n p = 0
  · by_cases c6 : tE B n p - tF B n p ≤ 6
    · have sE : swE B n p = 0 := by unfold swE; rw [if_pos c0, if_pos c6]
      have em := a2 sE
      subst em
      have e2 : m_M_isShortWord 0 M2 = rI (bz true) M2 := by rw [e2, sE]; rfl
      rw [e2, xbI_r, hg1 c0 c6, zi_m1, zife (by omega) (by omega) (by decide) (by decide)]
      by_cases c1 : x = -1
      · have cy : y = -1 := by rw [← hxy c0]; exact c1
        have nE : newE B n p x = 0 := by unfold newE; rw [if_pos c0, if_pos ⟨c6, c1⟩]
        have e1 : m_T_takeNewName o (zi x) M = rI (bz true) M1 := by rw [e1, nE]; rfl
        obtain ⟨f1', t1, q1⟩ := a1 nE
        have hw := tT_w hc.2.1.1 c0
        obtain ⟨M3, e3, f3, t3, g3⟩ := r_putName hr ha c6
        rw [e1, xbI_r, ite_bt, if_pos cy, e3, xbV_r]
        exact hk M1 M3 f1' f3 t1 t3 q1 ⟨by omega, c6, fun i hi => hw.2.2 _ (by omega) (by omega)⟩ (fun b hb => RB_pn hb g3) c1
      · have cy : ¬ y = -1 := by rw [← hxy c0]; exact c1
        have nE : newE B n p x = 3 := by unfold newE; rw [if_pos c0, if_neg (fun q => c1 q.2)]
        have e1 : m_T_takeNewName o (zi x) M = rI (bz false) M1 := by rw [e1, nE]; rfl
        have b1 := b1 (by rw [nE]; decide)
        rw [nE] at b1
        rw [e1, xbI_r, ite_bf, if_neg cy, zi_lit3, r_wrong hr.2.1.2.1 3, xbI_r, xnar_b, xnar_0]
        exact PO_no (onC_21 f1) (onV_W fz_wrong) b1 ER_wrong
    · have sE : swE B n p = 3 := by unfold swE; rw [if_pos c0, if_neg c6]
      have nE : newE B n p x = 3 := by unfold newE; rw [if_pos c0, if_neg (fun q => c6 q.1)]
      have e1 : m_T_takeNewName o (zi x) M = rI (bz false) M1 := by rw [e1, nE]; rfl
      have e2 : m_M_isShortWord 0 M' = rI (bz false) M2 := by rw [e2, sE]; rfl
      have b1 := b1 (by rw [nE]; decide)
      have b2 := b2 (by rw [sE]; decide)
      rw [nE] at b1
      rw [sE] at b2
      rw [e1, e2, xbI_r, xbI_r, ite_bf, hg0, xnar_0]
      exact PO_no (onC_21 f1) (onV_W f2) b1 b2
  · have sE : swE B n p = 1 := by unfold swE; rw [if_neg c0]
    have nE : newE B n p x = 1 := by unfold newE; rw [if_neg c0]
    have e1 : m_T_takeNewName o (zi x) M = rI (bz false) M1 := by rw [e1, nE]; rfl
    have e2 : m_M_isShortWord 0 M' = rI (bz false) M2 := by rw [e2, sE]; rfl
    have b1 := b1 (by rw [nE]; decide)
    have b2 := b2 (by rw [sE]; decide)
    rw [nE] at b1
    rw [sE] at b2
    rw [e1, e2, xbI_r, xbI_r, ite_bf, hg0, xnar_0]
    exact PO_no (onC_21 f1) (onV_W f2) b1 b2
