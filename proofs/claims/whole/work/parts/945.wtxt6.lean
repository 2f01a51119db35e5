/-! writing the schedule: both together -/
def WRx (T : Wx) : Prop := ∀ i, i < T.1 → ∃ c : Nat, c < 128 ∧ T.2 i = zi (c : Nat)
theorem WRx_p {T : Wx} (h : WRx T) {c : Nat} (hc : c < 128) : WRx (wxp T (zi (c : Nat))) := fun i hi => by
  show ∃ d : Nat, d < 128 ∧ (if i = T.1 then zi (c : Nat) else T.2 i) = zi (d : Nat)
  by_cases q : i = T.1
  · rw [if_pos q]; exact ⟨c, hc, rfl⟩
  · rw [if_neg q]; exact h i (by have : i < T.1 + 1 := hi; omega)
theorem WRx_d {T : Wx} (h : WRx T) (x : Nat) : WRx (wxd T x) := by
  unfold wxd
  by_cases c : x < 10
  · rw [if_pos c]; exact WRx_p h (by omega)
  · rw [if_neg c]
    by_cases d : x < 100
    · rw [if_pos d]; exact WRx_p (WRx_p h (by omega)) (by omega)
    · rw [if_neg d]; exact WRx_p (WRx_p (WRx_p h (by omega)) (by omega)) (by omega)
theorem WRx_n {b : Nat → Int} {a : Nat} {T : Wx} (h : WRx T) : ∀ n, (∀ k, k < n → 97 ≤ b (a + 1 + k) ∧ b (a + 1 + k) ≤ 122) → WRx (wxn b a T n) := by
  intro n
  induction n with
  | zero => intro _; exact h
  | succ n ih =>
    intro q
    have q2 := q n (by omega)
    have e0 : b (a + 1 + n) = (((b (a + 1 + n)).toNat : Nat) : Int) := by omega
    show WRx (wxp (wxn b a T n) (zi (b (a + 1 + n))))
    rw [e0]
    exact WRx_p (ih (fun k hk => q k (by omega))) (by omega)
theorem WRx_b {T : Wx} (h : WRx T) : WRx (wxb T) := by
  unfold wxb
  by_cases c : T.1 = 0
  · rw [if_pos c]; exact h
  · rw [if_neg c]; exact WRx_p (c := 32) h (by decide)
theorem WRx_k {b : Nat → Int} {T : Wx} {t : Nat} (h : WRx T) (nm : nmB b (28 + 12 * t)) : WRx (wxk b T t) := by
  have h1 : WRx (wxt b T t) := WRx_n (WRx_b h) _ nm.2
  have h2 : WRx (wxe b (wxt b T t) t) := WRx_d (WRx_p (c := 45) (WRx_d (WRx_p (c := 58) h1 (by decide)) _) (by decide)) _
  unfold wxk
  by_cases c : lsB b t = esB b t
  · rw [if_pos c]; exact WRx_p (c := 42) h2 (by decide)
  · rw [if_neg c]; exact h2
theorem WRx_r {b : Nat → Int} (hm : ∀ t, t < nT b → nmB b (28 + 12 * t)) {d : Nat} {T : Wx} (h : WRx T) : ∀ k, k ≤ nT b → WRx (wxr b d T k) := by
  intro k
  induction k with
  | zero => intro _; exact h
  | succ k ih =>
    intro hk
    have i1 := ih (by omega)
    unfold wxr
    by_cases c : stB b k = (d : Int)
    · rw [if_pos c]; exact WRx_k i1 (hm k (by omega))
    · rw [if_neg c]; exact i1
theorem WRx_y {b : Nat → Int} (hm : ∀ t, t < nT b → nmB b (28 + 12 * t)) : ∀ d, WRx (wxy b d) := by
  intro d
  induction d with
  | zero => exact fun i hi => absurd hi (Nat.not_lt_zero i)
  | succ d ih => exact WRx_r hm ih (nT b) (Nat.le_refl _)
theorem onWs_i {k o s : Nat} (h : onWs k o s = true) : k = 49 ∨ k = 50 ∨ k = 100 ∨ k = 159 ∨ k = 249 ∨ k = 250 ∨ (k = 101 ∧ 46 ≤ o) ∨ ((k = 46 ∨ k = 47 ∨ k = 157 ∨ k = 246 ∨ k = 247) ∧ 18 ≤ o) := by
  unfold onWs onWx at h
  simp only [Bool.or_eq_true, Bool.and_eq_true, Nat.beq_eq, Nat.ble_eq] at h
  omega
theorem onWs_ff {k o s : Nat} (h : ¬ (k = 49 ∨ k = 50 ∨ k = 100 ∨ k = 159 ∨ k = 249 ∨ k = 250 ∨ (k = 101 ∧ 46 ≤ o) ∨ ((k = 46 ∨ k = 47 ∨ k = 157 ∨ k = 246 ∨ k = 247) ∧ 18 ≤ o))) : onWs k o s = false := by
  cases e : onWs k o s with
  | false => rfl
  | true => exact absurd (onWs_i e) h
theorem xgdF_lt {M M' : xM} {k : Nat} (h : ∀ o f, gn M' (200 + k) o f = gn M (200 + k) o f) (o : Nat) : ∀ (L : List (Nat × Nat × Nat)) (f : Nat), xgdF M' k o L f = xgdF M k o L f := by
  intro L
  induction L with
  | nil => intro f; rfl
  | cons q r ih =>
    intro f
    obtain ⟨t, q2⟩ := q
    unfold xgdF
    rw [ih (f + 1), h o f]
theorem xgdA_lt {M M' : xM} {k : Nat} (h : ∀ o f, gn M' (200 + k) o f = gn M (200 + k) o f) (o : Nat) : ∀ n, xgdA M' k o n = xgdA M k o n := by
  intro n
  induction n with
  | zero => rfl
  | succ n ih =>
    unfold xgdA
    rw [ih, h o n]
theorem all_eq {α : Type} {f g : α → Bool} : ∀ L : List α, (∀ q, q ∈ L → f q = g q) → L.all f = L.all g := by
  intro L
  induction L with
  | nil => intro _; rfl
  | cons a r ih =>
    intro h
    rw [List.all_cons, List.all_cons, h a (List.mem_cons_self), ih (fun q hq => h q (List.mem_cons_of_mem _ hq))]
theorem xsl_46 : ∀ q, q ∈ xsl 0 → q.1 < 46 := by decide
theorem xgood_Ws {M M' : xM} (f : fz onWs M M') : xgood (xsl 0) M' = xgood (xsl 0) M := by
  unfold xgood
  refine all_eq _ (fun q hq => ?_)
  have l := xsl_46 q hq
  have a1 : gn M' 101 q.1 0 = gn M 101 q.1 0 := fz_gn f (onWs_ff (by omega))
  have a2 : ∀ o s, gn M' (200 + q.1) o s = gn M (200 + q.1) o s := fun o s => fz_gn f (onWs_ff (by omega))
  rw [a1, xgdF_lt a2, xgdA_lt a2]
theorem SF_Ws {M M' : xM} (f : fz onWs M M') : SF M M' := ⟨fun s => fz_gi f (onWs_ff (by omega)), fz_gn f (onWs_ff (by omega)), fun h => by rw [xgood_Ws f]; exact h⟩
theorem SF_1 {M : xM} {o s : Nat} {v : Value} : SF M (xst M 1 o s v) := ⟨fun s => gi_k (by decide), gn_k (by decide), fun h => by
  rw [xgood_eq (xsl 0) (fun k => gn_k (by decide)) (fun k o s q => gn_k (by omega))]; exact h⟩
def onW2 (k o s : Nat) : Bool := onI k o s || (onWs k o s || (Nat.beq k 1 || (Nat.beq k 31 || (Nat.beq k 27 && Nat.beq s 8))))
theorem W2_I {M M' : xM} (f : fz onI M M') : fz onW2 M M' := fz_mono (fun k o s h => by unfold onW2; rw [h]; rfl) f
theorem W2_Ws {M M' : xM} (f : fz onWs M M') : fz onW2 M M' := fz_mono (fun k o s h => by unfold onW2; rw [h, Bool.true_or, Bool.or_true]) f
theorem onW2_p {k o s : Nat} (h1 : 2 ≤ k) (h2 : k ≤ 9) (h3 : 1 ≤ o) : onW2 k o s = false := by
  unfold onW2
  rw [onI_p h1 h2 h3, onWs_ff (by omega), beq_ff (show k ≠ 1 by omega), beq_ff (show k ≠ 31 by omega), beq_ff (show k ≠ 27 by omega)]
  rfl
theorem onW2_k {k o s : Nat} (q : k = 43 ∨ k = 45 ∨ k = 48 ∨ k = 52 ∨ k = 243 ∨ k = 244 ∨ ((k = 46 ∨ k = 47 ∨ k = 157 ∨ k = 246) ∧ o < 18)) : onW2 k o s = false := by
  unfold onW2
  rw [onWs_ff (by omega), beq_ff (show k ≠ 1 by omega), beq_ff (show k ≠ 31 by omega), beq_ff (show k ≠ 27 by omega)]
  rcases q with rfl | rfl | rfl | rfl | rfl | rfl | ⟨rfl | rfl | rfl | rfl, _⟩ <;> rfl
/-- all but the text may stay -/
theorem Inv_W2 {M M' : xM} (h : Inv M) (f : fz onW2 M M') (hO : OUT M') : Inv M' := by
  obtain ⟨h1, ⟨c, w, g1, g2, g3, g4, g5, g6⟩, h3, ⟨n, i1, i2⟩, ⟨e1, e2⟩, _, h7, h8⟩ := h
  have p28 : ∀ s, onW2 28 0 s = false := fun _ => rfl
  refine ⟨PLN_fz h1 f p28 (fun k s a b => onW2_p a b (by decide)), ⟨c, w, g1, g2, (fz_gi f rfl).trans g3, (fz_gi f rfl).trans g4, (fz_gi f rfl).trans g5, fun j hj => PLN_fz (g6 j hj) f p28 (fun k s a b => onW2_p a b (by omega))⟩, fun s hs => ?_, ⟨n, ?_, ?_⟩, ⟨?_, ?_⟩, hO, KC_fz h7 f (fun k o s q => onW2_k q), GB_eq h8 (fun s => fz_gi f rfl)⟩
  · obtain ⟨fl, s1, s2, s3⟩ := h3 s hs
    exact ⟨fl, (fz_gi f rfl).trans s1, (fz_gi f rfl).trans s2, fun q => PLN_fz (s3 q) f p28 (fun k s a b => onW2_p a b (by omega))⟩
  · rw [BB_fz f (fun _ => rfl)]; exact IN_fz i1 f rfl (fun _ => rfl)
  · rw [BB_fz f (fun _ => rfl)]; exact IR_fz i2 f rfl (fun _ => rfl)
  · rw [fz_gi f rfl, fz_gi f rfl]; exact e1
  · rw [fz_gi f rfl, fz_gi f rfl]; exact e2
theorem CNs_J {M M' : xM} (f : fz onJ M M') (h : CNs M) : CNs M' := by
  unfold CNs
  rw [fz_gn f (onJ_f (Or.inr (by decide))), fz_gn f (onJ_f (Or.inr (by decide)))]
  exact h
def onR2 (k o s : Nat) : Bool := onB k o s || (Nat.beq k 27 && (Nat.beq s 9 || Nat.beq s 8)) || (Nat.beq o 0 && Nat.beq k 31)
theorem R2_B {M M' : xM} (f : fz onB M M') : fz onR2 M M' := fz_mono (fun k o s h => by unfold onR2; rw [h]; rfl) f
theorem R2_t {M M' : xM} (f : fz onWt M M') : fz onR2 M M' := fz_mono (fun k o s h => by
  unfold onWt at h
  unfold onR2
  rw [Bool.and_eq_true, Bool.or_eq_true, Bool.and_eq_true] at h
  obtain ⟨h1, h2 | ⟨h2, h3⟩⟩ := h
  · rw [h1, h2, Bool.true_and, Bool.or_true]
  · rw [h2, h3, Bool.or_true, Bool.true_and, Bool.or_true]; rfl) f
theorem onR2_i {k o s : Nat} (h : onR2 k o s = true) : (o = 0 ∧ ((k = 27 ∧ s = 13) ∨ (32 ≤ k ∧ k ≤ 37))) ∨ (k = 27 ∧ (s = 9 ∨ s = 8)) ∨ (o = 0 ∧ k = 31) := by
  unfold onR2 at h
  rw [Bool.or_eq_true, Bool.or_eq_true] at h
  rcases h with (h | h) | h
  · exact Or.inl (onB_i h)
  · simp only [Bool.or_eq_true, Bool.and_eq_true, Nat.beq_eq] at h
    exact Or.inr (Or.inl h)
  · simp only [Bool.and_eq_true, Nat.beq_eq] at h
    exact Or.inr (Or.inr h)
theorem onR2_ff {k o s : Nat} (h : k ≠ 27 ∧ k ≠ 31 ∧ ¬ (32 ≤ k ∧ k ≤ 37)) : onR2 k o s = false := by
  cases e : onR2 k o s with
  | false => rfl
  | true =>
    have := onR2_i e
    omega
theorem J_R2 {M M' : xM} (f : fz onR2 M M') : fz onJ M M' := fz_mono (fun k o s h => by
  have := onR2_i h
  exact onJ_t (by omega) (by omega)) f
theorem W2_R2 {M M' : xM} (f : fz onR2 M M') : fz onW2 M M' := fz_mono (fun k o s h => by
  rcases onR2_i h with ⟨rfl, ⟨rfl, rfl⟩ | q⟩ | ⟨rfl, rfl | rfl⟩ | ⟨rfl, rfl⟩
  · rfl
  · have : k = 32 ∨ k = 33 ∨ k = 34 ∨ k = 35 ∨ k = 36 ∨ k = 37 := by omega
    rcases this with rfl | rfl | rfl | rfl | rfl | rfl <;> rfl
  · rfl
  · rfl
  · rfl) f
theorem q_write {M : xM} (hI : Inv M) (hC : CNs M) : ∃ (v : Int32) (M1 M2 : xM), m_C_writeSchedule 0 M = rI v M1 ∧ m_M_writeSchedule 0 M1 = rI v M2 ∧ SF M M1 ∧ SF M1 M2 ∧ Inv M2 ∧ CNs M2 ∧ gn M2 100 0 0 ≤ gn M 100 0 0 + 450 ∧ gn M2 100 0 1 ≤ gn M 100 0 1 + 2000 := by
  have hw := hI.1.1
  have hn := wS_n hw.1
  have mk := mkB_ok hw.1
  have ln := wx_all hw.2.2.1 hn.2.1 (mkB (bk M 0)).toNat
  have wr := WRx_y hw.2.2.1 (mkB (bk M 0)).toNat
  obtain ⟨A, e1, f1, d1, c1⟩ := cls_S hI
  have iA : Inv A := Inv_I hI (onI_Yc f1)
  have jA := onJ_Yc f1
  have cA : CNs A := CNs_J jA hC
  obtain ⟨B, f, e2, tx, tf, f2, cB, r1, r2⟩ := s_asText iA.2.2.2.2.2.2.1 ⟨c1, d1.1, d1.2.2.2, fun t ht => d1.2.2.1 t ht⟩ hw cA
  have a0 : gn A 100 0 0 = gn M 100 0 0 := fz_gn jA (onJ_f (Or.inr (by decide)))
  have a1 : gn A 100 0 1 = gn M 100 0 1 := fz_gn jA (onJ_f (Or.inr (by decide)))
  generalize hT : wxy (bk M 0) (mkB (bk M 0)).toNat = T at ln wr tx tf
  generalize hn46 : gn A 101 46 0 = o at e2 tx
  have t1 : gn (xst B 1 0 8 (.ref o)) 246 o 0 = 1 := (gn_k (by decide)).trans tx.1
  have t2 : gn (xst B 1 0 8 (.ref o)) 157 o 0 = T.1 := (gn_k (by decide)).trans tx.2.1
  have t3 : gi (xst B 1 0 8 (.ref o)) 46 o 1 = 0 := (gi_k (by decide)).trans tx.2.2.1
  have t4 : ∀ i, gi (xst B 1 0 8 (.ref o)) 47 o i = f i := fun i => (gi_k (by decide)).trans (tx.2.2.2 i)
  have t5 : gn (xst B 1 0 8 (.ref o)) 1 0 8 = o := gn_h _ _ _ _ _
  have fW : fz onW2 M (xst B 1 0 8 (.ref o)) := fz_step (fz_trans (W2_I (onI_Yc f1)) (W2_Ws f2)) rfl
  have sf : SF M (xst B 1 0 8 (.ref o)) := SF_trans (SF_trans (SF_J jA) (SF_Ws f2)) SF_1
  have rb : RB (xst B 1 0 8 (.ref o)) (bk M 0) := fun k hk => (fz_gi fW rfl).trans (RB_bk M k hk)
  have b0 : gn (xst B 1 0 8 (.ref o)) 100 0 0 ≤ gn M 100 0 0 + 450 := by rw [gn_k (by decide)]; omega
  have b1 : gn (xst B 1 0 8 (.ref o)) 100 0 1 ≤ gn M 100 0 1 + 2000 := by rw [gn_k (by decide)]; omega
  have cc : CNs (xst B 1 0 8 (.ref o)) := by
    unfold CNs
    rw [gn_k (by decide), gn_k (by decide)]; exact cB
  have len : m_JS_length (gn (xst B 1 0 8 (.ref o)) 1 0 8) (xst B 1 0 8 (.ref o)) = rI (zi (T.1 : Nat)) (xst B 1 0 8 (.ref o)) := by
    rw [t5, e_m_JS_length, if_pos t1, e_m_JS_coder, ite_z1, t3, xret_I, xbI_r, t2, show (xnar 3 0 : Int32) = 0 by decide, sh0]
    rfl
  have cls : m_C_writeSchedule 0 M = rI (zi (T.1 : Nat)) (xst B 1 0 8 (.ref o)) := by
    rw [e_m_C_writeSchedule, e1, xbR_r, e2, xbR_r, len, xret_I, xbI_r]
  generalize hD : xst B 1 0 8 (.ref o) = D at t1 t2 t3 t4 t5 fW sf rb b0 b1 cc cls
  obtain ⟨N1, e3, f3, d3⟩ := r_build (RB_9 (v := .int 0) rb) hw.1 hw.2.1
  have hS : RWs (xst N1 27 0 8 (.int 0)) (bk M 0) := RWs_f ⟨RB_B (RB_9 rb) f3, d3.1, d3.2.1⟩ (fz_st rfl)
  have hR : RWx (xst N1 27 0 8 (.int 0)) wx0 := ⟨gi_h _ _ _ _ _, fun i hi => absurd hi (Nat.not_lt_zero i)⟩
  obtain ⟨N2, e4, f4, g4⟩ := r_write hS hw hR
  rw [hT] at e4 g4
  have fR : fz onR2 D N2 := fz_trans (fz_trans (fz_trans (fz_st rfl) (R2_B f3)) (fz_st rfl)) (R2_t f4)
  have jR := J_R2 fR
  have o8 : gn N2 1 0 8 = o := (fz_gn fR rfl).trans t5
  refine ⟨zi (T.1 : Nat), D, N2, cls, ?_, sf, SF_J jR, Inv_W2 hI (fz_trans fW (W2_R2 fR)) ⟨T.1, f, ⟨by omega, fun i hi => by rw [tf i hi]; exact wr i hi⟩, ⟨?_, ?_, ?_, fun i => ?_⟩, g4.1, fun i hi => (g4.2 i hi).trans (tf i hi).symm⟩, CNs_J jR cc, ?_, ?_⟩
  · rw [e_m_M_writeSchedule, e3, xbI_r, e4]
  · rw [o8, fz_gn fR (onR2_ff (by decide))]; exact t1
  · rw [o8, fz_gn fR (onR2_ff (by decide))]; exact t2
  · rw [o8, fz_gi fR (onR2_ff (by decide))]; exact t3
  · rw [o8, fz_gi fR (onR2_ff (by decide))]; exact t4 i
  · rw [fz_gn jR (onJ_f (Or.inr (by decide)))]; exact b0
  · rw [fz_gn jR (onJ_f (Or.inr (by decide)))]; exact b1
