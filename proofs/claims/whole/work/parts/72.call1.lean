/-! calls: what both sides answer -/
def onJ (k _ _ : Nat) : Bool := !(Nat.beq k 41 || Nat.ble 100 k)
theorem onJ_t {k o s : Nat} (h : k < 100) (h2 : k ≠ 41) : onJ k o s = true := by
  unfold onJ
  have a : Nat.ble 100 k = false := by
    cases e : Nat.ble 100 k with
    | true => have := Nat.le_of_ble_eq_true e; omega
    | false => rfl
  have c : Nat.beq k 41 = false := by
    cases e : Nat.beq k 41 with
    | true => exact absurd (Nat.eq_of_beq_eq_true e) h2
    | false => rfl
  rw [a, c]; rfl
theorem onJ_f {k o s : Nat} (h : k = 41 ∨ 100 ≤ k) : onJ k o s = false := by
  unfold onJ
  rcases h with h | h
  · subst h; rfl
  · rw [Nat.ble_eq_true_of_le h, Bool.or_true]; rfl
theorem xgdF_eq {M M' : xM} (h : ∀ k o f, 200 ≤ k → gn M' k o f = gn M k o f) (k o : Nat) : ∀ (L : List (Nat × Nat × Nat)) (f : Nat), xgdF M' k o L f = xgdF M k o L f := by
  intro L
  induction L with
  | nil => intro f; rfl
  | cons q r ih =>
    intro f
    obtain ⟨t, q2⟩ := q
    unfold xgdF
    rw [ih (f + 1), h (200 + k) o f (by omega)]
theorem xgdA_eq {M M' : xM} (h : ∀ k o f, 200 ≤ k → gn M' k o f = gn M k o f) (k o : Nat) : ∀ n, xgdA M' k o n = xgdA M k o n := by
  intro n
  induction n with
  | zero => rfl
  | succ n ih =>
    unfold xgdA
    rw [ih, h (200 + k) o n (by omega)]
theorem xgood_eq {M M' : xM} (L : List (Nat × Nat)) (h1 : ∀ k, gn M' 101 k 0 = gn M 101 k 0) (h : ∀ k o f, 200 ≤ k → gn M' k o f = gn M k o f) : xgood L M' = xgood L M := by
  unfold xgood
  congr 1
  funext q
  rw [h1, xgdF_eq h, xgdA_eq h]
/-- what the law itself needs of a store -/
def SF (M M1 : xM) : Prop := (∀ s, gi M1 41 0 s = gi M 41 0 s) ∧ gn M1 151 0 0 = gn M 151 0 0 ∧ (xgood (xsl 0) M = true → xgood (xsl 0) M1 = true)
def RM (M M1 : xM) (α β : Nat) : Prop := gn M1 100 0 0 ≤ gn M 100 0 0 + α ∧ gn M1 100 0 1 ≤ gn M 100 0 1 + β ∧ ∀ k, gn M1 101 k 0 = gn M 101 k 0
theorem SF_refl (M : xM) : SF M M := ⟨fun _ => rfl, rfl, fun h => h⟩
theorem SF_trans {M M1 M2 : xM} (h : SF M M1) (h2 : SF M1 M2) : SF M M2 := ⟨fun s => (h2.1 s).trans (h.1 s), h2.2.1.trans h.2.1, fun q => h2.2.2 (h.2.2 q)⟩
theorem SF_J {M M1 : xM} (f : fz onJ M M1) : SF M M1 := ⟨fun s => fz_gi f (onJ_f (Or.inl rfl)), fz_gn f (onJ_f (Or.inr (by decide))), fun h => by
  rw [xgood_eq (xsl 0) (fun k => fz_gn f (onJ_f (Or.inr (by omega)))) (fun k o s q => fz_gn f (onJ_f (Or.inr (by omega))))]; exact h⟩
theorem RM_J {M M1 : xM} (f : fz onJ M M1) : RM M M1 0 0 := ⟨Nat.le_of_eq (fz_gn f (onJ_f (Or.inr (by decide)))), Nat.le_of_eq (fz_gn f (onJ_f (Or.inr (by decide)))), fun k => fz_gn f (onJ_f (Or.inr (by decide)))⟩
theorem RM_trans {M M1 M2 : xM} {a c a2 c2 : Nat} (h : RM M M1 a c) (h2 : RM M1 M2 a2 c2) : RM M M2 (a + a2) (c + c2) := ⟨by have := h.1; have := h2.1; omega, by have := h.2.1; have := h2.2.1; omega, fun k => (h2.2.2 k).trans (h.2.2 k)⟩
theorem RM_le {M M1 : xM} {a c a2 c2 : Nat} (h : RM M M1 a c) (h1 : a ≤ a2) (h2 : c ≤ c2) : RM M M1 a2 c2 := ⟨by have := h.1; omega, by have := h.2.1; omega, h.2.2⟩
theorem bump_n (M : xM) (c n k o s : Nat) (h : k ≠ 100) : (xbump M c n) k o s = M k o s := by
  unfold xbump xst
  rw [if_neg (fun q => h q.1), if_neg (fun q => h q.1)]
theorem bump_gi {M : xM} {c n k o s : Nat} (h : k ≠ 100) : gi (xbump M c n) k o s = gi M k o s := by unfold gi; rw [bump_n _ _ _ _ _ _ h]
theorem bump_gn {M : xM} {c n k o s : Nat} (h : k ≠ 100) : gn (xbump M c n) k o s = gn M k o s := by unfold gn; rw [bump_n _ _ _ _ _ _ h]
theorem SF_bump (M : xM) (c n : Nat) : SF M (xbump M c n) := ⟨fun s => bump_gi (by decide), bump_gn (by decide), fun h => by
  rw [xgood_eq (xsl 0) (fun k => bump_gn (by decide)) (fun k o s q => bump_gn (by omega))]; exact h⟩
theorem RM_bump (M : xM) (c n : Nat) : RM M (xbump M c n) c n := by
  refine ⟨?_, ?_, fun k => bump_gn (by decide)⟩
  · unfold xbump
    rw [gn_s (by decide), gn_h]
    exact Nat.le_refl _
  · unfold xbump
    rw [gn_h]
    exact Nat.le_refl _
theorem fz_bump (M : xM) (c n : Nat) : fz onI M (xbump M c n) := fun k o s q => bump_n _ _ _ _ _ _ (fun e => by subst e; exact nomatch (show true = false from q))
theorem onB_i {k o s : Nat} (h : onB k o s = true) : o = 0 ∧ ((k = 27 ∧ s = 13) ∨ (32 ≤ k ∧ k ≤ 37)) := by
  unfold onB at h
  rw [Bool.and_eq_true, Bool.or_eq_true, Bool.and_eq_true, Bool.and_eq_true, Nat.ble_eq, Nat.ble_eq] at h
  obtain ⟨h1, h2⟩ := h
  refine ⟨Nat.eq_of_beq_eq_true h1, ?_⟩
  rcases h2 with ⟨a, c⟩ | h2
  · exact Or.inl ⟨Nat.eq_of_beq_eq_true a, Nat.eq_of_beq_eq_true c⟩
  · exact Or.inr h2
theorem onI_B {M M' : xM} (f : fz onB M M') : fz onI M M' := fz_mono (fun k o s h => by
  obtain ⟨rfl, ⟨rfl, rfl⟩ | h⟩ := onB_i h
  · rfl
  · have : k = 32 ∨ k = 33 ∨ k = 34 ∨ k = 35 ∨ k = 36 ∨ k = 37 := by omega
    rcases this with rfl | rfl | rfl | rfl | rfl | rfl <;> rfl) f
theorem onJ_B {M M' : xM} (f : fz onB M M') : fz onJ M M' := fz_mono (fun k o s h => by
  obtain ⟨_, h⟩ := onB_i h
  exact onJ_t (by omega) (by omega)) f
/-- the class's own scratch -/
def onYc (k o : Nat) : Bool := onS k o || onP 0 k o
theorem onYc_i {k o : Nat} (h : onYc k o = true) : o = 0 ∧ 2 ≤ k ∧ k ≤ 16 := by
  unfold onYc onS onP at h
  rw [Bool.or_eq_true, Bool.and_eq_true, Bool.and_eq_true, Bool.and_eq_true, Bool.and_eq_true, decide_eq_true_iff, decide_eq_true_iff, Nat.ble_eq, Nat.ble_eq] at h
  rcases h with ⟨h1, h2⟩ | ⟨h1, h2⟩
  · exact ⟨Nat.eq_of_beq_eq_true h2, by omega, h1.2⟩
  · exact ⟨Nat.eq_of_beq_eq_true h2, h1.1, by omega⟩
theorem Yc_S {M M' : xM} (f : fr onS M M') : fr onYc M M' := fr_mono (fun k o h => by unfold onYc; rw [h]; rfl) f
theorem Yc_P {M M' : xM} (f : fr (onP 0) M M') : fr onYc M M' := fr_mono (fun k o h => by unfold onYc; rw [h, Bool.or_true]) f
theorem Yc_D {M M' : xM} (f : fr onD M M') : fr onYc M M' := Yc_S (fr_mono (fun k o h => by
  unfold onD at h
  unfold onS
  rw [Bool.and_eq_true, Bool.and_eq_true, decide_eq_true_iff, decide_eq_true_iff] at h
  rw [h.2, decide_eq_true h.1.1, decide_eq_true (show k ≤ 16 by omega)]; rfl) f)
theorem onI_Yc {M M' : xM} (f : fr onYc M M') : fz onI M M' := fz_mono (fun k o s h => by
  obtain ⟨rfl, h⟩ := onYc_i h
  have : k = 2 ∨ k = 3 ∨ k = 4 ∨ k = 5 ∨ k = 6 ∨ k = 7 ∨ k = 8 ∨ k = 9 ∨ k = 10 ∨ k = 11 ∨ k = 12 ∨ k = 13 ∨ k = 14 ∨ k = 15 ∨ k = 16 := by omega
  rcases this with rfl | rfl | rfl | rfl | rfl | rfl | rfl | rfl | rfl | rfl | rfl | rfl | rfl | rfl | rfl <;> rfl) (fr_fz f)
theorem onJ_Yc {M M' : xM} (f : fr onYc M M') : fz onJ M M' := fz_mono (fun k o s h => by
  obtain ⟨_, h⟩ := onYc_i h
  exact onJ_t (by omega) (by omega)) (fr_fz f)
theorem RB_Yc {M M' : xM} {b : Nat → Int} (h : RB M b) (f : fr onYc M M') : RB M' b := fun k hk => (fr_gi f (by
  cases e : onYc 28 0 with
  | true => have := onYc_i e; omega
  | false => rfl) k).trans (h k hk)
/-- both answer the same: a fault of the same kind, or a number -/
def QR (P : Int32 → Prop) (M : xM) (r : xR) (r' : xM → xR) : Prop := ∃ (c : Int32) (M1 M2 : xM) (v : Int32), r = rI c M1 ∧ r' M1 = rI v M2 ∧ gi M2 27 0 9 = c ∧ (c = 0 → gl M2 39 0 0 = Int32.toInt64 v ∧ P v) ∧ SF M M1 ∧ SF M1 M2 ∧ Inv M2 ∧ RM M M2 1 6
theorem QR_ext {P : Int32 → Prop} {M : xM} {r : xR} {r' r2 : xM → xR} (h : ∀ N, r' N = r2 N) (q : QR P M r r2) : QR P M r r' := by
  obtain ⟨c, M1, M2, v, h1, h2, h3⟩ := q
  exact ⟨c, M1, M2, v, h1, (h M1).trans h2, h3⟩
theorem QR_q {P : Int32 → Prop} {M M1 M2 : xM} {y : Int32} {r : xR} {r' : xM → xR} (hI : Inv M) (f : fr onYc M M1) (e : r = rI 0 (xst M1 39 0 0 (.long (Int32.toInt64 y)))) (e' : r' (xst M1 39 0 0 (.long (Int32.toInt64 y))) = rI y M2) (f' : fz onB (xst (xst M1 39 0 0 (.long (Int32.toInt64 y))) 27 0 9 (.int 0)) M2) (hP : P y) : QR P M r r' := by
  have j1 : fz onJ M (xst M1 39 0 0 (.long (Int32.toInt64 y))) := fz_step (onJ_Yc f) rfl
  have j2 : fz onJ (xst M1 39 0 0 (.long (Int32.toInt64 y))) M2 := fz_trans (fz_st rfl) (onJ_B f')
  refine ⟨0, _, M2, y, e, e', (fz_gi f' rfl).trans (gi_h _ _ _ _ _), fun _ => ⟨?_, hP⟩, SF_J j1, SF_J j2, Inv_I hI (fz_trans (fz_step (fz_step (onI_Yc f) rfl) rfl) (onI_B f')), RM_le (RM_J (fz_trans j1 j2)) (by decide) (by decide)⟩
  rw [fz_gl f' rfl, gl_k (by decide), gl_h]
theorem QR_f {P : Int32 → Prop} {M M2 : xM} {c v : Int32} {r : xR} {r' : xM → xR} (hI : Inv M) (hc : c ≠ 0) (e : r = rI c (xbump M 1 6)) (e' : r' (xbump M 1 6) = rI v M2) (f' : fz onB (xst (xbump M 1 6) 27 0 9 (.int c)) M2) : QR P M r r' := by
  have j2 : fz onJ (xbump M 1 6) M2 := fz_trans (fz_st rfl) (onJ_B f')
  exact ⟨c, _, M2, v, e, e', (fz_gi f' rfl).trans (gi_h _ _ _ _ _), fun q => absurd q hc, SF_bump M 1 6, SF_J j2, Inv_I hI (fz_trans (fz_step (fz_bump M 1 6) rfl) (onI_B f')), RM_le (RM_trans (RM_bump M 1 6) (RM_J j2)) (by decide) (by decide)⟩
/-- the reference's faults -/
theorem r_F1 (x y v : Int32) (R : xM → xR) (N : xM) : xbI (m_M_fails 0 1 x y N) (fun r A => if r = 0 then R A else rI v A) = rI v (xst N 27 0 9 (.int 1)) := by
  rw [e_m_M_fails, ite_z1, gi_h, if_pos (by decide), xbI_r, xnar_1, ite_bt]
theorem r_F2 (y v : Int32) (R : xM → xR) (N : xM) : xbI (m_M_fails 0 0 1 y N) (fun r A => if r = 0 then R A else rI v A) = rI v (xst N 27 0 9 (.int 2)) := by
  rw [e_m_M_fails, ite_z0, ite_z1, gi_h, if_pos (by decide), xbI_r, xnar_1, ite_bt]
theorem r_F3 (v : Int32) (R : xM → xR) (N : xM) : xbI (m_M_fails 0 0 0 1 N) (fun r A => if r = 0 then R A else rI v A) = rI v (xst N 27 0 9 (.int 3)) := by
  rw [e_m_M_fails, ite_z0, ite_z0, ite_z1, gi_h, if_pos (by decide), xbI_r, xnar_1, ite_bt]
theorem r_F0 (v : Int32) (R : xM → xR) (N : xM) : xbI (m_M_fails 0 0 0 0 N) (fun r A => if r = 0 then R A else rI v A) = R (xst N 27 0 9 (.int 0)) := by
  rw [e_m_M_fails, ite_z0, ite_z0, ite_z0, gi_h, if_neg (by decide), xbI_r, xnar_0, ite_bf]
theorem s_reqT {M : xM} {b : Nat → Int} (h : CP M 9 b) {x : Int} (h1 : -2147483648 ≤ x) (h2 : x < 2147483648) : m_C_requireTask 0 (zi x) M = if 0 ≤ x ∧ x < nT b then rV M else rE 2 (xbump M 1 6) := by
  rw [e_m_C_requireTask, s_hasTask h h1 h2, xbI_r, ite_b]
  by_cases c : 0 ≤ x ∧ x < nT b
  · rw [decide_eq_true c, if_pos rfl, if_pos c]
  · rw [decide_eq_false c, if_neg (by decide), if_neg c]
theorem s_reqR {M : xM} {b : Nat → Int} (h : CP M 9 b) {x : Int} (h1 : -2147483648 ≤ x) (h2 : x < 2147483648) : m_C_requireResource 0 (zi x) M = if 0 ≤ x ∧ x < nR b then rV M else rE 2 (xbump M 1 6) := by
  rw [e_m_C_requireResource, s_hasRes h h1 h2, xbI_r, ite_b]
  by_cases c : 0 ≤ x ∧ x < nR b
  · rw [decide_eq_true c, if_pos rfl, if_pos c]
  · rw [decide_eq_false c, if_neg (by decide), if_neg c]
/-- a call about one task -/
theorem QT {P : Int32 → Prop} {M : xM} (hI : Inv M) {x : Int} (h1 : -2147483648 ≤ x) (h2 : x < 2147483648) {K R R2 : xM → xR} {kL : Int32 → xM → xR} {v : Int32} (hin : ∀ t : Nat, t < nT (bk M 0) → x = (t : Int) → ∃ y M1, K M = rI y M1 ∧ fr onYc M M1 ∧ P y ∧ kL y M1 = rI 0 (xst M1 39 0 0 (.long (Int32.toInt64 y))) ∧ ∀ N, RB N (bk M 0) → ∃ M2, R N = rI y M2 ∧ fz onB N M2) : QR P M (xhI (xbV (m_C_requireTask 0 (zi x) M) K) kL (fun E A => if E = 2 then rI 1 A else rE E A)) (fun N => xbI (m_M_isTask 0 (zi x) N) (fun r A => if r = 0 then xbI (m_M_fails 0 1 0 0 A) (fun r A => if r = 0 then R2 A else rI v A) else xbI (m_M_fails 0 0 0 0 A) (fun r A => if r = 0 then R A else rI v A))) := by
  have hw := hI.1.1
  by_cases c : 0 ≤ x ∧ x < nT (bk M 0)
  · obtain ⟨y, M1, e1, f1, hp, e2, hR⟩ := hin x.toNat (by omega) (by omega)
    have hB : RB (xst M1 39 0 0 (.long (Int32.toInt64 y))) (bk M 0) := fun k hk => (gi_k (by decide)).trans (RB_Yc (RB_bk M) f1 k hk)
    have hB2 : RB (xst (xst M1 39 0 0 (.long (Int32.toInt64 y))) 27 0 9 (.int 0)) (bk M 0) := fun k hk => (gi_k (by decide)).trans (hB k hk)
    obtain ⟨M2, e3, f3⟩ := hR _ hB2
    refine QR_q hI f1 ?_ ?_ f3 hp
    · rw [s_reqT hI.1.2 h1 h2, if_pos c, xbV_r, e1, xhI_r, e2]
    · rw [r_isTask hB hw.1 h1 h2, xbI_r, decide_eq_true c, ite_bt, r_F0, e3]
  · have hB : RB (xbump M 1 6) (bk M 0) := fun k hk => (bump_gi (by decide)).trans (RB_bk M k hk)
    refine QR_f (c := 1) (v := v) hI (by decide) ?_ ?_ (fz_refl _)
    · rw [s_reqT hI.1.2 h1 h2, if_neg c, xbV_e, xhI_e, if_pos rfl]
    · rw [r_isTask hB hw.1 h1 h2, xbI_r, decide_eq_false c, ite_bf, r_F1]
/-- a call about one resource -/
theorem QU {P : Int32 → Prop} {M : xM} (hI : Inv M) {x : Int} (h1 : -2147483648 ≤ x) (h2 : x < 2147483648) {K R R2 : xM → xR} {kL : Int32 → xM → xR} {v : Int32} (hin : ∀ t : Nat, t < nR (bk M 0) → x = (t : Int) → ∃ y M1, K M = rI y M1 ∧ fr onYc M M1 ∧ P y ∧ kL y M1 = rI 0 (xst M1 39 0 0 (.long (Int32.toInt64 y))) ∧ ∀ N, RB N (bk M 0) → ∃ M2, R N = rI y M2 ∧ fz onB N M2) : QR P M (xhI (xbV (m_C_requireResource 0 (zi x) M) K) kL (fun E A => if E = 2 then rI 1 A else rE E A)) (fun N => xbI (m_M_isResource 0 (zi x) N) (fun r A => if r = 0 then xbI (m_M_fails 0 1 0 0 A) (fun r A => if r = 0 then R2 A else rI v A) else xbI (m_M_fails 0 0 0 0 A) (fun r A => if r = 0 then R A else rI v A))) := by
  have hw := hI.1.1
  by_cases c : 0 ≤ x ∧ x < nR (bk M 0)
  · obtain ⟨y, M1, e1, f1, hp, e2, hR⟩ := hin x.toNat (by omega) (by omega)
    have hB : RB (xst M1 39 0 0 (.long (Int32.toInt64 y))) (bk M 0) := fun k hk => (gi_k (by decide)).trans (RB_Yc (RB_bk M) f1 k hk)
    have hB2 : RB (xst (xst M1 39 0 0 (.long (Int32.toInt64 y))) 27 0 9 (.int 0)) (bk M 0) := fun k hk => (gi_k (by decide)).trans (hB k hk)
    obtain ⟨M2, e3, f3⟩ := hR _ hB2
    refine QR_q hI f1 ?_ ?_ f3 hp
    · rw [s_reqR hI.1.2 h1 h2, if_pos c, xbV_r, e1, xhI_r, e2]
    · rw [r_isRes hB hw.1 h1 h2, xbI_r, decide_eq_true c, ite_bt, r_F0, e3]
  · have hB : RB (xbump M 1 6) (bk M 0) := fun k hk => (bump_gi (by decide)).trans (RB_bk M k hk)
    refine QR_f (c := 1) (v := v) hI (by decide) ?_ ?_ (fz_refl _)
    · rw [s_reqR hI.1.2 h1 h2, if_neg c, xbV_e, xhI_e, if_pos rfl]
    · rw [r_isRes hB hw.1 h1 h2, xbI_r, decide_eq_false c, ite_bf, r_F1]
