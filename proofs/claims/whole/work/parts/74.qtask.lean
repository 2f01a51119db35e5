/-! calls about tasks -/
def PT : Int32 → Prop := fun _ => True
def PB : Int32 → Prop := fun v => ∃ c : Bool, v = bz c
theorem kB (c : Bool) (M1 : xM) : (if bz c = 0 then xck 0 1 (rI 0 (xst M1 39 0 (ix 0) (.long 0))) else xck 0 1 (rI 0 (xst M1 39 0 (ix 0) (.long 1)))) = rI 0 (xst M1 39 0 0 (.long (Int32.toInt64 (bz c)))) := by
  rw [xck_01, xck_01]
  cases c <;> rfl
theorem QR_id {P : Int32 → Prop} {M : xM} {r : xR} {r2 : xM → xR} (q : QR P M r r2) : QR P M r (fun N => xbI (r2 N) (fun x A => rI x A)) := by
  obtain ⟨c, M1, M2, v, h1, h2, h3⟩ := q
  exact ⟨c, M1, M2, v, h1, by show xbI (r2 M1) _ = _; rw [h2, xbI_r], h3⟩
theorem CP_Yc {M M' : xM} {b : Nat → Int} (h : CP M 9 b) (f : fr onYc M M') : CP M' 9 b := CP_fz h (fr_fz f) (fun k s _ _ => by
  show onYc k 9 = false
  cases e : onYc k 9 with
  | true => have := (onYc_i e).1; omega
  | false => rfl)
theorem B_E {M M' : xM} (f : fz onE M M') : fz onB M M' := fz_mono (fun k o s h => by
  unfold onE at h
  unfold onB
  rw [Bool.and_eq_true, Bool.or_eq_true, Bool.or_eq_true] at h
  rw [h.1, Bool.true_and]
  rcases h.2 with h2 | h2 | h2
  · rw [h2]; rfl
  · rw [Nat.eq_of_beq_eq_true h2, Bool.or_eq_true]; exact Or.inr rfl
  · rw [Nat.eq_of_beq_eq_true h2, Bool.or_eq_true]; exact Or.inr rfl) f
theorem B_32 {M M' : xM} (f : fz on32 M M') : fz onB M M' := fz_mono (fun k o s h => by
  unfold on32 at h
  unfold onB
  rw [Bool.and_eq_true] at h
  rw [h.1, Bool.true_and, Nat.eq_of_beq_eq_true h.2, Bool.or_eq_true]; exact Or.inr rfl) f
theorem cnt_cut {P : Nat → Bool} {n : Nat} : ∀ m, n ≤ m → (∀ i, n ≤ i → i < m → P i = false) → cnt P m = cnt P n := by
  intro m
  induction m with
  | zero => intro h _; rw [show n = 0 by omega]
  | succ m ih =>
    intro h q
    by_cases e : n = m + 1
    · rw [e]
    · show cnt P m + (if P m then 1 else 0) = _
      rw [ih (by omega) (fun i h1 h2 => q i h1 (by omega)), q m (by omega) (by omega)]
      rfl
theorem bL_out {b : Nat → Int} (hl : wL b) {f t : Nat} (hf : f < 12) (ht : t < 12) (h : nT b ≤ f ∨ nT b ≤ t) : bL b f t = false := by
  unfold bL
  refine decide_eq_false (fun q => ?_)
  have := (hl f t hf ht).2 q
  omega
theorem q_duration {M : xM} (hI : Inv M) (x : Int32) : QR PT M (m_L_duration 0 x 0 M) (m_M_duration 0 x) := by
  obtain ⟨x, rfl, h1, h2⟩ := zi_ex x
  refine QR_ext (fun N => e_m_M_duration _ _ _) (QR_id (QR_ext (fun N => e_m_M_field _ _ _ _) ?_))
  rw [e_m_L_duration, e_m_C_duration]
  refine QT hI h1 h2 (fun t ht hx => ?_)
  subst hx
  have hn := CP_n hI.1.2
  refine ⟨zi (bD (bk M 0) t), M, ?_, fr_refl M, trivial, xck_01 _, fun N hN => ⟨N, ?_, fz_refl N⟩⟩
  · show xck _ _ _ = _
    rw [xck_n (by omega) (by decide), zix (by omega), CP_D hI.1.2 ht]
  · show xbI _ _ = _
    rw [r_D hN (by omega), xbI_r]
theorem q_release {M : xM} (hI : Inv M) (x : Int32) : QR PT M (m_L_release 0 x 0 M) (m_M_release 0 x) := by
  obtain ⟨x, rfl, h1, h2⟩ := zi_ex x
  refine QR_ext (fun N => e_m_M_release _ _ _) (QR_id (QR_ext (fun N => e_m_M_field _ _ _ _) ?_))
  rw [e_m_L_release, e_m_C_release]
  refine QT hI h1 h2 (fun t ht hx => ?_)
  subst hx
  have hn := CP_n hI.1.2
  refine ⟨zi (bE (bk M 0) t), M, ?_, fr_refl M, trivial, xck_01 _, fun N hN => ⟨N, ?_, fz_refl N⟩⟩
  · show xck _ _ _ = _
    rw [xck_n (by omega) (by decide), zix (by omega), CP_E hI.1.2 ht]
  · show xbI _ _ = _
    rw [r_E hN (by omega), xbI_r]
/-- both sides reckon the dates -/
theorem cls_D {M : xM} (hI : Inv M) : ∃ M1, m_C_currentDates 0 M = some (.inl (some (10, .ref 0)), M1) ∧ fr onYc M M1 ∧ DT M1 (bk M 0) ∧ CP M1 9 (bk M 0) := by
  obtain ⟨M1, e1, f1, d1⟩ := s_dates hI.1.2 hI.1.1.1 hI.1.1.2.1
  exact ⟨M1, by rw [e_m_C_currentDates, e1, xbV_r], Yc_D f1, d1, CP_Yc hI.1.2 (Yc_D f1)⟩
theorem cls_S {M : xM} (hI : Inv M) : ∃ M1, m_C_currentSchedule 0 M = some (.inl (some (15, .ref 0)), M1) ∧ fr onYc M M1 ∧ SD M1 (bk M 0) ∧ CP M1 9 (bk M 0) := by
  obtain ⟨M1, e1, f1, d1⟩ := s_build hI.1.2 hI.1.1.1 hI.1.1.2.1
  exact ⟨M1, by rw [e_m_C_currentSchedule, e1, xbV_r], Yc_S f1, d1, CP_Yc hI.1.2 (Yc_S f1)⟩
theorem q_earliestStart {M : xM} (hI : Inv M) (x : Int32) : QR PT M (m_L_earliestStart 0 x 0 M) (m_M_earliestStart 0 x) := by
  obtain ⟨x, rfl, h1, h2⟩ := zi_ex x
  refine QR_ext (fun N => e_m_M_earliestStart _ _ _) ?_
  rw [e_m_L_earliestStart, e_m_C_earliestStart]
  refine QT hI h1 h2 (fun t ht hx => ?_)
  subst hx
  have hn := CP_n hI.1.2
  obtain ⟨M1, e1, f1, d1, c1⟩ := cls_D hI
  refine ⟨zi (esB (bk M 0) t), M1, ?_, f1, trivial, xck_01 _, fun N hN => ?_⟩
  · show xbR _ _ _ = _
    rw [e1, xbR_r, xck_n (by omega) (by decide), zix (by omega), (d1.2 t ht).2.2.1]
  · obtain ⟨M2, e2, f2, d2⟩ := r_dates hN hI.1.1.1 hI.1.1.2.1
    refine ⟨M2, ?_, B_E f2⟩
    show xbV _ _ = _
    rw [e2, xbV_r, xck_n (by omega) (by decide), zix (by omega), (d2.2 t ht).1]
theorem q_latestStart {M : xM} (hI : Inv M) (x : Int32) : QR PT M (m_L_latestStart 0 x 0 M) (m_M_latestStart 0 x) := by
  obtain ⟨x, rfl, h1, h2⟩ := zi_ex x
  refine QR_ext (fun N => e_m_M_latestStart _ _ _) ?_
  rw [e_m_L_latestStart, e_m_C_latestStart]
  refine QT hI h1 h2 (fun t ht hx => ?_)
  subst hx
  have hn := CP_n hI.1.2
  obtain ⟨M1, e1, f1, d1, c1⟩ := cls_D hI
  refine ⟨zi (lsB (bk M 0) t), M1, ?_, f1, trivial, xck_01 _, fun N hN => ?_⟩
  · show xbR _ _ _ = _
    rw [e1, xbR_r, xck_n (by omega) (by decide), zix (by omega), (d1.2 t ht).2.2.2]
  · obtain ⟨M2, e2, f2, d2⟩ := r_dates hN hI.1.1.1 hI.1.1.2.1
    refine ⟨M2, ?_, B_E f2⟩
    show xbV _ _ = _
    rw [e2, xbV_r, xck_n (by omega) (by decide), zix (by omega), (d2.2 t ht).2]
theorem q_slack {M : xM} (hI : Inv M) (x : Int32) : QR PT M (m_L_slack 0 x 0 M) (m_M_slack 0 x) := by
  obtain ⟨x, rfl, h1, h2⟩ := zi_ex x
  refine QR_ext (fun N => e_m_M_slack _ _ _) ?_
  rw [e_m_L_slack, e_m_C_slack]
  refine QT hI h1 h2 (fun t ht hx => ?_)
  subst hx
  have hn := CP_n hI.1.2
  obtain ⟨M1, e1, f1, d1, c1⟩ := cls_D hI
  refine ⟨zi (lsB (bk M 0) t - esB (bk M 0) t), M1, ?_, f1, trivial, xck_01 _, fun N hN => ?_⟩
  · show xbR _ _ _ = _
    rw [e1, xbR_r, s_slack c1 d1 ht, xbI_r]
  · obtain ⟨M2, e2, f2, d2⟩ := r_dates hN hI.1.1.1 hI.1.1.2.1
    refine ⟨M2, ?_, B_E f2⟩
    show xbV _ _ = _
    rw [e2, xbV_r, xck_n (by omega) (by decide), xck_n (by omega) (by decide), zix (by omega), (d2.2 t ht).1, (d2.2 t ht).2, zi_sub]
theorem q_isCritical {M : xM} (hI : Inv M) (x : Int32) : QR PB M (m_L_isCritical 0 x 0 M) (m_M_isCritical 0 x) := by
  obtain ⟨x, rfl, h1, h2⟩ := zi_ex x
  refine QR_ext (fun N => e_m_M_isCritical _ _ _) ?_
  rw [e_m_L_isCritical, e_m_C_isCritical]
  refine QT hI h1 h2 (fun t ht hx => ?_)
  subst hx
  have hn := CP_n hI.1.2
  have hw := hI.1.1.1
  have b1 := esB_lo hw ht
  have b2 := esB_hi hw ht
  have b3 := lsB_lo hw ht
  have b4 := lsB_hi hw ht
  have b5 := etB_hi hw
  have b6 := hw.2.2.2.1 t ht
  obtain ⟨M1, e1, f1, d1, c1⟩ := cls_D hI
  refine ⟨bz (decide (lsB (bk M 0) t = esB (bk M 0) t)), M1, ?_, f1, ⟨_, rfl⟩, kB _ _, fun N hN => ?_⟩
  · show xbR _ _ _ = _
    rw [e1, xbR_r, s_slack c1 d1 ht, xbI_r, zi_00, zife (by omega) (by omega) (by decide) (by decide), ← zi_00, xnar_0, xnar_1]
    by_cases c : lsB (bk M 0) t = esB (bk M 0) t
    · rw [if_pos (by omega), decide_eq_true c]
    · rw [if_neg (by omega), decide_eq_false c]
  · obtain ⟨M2, e2, f2, d2⟩ := r_dates hN hI.1.1.1 hI.1.1.2.1
    refine ⟨M2, ?_, B_E f2⟩
    show xbV _ _ = _
    rw [e2, xbV_r, xck_n (by omega) (by decide), xck_n (by omega) (by decide), zix (by omega), (d2.2 t ht).1, (d2.2 t ht).2, zife (by omega) (by omega) (by omega) (by omega), xnar_0, xnar_1]
    by_cases c : lsB (bk M 0) t = esB (bk M 0) t
    · rw [if_pos c, decide_eq_true c]
    · rw [if_neg c, decide_eq_false c]
theorem q_followerCount {M : xM} (hI : Inv M) (x : Int32) : QR PT M (m_L_followerCount 0 x 0 M) (m_M_followerCount 0 x) := by
  obtain ⟨x, rfl, h1, h2⟩ := zi_ex x
  refine QR_ext (fun N => e_m_M_followerCount _ _ _) ?_
  rw [e_m_L_followerCount, e_m_C_followerCount]
  refine QT hI h1 h2 (fun t ht hx => ?_)
  subst hx
  obtain ⟨M1, e1, f1, d1, c1⟩ := cls_D hI
  refine ⟨zi (cnt (fun x => aft (nT (bk M 0)) (bL (bk M 0)) t x) (nT (bk M 0)) : Nat), M1, ?_, f1, trivial, xck_01 _, fun N hN => ?_⟩
  · show xbR _ _ _ = _
    rw [e1, xbR_r, s_followers c1 d1 ht, xbI_r]
  · obtain ⟨M2, e2, f2⟩ := r_followers hN hI.1.1.1 hI.1.1.2.1 ht
    refine ⟨M2, ?_, B_32 f2⟩
    show xbI _ _ = _
    rw [e2, xbI_r]
theorem q_predecessorCount {M : xM} (hI : Inv M) (x : Int32) : QR PT M (m_L_predecessorCount 0 x 0 M) (m_M_predecessorCount 0 x) := by
  obtain ⟨x, rfl, h1, h2⟩ := zi_ex x
  refine QR_ext (fun N => e_m_M_predecessorCount _ _ _) ?_
  rw [e_m_L_predecessorCount, e_m_C_predecessorCount]
  refine QT hI h1 h2 (fun t ht hx => ?_)
  subst hx
  have hn := CP_n hI.1.2
  refine ⟨zi (cnt (fun f => bL (bk M 0) f t) (nT (bk M 0)) : Nat), M, ?_, fr_refl M, trivial, xck_01 _, fun N hN => ⟨N, r_pred hN hI.1.1.1 hI.1.1.2.1 ht, fz_refl N⟩⟩
  show xck _ _ _ = _
  rw [xck_n (by omega) (by decide), zix (by omega), CP_L hI.1.2 ht, s_bits, xret_I, xbI_r, cnt_cut (n := nT (bk M 0)) 12 hn (fun i g1 g2 => bL_out hI.1.1.2.1 g2 (by omega) (Or.inl g1))]
theorem q_freeSlack {M : xM} (hI : Inv M) (x : Int32) : QR PT M (m_L_freeSlack 0 x 0 M) (m_M_freeSlack 0 x) := by
  obtain ⟨x, rfl, h1, h2⟩ := zi_ex x
  refine QR_ext (fun N => e_m_M_freeSlack _ _ _) ?_
  rw [e_m_L_freeSlack, e_m_C_freeSlack]
  refine QT hI h1 h2 (fun t ht hx => ?_)
  subst hx
  obtain ⟨M1, e1, f1, d1, c1⟩ := cls_D hI
  refine ⟨zi (fsB (bk M 0) t), M1, ?_, f1, trivial, xck_01 _, fun N hN => ?_⟩
  · show xbR _ _ _ = _
    rw [e1, xbR_r, s_fslack c1 hI.1.1.1 d1 ht, xbI_r]
  · obtain ⟨M2, e2, f2, d2⟩ := r_dates hN hI.1.1.1 hI.1.1.2.1
    refine ⟨M2, ?_, B_E f2⟩
    show xbV _ _ = _
    rw [e2, xbV_r, r_fslack (RB_E hN f2) hI.1.1.1 hI.1.1.2.1 d2 ht]
theorem q_startDay {M : xM} (hI : Inv M) (x : Int32) : QR PT M (m_L_startDay 0 x 0 M) (m_M_startDay 0 x) := by
  obtain ⟨x, rfl, h1, h2⟩ := zi_ex x
  refine QR_ext (fun N => e_m_M_startDay _ _ _) ?_
  rw [e_m_L_startDay, e_m_C_startDay]
  refine QT hI h1 h2 (fun t ht hx => ?_)
  subst hx
  have hn := CP_n hI.1.2
  obtain ⟨M1, e1, f1, d1, c1⟩ := cls_S hI
  refine ⟨zi (stB (bk M 0) t), M1, ?_, f1, trivial, xck_01 _, fun N hN => ?_⟩
  · show xbR _ _ _ = _
    rw [e1, xbR_r, xck_n (by omega) (by decide), zix (by omega), d1.2.2.1 t ht]
  · obtain ⟨M2, e2, f2, d2⟩ := r_build hN hI.1.1.1 hI.1.1.2.1
    refine ⟨M2, ?_, f2⟩
    show xbI _ _ = _
    rw [e2, xbI_r, xck_n (by omega) (by decide), zix (by omega), (d2.2.1 t ht).1]
theorem q_finishDay {M : xM} (hI : Inv M) (x : Int32) : QR PT M (m_L_finishDay 0 x 0 M) (m_M_finishDay 0 x) := by
  obtain ⟨x, rfl, h1, h2⟩ := zi_ex x
  refine QR_ext (fun N => e_m_M_finishDay _ _ _) ?_
  rw [e_m_L_finishDay, e_m_C_finishDay]
  refine QT hI h1 h2 (fun t ht hx => ?_)
  subst hx
  have hn := CP_n hI.1.2
  obtain ⟨M1, e1, f1, d1, c1⟩ := cls_S hI
  refine ⟨zi (stB (bk M 0) t + bD (bk M 0) t), M1, ?_, f1, trivial, xck_01 _, fun N hN => ?_⟩
  · show xbR _ _ _ = _
    rw [e1, xbR_r, xck_n (by omega) (by decide), xck_n (by omega) (by decide), zix (by omega), d1.2.2.1 t ht, CP_D c1 ht, zi_add]
  · obtain ⟨M2, e2, f2, d2⟩ := r_build hN hI.1.1.1 hI.1.1.2.1
    refine ⟨M2, ?_, f2⟩
    show xbI _ _ = _
    rw [e2, xbI_r, e_m_M_finishOf, xck_n (by omega) (by decide), r_D (RB_B hN f2) (by omega), xbI_r, zix (by omega), (d2.2.1 t ht).1, zi_add, xbI_r]
theorem q_delay {M : xM} (hI : Inv M) (x : Int32) : QR PT M (m_L_delay 0 x 0 M) (m_M_delay 0 x) := by
  obtain ⟨x, rfl, h1, h2⟩ := zi_ex x
  refine QR_ext (fun N => e_m_M_delay _ _ _) ?_
  rw [e_m_L_delay, e_m_C_delay]
  refine QT hI h1 h2 (fun t ht hx => ?_)
  subst hx
  have hn := CP_n hI.1.2
  obtain ⟨M1, e1, f1, d1, c1⟩ := cls_S hI
  refine ⟨zi (stB (bk M 0) t - esB (bk M 0) t), M1, ?_, f1, trivial, xck_01 _, fun N hN => ?_⟩
  · show xbR _ _ _ = _
    rw [e1, xbR_r, xck_n (by omega) (by decide), xck_n (by omega) (by decide), zix (by omega), d1.2.2.1 t ht, (d1.1.2 t ht).2.2.1, zi_sub]
  · obtain ⟨M2, e2, f2, d2⟩ := r_build hN hI.1.1.1 hI.1.1.2.1
    refine ⟨M2, ?_, f2⟩
    show xbI _ _ = _
    rw [e2, xbI_r, xck_n (by omega) (by decide), xck_n (by omega) (by decide), zix (by omega), (d2.2.1 t ht).1, (d2.1.2 t ht).1, zi_sub]
/-- a call about two tasks -/
theorem Q2 {P : Int32 → Prop} {M : xM} (hI : Inv M) {x y : Int} (h1 : -2147483648 ≤ x) (h2 : x < 2147483648) (h3 : -2147483648 ≤ y) (h4 : y < 2147483648) {K R R2 : xM → xR} {kL : Int32 → xM → xR} {v : Int32} (hin : ∀ f t : Nat, f < nT (bk M 0) → t < nT (bk M 0) → x = (f : Int) → y = (t : Int) → ∃ y M1, K M = rI y M1 ∧ fr onYc M M1 ∧ P y ∧ kL y M1 = rI 0 (xst M1 39 0 0 (.long (Int32.toInt64 y))) ∧ ∀ N, RB N (bk M 0) → ∃ M2, R N = rI y M2 ∧ fz onB N M2) : QR P M (xhI (xbV (m_C_requireTask 0 (zi x) M) (fun A => xbV (m_C_requireTask 0 (zi y) A) K)) kL (fun E A => if E = 2 then rI 1 A else rE E A)) (fun N => xbI (m_M_areTasks 0 (zi x) (zi y) N) (fun r A => if r = 0 then xbI (m_M_fails 0 1 0 0 A) (fun r A => if r = 0 then R2 A else rI v A) else xbI (m_M_fails 0 0 0 0 A) (fun r A => if r = 0 then R A else rI v A))) := by
  have hw := hI.1.1
  have hBb : RB (xbump M 1 6) (bk M 0) := fun k hk => (bump_gi (by decide)).trans (RB_bk M k hk)
  by_cases c : 0 ≤ x ∧ x < nT (bk M 0)
  · by_cases d : 0 ≤ y ∧ y < nT (bk M 0)
    · obtain ⟨z, M1, e1, f1, hp, e2, hR⟩ := hin x.toNat y.toNat (by omega) (by omega) (by omega) (by omega)
      have hB : RB (xst M1 39 0 0 (.long (Int32.toInt64 z))) (bk M 0) := fun k hk => (gi_k (by decide)).trans (RB_Yc (RB_bk M) f1 k hk)
      have hB2 : RB (xst (xst M1 39 0 0 (.long (Int32.toInt64 z))) 27 0 9 (.int 0)) (bk M 0) := fun k hk => (gi_k (by decide)).trans (hB k hk)
      obtain ⟨M2, e3, f3⟩ := hR _ hB2
      refine QR_q hI f1 ?_ ?_ f3 hp
      · rw [s_reqT hI.1.2 h1 h2, if_pos c, xbV_r, s_reqT hI.1.2 h3 h4, if_pos d, xbV_r, e1, xhI_r, e2]
      · rw [r_areTasks hB hw.1 h1 h2 h3 h4, xbI_r, decide_eq_true c, decide_eq_true d, Bool.and_self, ite_bt, r_F0, e3]
    · refine QR_f (c := 1) (v := v) hI (by decide) ?_ ?_ (fz_refl _)
      · rw [s_reqT hI.1.2 h1 h2, if_pos c, xbV_r, s_reqT hI.1.2 h3 h4, if_neg d, xbV_e, xhI_e, if_pos rfl]
      · rw [r_areTasks hBb hw.1 h1 h2 h3 h4, xbI_r, decide_eq_false d, Bool.and_false, ite_bf, r_F1]
  · refine QR_f (c := 1) (v := v) hI (by decide) ?_ ?_ (fz_refl _)
    · rw [s_reqT hI.1.2 h1 h2, if_neg c, xbV_e, xhI_e, if_pos rfl]
    · rw [r_areTasks hBb hw.1 h1 h2 h3 h4, xbI_r, decide_eq_false c, Bool.false_and, ite_bf, r_F1]
theorem q_hasLink {M : xM} (hI : Inv M) (x y : Int32) : QR PB M (m_L_hasLink 0 x y 0 M) (m_M_hasLink 0 x y) := by
  obtain ⟨x, rfl, h1, h2⟩ := zi_ex x
  obtain ⟨y, rfl, h3, h4⟩ := zi_ex y
  refine QR_ext (fun N => e_m_M_hasLink _ _ _ _) ?_
  rw [e_m_L_hasLink, e_m_C_hasLink]
  refine Q2 hI h1 h2 h3 h4 (fun f t hf ht hx hy => ?_)
  subst hx; subst hy
  have hn := CP_n hI.1.2
  refine ⟨bz (bL (bk M 0) f t), M, ?_, fr_refl M, ⟨_, rfl⟩, kB _ _, fun N hN => ⟨N, ?_, fz_refl N⟩⟩
  · show xbI _ _ = _
    rw [s_isLinked hI.1.2 (by omega) ht, xbI_r, xnar_b]
  · show xbI _ _ = _
    rw [r_link hN hI.1.1.2.1 (by omega) (by omega), xbI_r, xnar_b]
theorem q_isBefore {M : xM} (hI : Inv M) (x y : Int32) : QR PB M (m_L_isBefore 0 x y 0 M) (m_M_isBefore 0 x y) := by
  obtain ⟨x, rfl, h1, h2⟩ := zi_ex x
  obtain ⟨y, rfl, h3, h4⟩ := zi_ex y
  refine QR_ext (fun N => e_m_M_isBefore _ _ _ _) ?_
  rw [e_m_L_isBefore, e_m_C_isBefore]
  refine Q2 hI h1 h2 h3 h4 (fun f t hf ht hx hy => ?_)
  subst hx; subst hy
  have hn := CP_n hI.1.2
  obtain ⟨M1, e1, f1, d1, c1⟩ := cls_D hI
  refine ⟨bz (aft (nT (bk M 0)) (bL (bk M 0)) f t), M1, ?_, f1, ⟨_, rfl⟩, kB _ _, fun N hN => ?_⟩
  · show xbR _ _ _ = _
    rw [e1, xbR_r, xck_n (by omega) (by decide), zix (by omega), (d1.2 t ht).2.1, e_m_C_contains, mk_has _ (by omega), xnar_0, xnar_1]
    cases aft (nT (bk M 0)) (bL (bk M 0)) f t <;> rfl
  · obtain ⟨M2, e2, f2⟩ := r_goes hN hI.1.1.1 hI.1.1.2.1 hf ht
    refine ⟨M2, ?_, B_32 f2⟩
    show xbI _ _ = _
    rw [e2, xbI_r, xnar_b]
theorem q_closedCycleLength {M : xM} (hI : Inv M) (x y : Int32) : QR PT M (m_L_closedCycleLength 0 x y 0 M) (m_M_closedCycleLength 0 x y) := by
  obtain ⟨x, rfl, h1, h2⟩ := zi_ex x
  obtain ⟨y, rfl, h3, h4⟩ := zi_ex y
  refine QR_ext (fun N => e_m_M_closedCycleLength _ _ _ _) ?_
  rw [e_m_L_closedCycleLength, e_m_C_closedCycleLength]
  refine Q2 hI h1 h2 h3 h4 (fun f t hf ht hx hy => ?_)
  subst hx; subst hy
  refine ⟨zi (if dF (nT (bk M 0)) (bL (bk M 0)) t (nT (bk M 0)) f = -1 then -1 else dF (nT (bk M 0)) (bL (bk M 0)) t (nT (bk M 0)) f + 1), M, ?_, fr_refl M, trivial, xck_01 _, fun N hN => ?_⟩
  · show xbI _ _ = _
    rw [s_cycle hI.1.2 hf ht hI.1.1.1.2.2.2.2.2.2.2, xbI_r]
  · obtain ⟨M2, e2, f2⟩ := r_cycle hN hI.1.1.1 hI.1.1.2.1 hf ht
    refine ⟨M2, ?_, B_32 f2⟩
    show xbI _ _ = _
    rw [e2, xbI_r]
