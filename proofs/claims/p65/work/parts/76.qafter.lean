/-! the law counts followers by a walk that marks what it has seen -/
theorem beq_ff {a c : Nat} (h : a ≠ c) : Nat.beq a c = false := by
  cases e : Nat.beq a c with
  | false => rfl
  | true => exact absurd (Nat.eq_of_beq_eq_true e) h
theorem blt_t {a c : Nat} (h : a < c) : Nat.blt a c = true := Nat.ble_eq_true_of_le h
theorem D_lnk {n : Nat} {L : Nat → Nat → Bool} (h : acy n L) {t k : Nat} (ht : t < n) (hk : k < n) (hl : L t k = true) : aft n L t k = true := by
  rw [aft_eq h ht hk]
  exact anyN_iff.mpr ⟨t, ht, by rw [hl]; simp⟩
theorem D_snoc {n : Nat} {L : Nat → Nat → Bool} (h : acy n L) {t g x : Nat} (ht : t < n) (hg : g < n) (hx : x < n) (h1 : aft n L t g = true) (hl : L g x = true) : aft n L t x = true := by
  rw [aft_eq h ht hx]
  exact anyN_iff.mpr ⟨g, hg, by rw [hl, h1]; simp⟩
theorem D_irr {n : Nat} {L : Nat → Nat → Bool} {t : Nat} : aft n L t t = false := by
  cases e : aft n L t t with
  | false => rfl
  | true => exact absurd rfl (aft_iff.mp e).2
theorem D_last {n : Nat} {L : Nat → Nat → Bool} (h : acy n L) {t x : Nat} (ht : t < n) (hx : x < n) (h1 : aft n L t x = true) : ∃ g, g < n ∧ L g x = true ∧ (t = g ∨ aft n L t g = true) := by
  rw [aft_eq h ht hx] at h1
  obtain ⟨g, g1, g2⟩ := anyN_iff.mp h1
  rw [Bool.and_eq_true, Bool.or_eq_true] at g2
  exact ⟨g, g1, g2.1, g2.2.imp (fun e => by simpa using e) id⟩
theorem D_trans {n : Nat} {L : Nat → Nat → Bool} (h : acy n L) {t k : Nat} (ht : t < n) (hk : k < n) (h1 : aft n L t k = true) : ∀ x, x < n → aft n L k x = true → aft n L t x = true := by
  obtain ⟨rk, _, h2⟩ := h
  have ha : acy n L := ⟨rk, ‹_›, h2⟩
  have key : ∀ j x, rk x < j → x < n → aft n L k x = true → aft n L t x = true := by
    intro j
    induction j with
    | zero => intro x hj; omega
    | succ j ih =>
      intro x hj hx q
      obtain ⟨g, g1, g2, g3⟩ := D_last ha hk hx q
      have := h2 g x g1 hx g2
      rcases g3 with g3 | g3
      · subst g3
        exact D_snoc ha ht hk hx h1 g2
      · exact D_snoc ha ht g1 hx (ih g (by omega) g1 g3) g2
  exact fun x hx q => key (rk x + 1) x (by omega) hx q
theorem D_first {n : Nat} {L : Nat → Nat → Bool} (h : acy n L) {t : Nat} (ht : t < n) : ∀ x, x < n → aft n L t x = true → ∃ k, k < n ∧ L t k = true ∧ (k = x ∨ aft n L k x = true) := by
  obtain ⟨rk, _, h2⟩ := h
  have ha : acy n L := ⟨rk, ‹_›, h2⟩
  have key : ∀ j x, rk x < j → x < n → aft n L t x = true → ∃ k, k < n ∧ L t k = true ∧ (k = x ∨ aft n L k x = true) := by
    intro j
    induction j with
    | zero => intro x hj; omega
    | succ j ih =>
      intro x hj hx q
      obtain ⟨g, g1, g2, g3⟩ := D_last ha ht hx q
      have := h2 g x g1 hx g2
      rcases g3 with g3 | g3
      · subst g3
        exact ⟨x, hx, g2, Or.inl rfl⟩
      · obtain ⟨k, k1, k2, k3⟩ := ih g (by omega) g1 g3
        refine ⟨k, k1, k2, Or.inr ?_⟩
        rcases k3 with k3 | k3
        · subst k3; exact D_lnk ha k1 hx g2
        · exact D_snoc ha k1 g1 hx k3 g2
  exact fun x hx q => key (rk x + 1) x (by omega) hx q
/-- what is seen: numbers of the array a -/
def SE (M : xM) (a : Nat) (S : Nat → Bool) : Prop := ∀ k, k < 12 → gi M 29 a k = bz (S k)
def onN (a k o : Nat) : Bool := Nat.beq k 29 && Nat.beq o a
theorem onN_no {a k o : Nat} (h : k ≠ 29) : onN a k o = false := by
  unfold onN
  rw [beq_ff h]
  rfl
theorem onN_t {a : Nat} : onN a 29 a = true := Nat.beq_refl a
theorem CI_Q {K : Nat → Nat → Bool} {M M' : xM} {b : Nat → Int} (h : CI M b) (f : fr K M M') (hK : ∀ k o, k < 27 ∨ 29 < k → K k o = false) : CI M' b := by
  obtain ⟨h1, h2, h3, c, w, h4, h5, h6, h7⟩ := h
  exact ⟨h1, CP_fz h2 (fr_fz f) (fun k s a d => hK k 9 (by omega)), good_fr _ f (fun k o q => hK k o (by omega)) h3, c, w, h4, h5, (fr_gi f (hK 17 0 (by omega)) 2).trans h6, (fr_gi f (hK 17 0 (by omega)) 1).trans h7⟩
theorem QS_N {M M' : xM} {o a : Nat} {b : Nat → Int} (h : QS M o b) (f : fr (onN a) M M') : QS M' o b := ⟨CI_Q h.1 f (fun k o q => onN_no (by omega)), ⟨(fr_gn f (onN_no (by decide)) 0).trans h.2.1.1, (fr_gn f (onN_no (by decide)) 2).trans h.2.1.2⟩, (fr_gi f (onN_no (by decide)) 1).trans h.2.2.1, h.2.2.2⟩
/-- all that comes behind t or behind one of its followers below i -/
def seen (n : Nat) (L : Nat → Nat → Bool) (S : Nat → Bool) (t i : Nat) : Nat → Bool := fun x => S x || anyN i (fun k => L t k && (k == x || aft n L k x))
theorem cnt_or1 {P Q : Nat → Bool} {n x : Nat} (hx : x < n) (h1 : P x = false) (h2 : ∀ i, i < n → Q i = (P i || (i == x))) : cnt Q n = cnt P n + 1 := by
  have e : cnt Q n = cnt (addP P x) n := cnt_congr (fun i hi => h2 i hi)
  rw [e, cnt_addP hx h1]
theorem q_afterL {o j : Nat} {b : Nat → Int} (hj : j ≤ 7) (a : Nat) {t : Nat} (ht : t < nT b) (hrec : ∀ f, f < nT b → bL b t f = true → ∀ (M : xM) (S : Nat → Bool), QS M o b → SE M a S → (∀ x, x < nT b → S x = true → aft (nT b) (bL b) f x = true → ∀ y, y < nT b → aft (nT b) (bL b) x y = true → S y = true) → ∃ M1 S1, mAf (j + 1) o (zi (f : Nat)) a M = rI (zi ((cnt S1 (nT b) : Nat) - (cnt S (nT b) : Nat) : Int)) M1 ∧ fr (onN a) M M1 ∧ SE M1 a S1 ∧ ∀ x, x < nT b → S1 x = (S x || aft (nT b) (bL b) f x))
    {M : xM} {S : Nat → Bool} (h : QS M o b) (hs : SE M a S) (hc : ∀ x, x < nT b → S x = true → aft (nT b) (bL b) t x = true → ∀ y, y < nT b → aft (nT b) (bL b) x y = true → S y = true) : ∃ M1 S1, mAf j o (zi (t : Nat)) a M = rI (zi ((cnt S1 (nT b) : Nat) - (cnt S (nT b) : Nat) : Int)) M1 ∧ fr (onN a) M M1 ∧ SE M1 a S1 ∧ ∀ x, x < nT b → S1 x = (S x || aft (nT b) (bL b) t x) := by
  have hw := h.1.1.1
  have hn := CI_n h.1
  have ha := hw.2.2.2.2.2.2.2
  have key : (fun r => ∃ M1 S1, r = rI (zi ((cnt S1 (nT b) : Nat) - (cnt S (nT b) : Nat) : Int)) M1 ∧ fr (onN a) M M1 ∧ SE M1 a S1 ∧ ∀ x, x < nT b → S1 x = (S x || aft (nT b) (bL b) t x)) (bAf j o (zi (t : Nat)) a (zi ((cnt S (nT b) : Nat) - (cnt S (nT b) : Nat) : Int)) (zi ((0 : Nat) : Int)) M) := by
    refine lpM (B := fun i (q : xM × (Nat → Bool)) => bAf j o (zi (t : Nat)) a (zi ((cnt q.2 (nT b) : Nat) - (cnt S (nT b) : Nat) : Int)) (zi (i : Nat)) q.1) (n := nT b) (fun i q => fr (onN a) M q.1 ∧ SE q.1 a q.2 ∧ ∀ x, x < nT b → q.2 x = seen (nT b) (bL b) S t i x) (fun r => ∃ M1 S1, r = rI (zi ((cnt S1 (nT b) : Nat) - (cnt S (nT b) : Nat) : Int)) M1 ∧ fr (onN a) M M1 ∧ SE M1 a S1 ∧ ∀ x, x < nT b → S1 x = (S x || aft (nT b) (bL b) t x)) (fun i q hi v => ?_) (fun q v => ?_) 0 (M, S) (Nat.zero_le _) ⟨fr_refl M, hs, fun x hx => by unfold seen anyN; rw [Bool.or_false]⟩
    · obtain ⟨N, T⟩ := q
      obtain ⟨f, se, ch⟩ := v
      have f : fr (onN a) M N := f
      have se : SE N a T := se
      have ch : ∀ x, x < nT b → T x = seen (nT b) (bL b) S t i x := ch
      have hN := QS_N h f
      have nxt : ∀ x, seen (nT b) (bL b) S t (i + 1) x = (seen (nT b) (bL b) S t i x || (bL b t i && (i == x || aft (nT b) (bL b) i x))) := fun x => by
        unfold seen
        show (S x || (anyN i _ || _)) = _
        rw [Bool.or_assoc]
      show ∃ s' : xM × (Nat → Bool), (fr (onN a) M s'.1 ∧ SE s'.1 a s'.2 ∧ ∀ x, x < nT b → s'.2 x = seen (nT b) (bL b) S t (i + 1) x) ∧ bAf j o (zi (t : Nat)) a (zi ((cnt T (nT b) : Nat) - (cnt S (nT b) : Nat) : Int)) (zi (i : Nat)) N = bAf j o (zi (t : Nat)) a (zi ((cnt s'.2 (nT b) : Nat) - (cnt S (nT b) : Nat) : Int)) (zi ((i + 1 : Nat) : Int)) s'.1
      rw [eq_bAf hj]
      unfold bodyAf
      rw [hN.2.2.1, if_pos (zi_ltn hi (by omega)), if_pos hN.2.1.1, gdc hN.1 (xain2 _ _), c_link hN.1 ht hi, xret_I, xbI_r, ite_b, zi_suc]
      cases hb : bL b t i with
      | false =>
        rw [if_neg (by decide)]
        exact ⟨(N, T), ⟨f, se, fun x hx => by
          show T x = _
          rw [nxt, hb, ch x hx]; simp⟩, rfl⟩
      | true =>
        rw [if_pos rfl, xck_n (by omega) (by decide), xck_n (by omega) (by decide), zix (by omega), se i (by omega), ite_b]
        have dti : aft (nT b) (bL b) t i = true := D_lnk ha ht hi hb
        -- what is seen is seen with all that comes behind it
        have cl : ∀ m, m < nT b → T m = true → aft (nT b) (bL b) t m = true → ∀ y, y < nT b → aft (nT b) (bL b) m y = true → T y = true := fun m hm q1 q2 y hy q3 => by
          rw [ch m hm] at q1
          rw [ch y hy]
          unfold seen at q1 ⊢
          rw [Bool.or_eq_true] at q1 ⊢
          rcases q1 with q1 | q1
          · exact Or.inl (hc m hm q1 q2 y hy q3)
          · obtain ⟨k, k1, k2⟩ := anyN_iff.mp q1
            refine Or.inr (anyN_iff.mpr ⟨k, k1, ?_⟩)
            rw [Bool.and_eq_true, Bool.or_eq_true] at k2 ⊢
            refine ⟨k2.1, Or.inr ?_⟩
            rcases k2.2 with e | e
            · have e : k = m := by simpa using e
              subst e; exact q3
            · exact D_trans ha (by omega) hm e y hy q3
        cases hT : T i with
        | true =>
          rw [if_pos rfl]
          refine ⟨(N, T), ⟨f, se, fun x hx => ?_⟩, rfl⟩
          show T x = _
          rw [nxt, hb, ← ch x hx, Bool.true_and]
          cases hx2 : (i == x || aft (nT b) (bL b) i x) with
          | false => rw [Bool.or_false]
          | true =>
            rw [Bool.or_true]
            rw [Bool.or_eq_true] at hx2
            rcases hx2 with e | e
            · have e : i = x := by simpa using e
              subst e; exact hT
            · exact cl i hi hT dti x hx e
        | false =>
          rw [if_neg (by decide)]
          have f2 : fr (onN a) N (xst N 29 a i (.int 1)) := fr_st onN_t
          have se2 : SE (xst N 29 a i (.int 1)) a (fun x => T x || (x == i)) := fun k hk => by
            by_cases e : k = i
            · subst e
              rw [gi_h]
              show _ = bz (T k || (k == k))
              rw [hT]
              simp
              rfl
            · rw [gi_s e, se k hk]
              show _ = bz (T k || (k == i))
              have : (k == i) = false := by simp [e]
              rw [this, Bool.or_false]
          obtain ⟨M1, S1, e1, f1, se1, ch1⟩ := hrec i hi hb _ (fun x => T x || (x == i)) (QS_N hN f2) se2 (fun x hx q1 q2 y hy q3 => by
            have ne : (x == i) = false := by
              cases e : (x == i) with
              | false => rfl
              | true =>
                have e : x = i := by simpa using e
                subst e
                rw [D_irr] at q2; cases q2
            have q1 : (T x || (x == i)) = true := q1
            rw [ne, Bool.or_false] at q1
            have := cl x hx q1 (D_trans ha ht hi dti x hx q2) y hy q3
            show (T y || _) = true
            rw [this]; rfl)
          have cc : cnt (fun x => T x || (x == i)) (nT b) = cnt T (nT b) + 1 := cnt_or1 hi hT (fun _ _ => rfl)
          have e1 : mAf (j + 1) o (zi (i : Nat)) a (xst N 29 a i (.int (1 &&& 1))) = _ := e1
          refine ⟨(M1, S1), ⟨fr_trans f (fr_trans f2 f1), se1, fun x hx => ?_⟩, ?_⟩
          · show S1 x = _
            rw [ch1 x hx, nxt, hb, ← ch x hx, Bool.true_and]
            have : (x == i) = (i == x) := Bool.beq_comm
            rw [this, Bool.or_assoc]
          · rw [e1, xret_I, xbI_r, cc, zi_01, zi_add, zi_add]
            refine congrArg (fun z => bAf j o (zi (t : Nat)) a (zi z) (zi ((i + 1 : Nat) : Int)) M1) ?_
            show _ = ((cnt S1 (nT b) : Nat) : Int) - _
            omega
    · obtain ⟨N, T⟩ := q
      obtain ⟨f, se, ch⟩ := v
      have f : fr (onN a) M N := f
      have ch : ∀ x, x < nT b → T x = seen (nT b) (bL b) S t (nT b) x := ch
      have hN := QS_N h f
      refine ⟨N, T, ?_, f, se, fun x hx => ?_⟩
      · show bAf j o (zi (t : Nat)) a _ (zi (nT b : Nat)) N = _
        rw [eq_bAf hj]
        unfold bodyAf
        rw [hN.2.2.1, if_neg (zi_irr _)]
      · rw [ch x hx]
        unfold seen
        refine congrArg (fun z => S x || z) ?_
        cases e : aft (nT b) (bL b) t x with
        | true =>
          obtain ⟨k, k1, k2, k3⟩ := D_first ha ht x hx e
          exact anyN_iff.mpr ⟨k, k1, by rw [k2, Bool.true_and, Bool.or_eq_true]; exact k3.imp (fun e => by simp [e]) id⟩
        | false =>
          refine anyN_no.mpr (fun k hk => ?_)
          cases hb : bL b t k with
          | false => rfl
          | true =>
            rw [Bool.true_and, Bool.or_eq_false_iff]
            refine ⟨?_, ?_⟩
            · cases q : (k == x) with
              | false => rfl
              | true =>
                have q : k = x := by simpa using q
                subst q
                rw [D_lnk ha ht hk hb] at e; cases e
            · cases q : aft (nT b) (bL b) k x with
              | false => rfl
              | true => rw [D_trans ha ht hk (D_lnk ha ht hk hb) x hx q] at e; cases e
  rw [Int.sub_self] at key
  rw [eq_mAf hj]
  exact key
theorem q_afterA {b : Nat → Int} {o : Nat} (a : Nat) {rk : Nat → Nat} (h7 : ∀ t, t < nT b → rk t ≤ 7) (hrk : ∀ f t, f < nT b → t < nT b → bL b f t = true → rk f < rk t) : ∀ k j t, j + k = 7 → j ≤ rk t → t < nT b → ∀ (M : xM) (S : Nat → Bool), QS M o b → SE M a S → (∀ x, x < nT b → S x = true → aft (nT b) (bL b) t x = true → ∀ y, y < nT b → aft (nT b) (bL b) x y = true → S y = true) → ∃ M1 S1, mAf j o (zi (t : Nat)) a M = rI (zi ((cnt S1 (nT b) : Nat) - (cnt S (nT b) : Nat) : Int)) M1 ∧ fr (onN a) M M1 ∧ SE M1 a S1 ∧ ∀ x, x < nT b → S1 x = (S x || aft (nT b) (bL b) t x) := by
  intro k
  induction k with
  | zero =>
    intro j t hj hk ht M S h hs hc
    refine q_afterL (by omega) a ht (fun f hf hl => ?_) h hs hc
    have := hrk t f ht hf hl
    have := h7 f hf
    omega
  | succ k ih =>
    intro j t hj hk ht M S h hs hc
    refine q_afterL (by omega) a ht (fun f hf hl => ih (j + 1) f (by omega) ?_ hf) h hs hc
    have := hrk t f ht hf hl
    omega
/-- on a fresh array -/
theorem q_after {b : Nat → Int} {o a : Nat} {M : xM} (h : QS M o b) {t : Nat} (ht : t < nT b) (hs : SE M a (fun _ => false)) : ∃ M1, m_Q_after_0 o (zi (t : Nat)) a M = rI (zi (cnt (fun x => aft (nT b) (bL b) t x) (nT b) : Nat)) M1 ∧ fr (onN a) M M1 := by
  obtain ⟨rk, h1, h2⟩ := acy_rk h.1.1 h.2.2.2
  obtain ⟨M1, S1, e1, f1, _, ch⟩ := q_afterA (o := o) a h1 h2 7 0 t rfl (Nat.zero_le _) ht M _ h hs (fun x _ q => nomatch q)
  have c0 : cnt (fun _ => false) (nT b) = 0 := by
    have : ∀ n, cnt (fun _ => false) n = 0 := by
      intro n
      induction n with
      | zero => rfl
      | succ n ih => show cnt _ n + 0 = 0; rw [ih]
    exact this _
  have c1 : cnt S1 (nT b) = cnt (fun x => aft (nT b) (bL b) t x) (nT b) := cnt_congr (fun x hx => by rw [ch x hx]; rfl)
  rw [c0, c1] at e1
  have e1 : m_Q_after_0 o (zi (t : Nat)) a M = _ := e1
  refine ⟨M1, ?_, f1⟩
  rw [e1]
  refine congrArg (fun z => rI (zi z) M1) ?_
  show _ - ((0 : Nat) : Int) = _
  omega
