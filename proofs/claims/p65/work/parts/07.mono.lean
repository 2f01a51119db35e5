theorem and_l {a b : Bool} (h : (a && b) = true) : a = true := by
  cases a
  · cases h
  · rfl
theorem and_r {a b : Bool} (h : (a && b) = true) : b = true := by
  cases a
  · cases h
  · exact h
theorem xgd_ok {b : Bool} {k : xR} (h : b = true) : xgd b k = k := by rw [h]; rfl
theorem xgd_some {b : Bool} {k : xR} {q} (h : xgd b k = some q) : b = true ∧ k = some q := by
  cases b
  · cases h
  · exact ⟨rfl, h⟩
theorem xck_some {i : Int32} {n : Nat} {k : xR} {r} (h : xck i n k = some r) : ¬ (i < 0 ∨ n ≤ ix i) ∧ k = some r := by
  unfold xck at h
  split at h
  · cases h
  · exact ⟨‹_›, h⟩
theorem xck_ok {i : Int32} {n : Nat} {k : xR} (h : ¬ (i < 0 ∨ n ≤ ix i)) : xck i n k = k := if_neg h
theorem xbI_some {r : xR} {f} {q} (h : xbI r f = some q) : (∃ k x M, r = some (.inl (some (k, .int x)), M) ∧ f x M = some q) ∨ ∃ E M, r = some (.inr E, M) ∧ q = (.inr E, M) := by
  unfold xbI at h
  split at h
  · exact Or.inl ⟨_, _, _, rfl, h⟩
  · exact Or.inr ⟨_, _, rfl, (Option.some.inj h).symm⟩
  · cases h
theorem xbL_some {r : xR} {f} {q} (h : xbL r f = some q) : (∃ k x M, r = some (.inl (some (k, .long x)), M) ∧ f x M = some q) ∨ ∃ E M, r = some (.inr E, M) ∧ q = (.inr E, M) := by
  unfold xbL at h
  split at h
  · exact Or.inl ⟨_, _, _, rfl, h⟩
  · exact Or.inr ⟨_, _, rfl, (Option.some.inj h).symm⟩
  · cases h
theorem xbF_some {r : xR} {f} {q} (h : xbF r f = some q) : (∃ k x M, r = some (.inl (some (k, .float x)), M) ∧ f x M = some q) ∨ ∃ E M, r = some (.inr E, M) ∧ q = (.inr E, M) := by
  unfold xbF at h
  split at h
  · exact Or.inl ⟨_, _, _, rfl, h⟩
  · exact Or.inr ⟨_, _, rfl, (Option.some.inj h).symm⟩
  · cases h
theorem xbD_some {r : xR} {f} {q} (h : xbD r f = some q) : (∃ k x M, r = some (.inl (some (k, .double x)), M) ∧ f x M = some q) ∨ ∃ E M, r = some (.inr E, M) ∧ q = (.inr E, M) := by
  unfold xbD at h
  split at h
  · exact Or.inl ⟨_, _, _, rfl, h⟩
  · exact Or.inr ⟨_, _, rfl, (Option.some.inj h).symm⟩
  · cases h
theorem xbR_some {r : xR} {kx : Nat} {f} {q} (h : xbR r kx f = some q) : (∃ x M, r = some (.inl (some (kx, .ref x)), M) ∧ f x M = some q) ∨ ∃ E M, r = some (.inr E, M) ∧ q = (.inr E, M) := by
  unfold xbR at h
  split at h
  · split at h
    · rename_i e
      subst e
      exact Or.inl ⟨_, _, rfl, h⟩
    · cases h
  · exact Or.inr ⟨_, _, rfl, (Option.some.inj h).symm⟩
  · cases h
theorem xbV_some {r : xR} {f} {q} (h : xbV r f = some q) : (∃ M, r = some (.inl none, M) ∧ f M = some q) ∨ ∃ E M, r = some (.inr E, M) ∧ q = (.inr E, M) := by
  unfold xbV at h
  split at h
  · exact Or.inl ⟨_, rfl, h⟩
  · exact Or.inr ⟨_, _, rfl, (Option.some.inj h).symm⟩
  · cases h
theorem xhI_some {r : xR} {f h} {q} (hh : xhI r f h = some q) : (∃ k x M, r = some (.inl (some (k, .int x)), M) ∧ f x M = some q) ∨ ∃ E M, r = some (.inr E, M) ∧ h E M = some q := by
  unfold xhI at hh
  split at hh
  · exact Or.inl ⟨_, _, _, rfl, hh⟩
  · exact Or.inr ⟨_, _, rfl, hh⟩
  · cases hh
theorem xhF_some {r : xR} {f h} {q} (hh : xhF r f h = some q) : (∃ k x M, r = some (.inl (some (k, .float x)), M) ∧ f x M = some q) ∨ ∃ E M, r = some (.inr E, M) ∧ h E M = some q := by
  unfold xhF at hh
  split at hh
  · exact Or.inl ⟨_, _, _, rfl, hh⟩
  · exact Or.inr ⟨_, _, rfl, hh⟩
  · cases hh
theorem xsw_some {x : Int32} {d : Nat} : ∀ (ts : List Nat) (k : Nat), ∃ t, ∀ f : Nat → xR, xsw f x d k ts = f t
  | [], _ => ⟨d, fun _ => rfl⟩
  | t :: r, k => by
    by_cases h : x = Int32.ofNat k
    · exact ⟨t, fun f => if_pos h⟩
    · obtain ⟨t', ht⟩ := xsw_some (x := x) (d := d) r (k + 1)
      exact ⟨t', fun f => (if_neg h).trans (ht f)⟩
theorem xhand_some (E : Nat) (M : xM) : ∀ (n : Nat) (hs : List Nat), hs.length ≤ n → (∀ f : Nat → xR, xhand hs E M f = some (.inr E, M)) ∨ ∃ t, ∀ f : Nat → xR, xhand hs E M f = f t
  | _, [], _ => Or.inl fun _ => rfl
  | _, [_], _ => Or.inl fun _ => rfl
  | 0, _ :: _ :: _, h => by simp at h
  | n + 1, a :: t :: r, hl => by
    by_cases h : E = a
    · exact Or.inr ⟨t, fun f => if_pos h⟩
    · rcases xhand_some E M n r (by simp at hl; omega) with q | ⟨t', q⟩
      · exact Or.inl fun f => (if_neg h).trans (q f)
      · exact Or.inr ⟨t', fun f => (if_neg h).trans (q f)⟩
theorem xret_some {r : xR} {q} (h : xret r = some q) : ∃ v M, r = some (.inl v, M) ∧ q = (.inl v, M) := by
  unfold xret at h
  split at h
  · exact ⟨_, _, rfl, (Option.some.inj h).symm⟩
  · cases h
theorem xcall_some {t kx : Nat} {r : xR} {En : List xV → xM → xR} {st : List xV} {q} (h : xcall t kx r En st = some q) : (∃ v M st', r = some (.inl v, M) ∧ En st' M = some q ∧ ∀ En' : List xV → xM → xR, En' st' M = some q → xcall t kx (some (.inl v, M)) En' st = some q) ∨ ∃ E M, r = some (.inr E, M) ∧ q = (.inr E, M) ∧ ∀ En' : List xV → xM → xR, xcall t kx (some (.inr E, M)) En' st = some q := by
  unfold xcall at h
  split at h
  · rcases xbV_some h with ⟨M1, e, h⟩ | ⟨E, M1, e, rfl⟩
    · exact Or.inl ⟨_, _, _, e, h, fun _ h' => h'⟩
    · exact Or.inr ⟨_, _, e, rfl, fun _ => rfl⟩
  · rcases xbI_some h with ⟨k, x, M1, e, h⟩ | ⟨E, M1, e, rfl⟩
    · exact Or.inl ⟨_, _, _, e, h, fun _ h' => h'⟩
    · exact Or.inr ⟨_, _, e, rfl, fun _ => rfl⟩
  · rcases xbL_some h with ⟨k, x, M1, e, h⟩ | ⟨E, M1, e, rfl⟩
    · exact Or.inl ⟨_, _, _, e, h, fun _ h' => h'⟩
    · exact Or.inr ⟨_, _, e, rfl, fun _ => rfl⟩
  · rcases xbR_some h with ⟨x, M1, e, h⟩ | ⟨E, M1, e, rfl⟩
    · exact Or.inl ⟨_, _, _, e, h, fun _ h' => (if_pos rfl).trans h'⟩
    · exact Or.inr ⟨_, _, e, rfl, fun _ => rfl⟩
  · rcases xbF_some h with ⟨k, x, M1, e, h⟩ | ⟨E, M1, e, rfl⟩
    · exact Or.inl ⟨_, _, _, e, h, fun _ h' => h'⟩
    · exact Or.inr ⟨_, _, e, rfl, fun _ => rfl⟩
  · rcases xbD_some h with ⟨k, x, M1, e, h⟩ | ⟨E, M1, e, rfl⟩
    · exact Or.inl ⟨_, _, _, e, h, fun _ h' => h'⟩
    · exact Or.inr ⟨_, _, e, rfl, fun _ => rfl⟩
  · cases h
theorem xinvoke_needs {tab : Nat → List xE} {ml : Nat → Nat} {Ec En : xP} {aux : List Nat} {C cs : List xE} {ls st : List xV} {M : xM} {r} (h : xinvoke tab ml Ec En aux C cs ls st M = some r) : xneeds (fun Ec En => xinvoke tab ml Ec En aux C cs ls st M) Ec En M r := by
  unfold xinvoke at h ⊢
  split at h
  · rename_i y n t kx rk hs
    split at h
    · rename_i as st1 hst
      split at h
      · rename_i hlen
        split at h
        · rcases xcall_some h with ⟨v, M1, st', e, h, hh⟩ | ⟨E, M1, e, rfl, hh⟩
          · exact xneeds_cn _ _ _ _ _ _ _ _ _ _ (xmon_refl _) e h (fun _ _ e' h' => by simp only [e']; exact hh _ h')
          · exact xneeds_d _ _ _ _ _ (xmon_refl _) e (fun _ _ e' => by simp only [e']; exact hh _)
        · rcases xcall_some h with ⟨v, M1, st', e, h, hh⟩ | ⟨E, M1, e, rfl, hh⟩
          · obtain ⟨v', M1', e1, e2⟩ := xret_some e
            cases e2
            exact xneeds_cn _ _ _ _ _ _ _ _ _ _ (xmon_refl _) e1 h (fun _ _ e' h' => by simp only [e']; exact hh _ h')
          · obtain ⟨v', M1', e1, e2⟩ := xret_some e
            cases e2
        · obtain ⟨hg, h⟩ := xgd_some h
          rcases xcall_some h with ⟨v, M1, st', e, h, hh⟩ | ⟨E, M1, e, rfl, hh⟩
          · obtain ⟨v', M1', e1, e2⟩ := xret_some e
            cases e2
            exact xneeds_cn _ _ _ _ _ _ _ _ _ _ (xmon_refl _) e1 h (fun _ _ e' h' => by simp only [e', hg]; exact hh _ h')
          · obtain ⟨v', M1', e1, e2⟩ := xret_some e
            cases e2
        · split at h
          · rcases xhI_some h with ⟨k, x, M1, e, h⟩ | ⟨E, M1, e, h⟩
            · exact xneeds_cn _ _ _ _ _ _ _ _ _ _ (xmon_refl _) e h (fun _ _ e' h' => by simp only [e']; exact h')
            · rename_i hs1 _ _ _ _
              rcases xhand_some E M1 _ hs1 (Nat.le_refl _) with q | ⟨t, q⟩
              · rw [q] at h
                cases h
                exact xneeds_d _ _ _ _ _ (xmon_refl _) e (fun _ _ e' => by simp only [e']; exact (q _).trans rfl)
              · rw [q] at h
                exact xneeds_cn _ _ _ _ _ _ _ _ _ _ (xmon_refl _) e h (fun _ _ e' h' => by simp only [e']; exact (q _).trans h')
          · rcases xhF_some h with ⟨k, x, M1, e, h⟩ | ⟨E, M1, e, h⟩
            · exact xneeds_cn _ _ _ _ _ _ _ _ _ _ (xmon_refl _) e h (fun _ _ e' h' => by simp only [e']; exact h')
            · rename_i hs1 _ _ _ _
              rcases xhand_some E M1 _ hs1 (Nat.le_refl _) with q | ⟨t, q⟩
              · rw [q] at h
                cases h
                exact xneeds_d _ _ _ _ _ (xmon_refl _) e (fun _ _ e' => by simp only [e']; exact (q _).trans rfl)
              · rw [q] at h
                exact xneeds_cn _ _ _ _ _ _ _ _ _ _ (xmon_refl _) e h (fun _ _ e' h' => by simp only [e']; exact (q _).trans h')
          · cases h
        · split at h
          · split at h
            · obtain ⟨hg, h⟩ := xgd_some h
              split at h
              · cases h
              · exact xneeds_n _ _ _ _ _ (xmon_cpy (and_l (by assumption))) h (fun _ _ h' => (xgd_ok hg).trans ((if_neg ‹_›).trans h'))
            · cases h
          · cases h
        · split at h
          · obtain ⟨hg, h⟩ := xgd_some h
            exact xneeds_n _ _ _ _ _ (xmon_trans (xmon_newD (and_l (by assumption))) (xmon_cpy (and_l (by assumption)))) h (fun _ _ h' => (xgd_ok hg).trans h')
          · cases h
        · split at h
          · obtain ⟨hg, h⟩ := xgd_some h
            exact xneeds_n _ _ _ _ _ (xmon_refl _) h (fun _ _ h' => (xgd_ok hg).trans h')
          · cases h
        · cases h
      · cases h
    · cases h
  · cases h
set_option maxHeartbeats 4000000 in
theorem xctl_needs {tab : Nat → List xE} {ml : Nat → Nat} {Ec En : xP} {i : Instr} {aux : List Nat} {kc : Int32} {C cs : List xE} {ls st : List xV} {M : xM} {r} (h : xctl tab ml Ec En i aux kc C cs ls st M = some r) : xneeds (fun Ec En => xctl tab ml Ec En i aux kc C cs ls st M) Ec En M r := by
  cases i with
  | invokevirtual n => exact xinvoke_needs h
  | invokestatic n => exact xinvoke_needs h
  | invokespecial n => exact xinvoke_needs h
  | ifnonnull off =>
    simp only [xctl] at h ⊢
    split at h
    · obtain ⟨hg, h⟩ := xgd_some h
      exact xneeds_n _ _ _ _ _ (xmon_refl _) h (fun _ _ h9 => (xgd_ok hg).trans h9)
    · cases h
  | tableswitch a b c d => 
    simp only [xctl] at h ⊢
    split at h
    · rename_i x st d lo ts
      obtain ⟨t, ht⟩ := xsw_some (x := x) (d := d) ts lo
      rw [ht] at h
      exact xneeds_n _ _ _ _ _ (xmon_refl _) h (fun Ec' En' h' => by simp only [ht]; exact h')
    · cases h
  | new n =>
    simp only [xctl] at h ⊢
    split at h
    · split at h
      · cases h
        exact xneeds_c (xmon_bump _ _ _) (fun _ _ => rfl)
      · cases h
    · split at h
      · exact xneeds_n _ _ _ _ _ (xmon_new (by assumption)) h (fun _ _ h' => h')
      · cases h
    · cases h
  | newarray n =>
    simp only [xctl] at h ⊢
    split at h
    · split at h
      · split at h
        · cases h
        · exact xneeds_n _ _ _ _ _ (xmon_newD (by assumption)) h (fun _ _ h' => (if_neg ‹_›).trans h')
      · split at h
        · exact xneeds_n _ _ _ _ _ (xmon_new (by assumption)) h (fun _ _ h' => (if_pos ‹_›).trans h')
        · cases h
      · cases h
    · cases h
  | anewarray n =>
    simp only [xctl] at h ⊢
    split at h
    · split at h
      · split at h
        · cases h
        · exact xneeds_n _ _ _ _ _ (xmon_newD (by assumption)) h (fun _ _ h' => (if_neg ‹_›).trans h')
      · split at h
        · exact xneeds_n _ _ _ _ _ (xmon_new (by assumption)) h (fun _ _ h' => (if_pos ‹_›).trans h')
        · cases h
      · cases h
    · cases h
  | aaload =>
    simp only [xctl] at h ⊢
    split at h
    · split at h
      · obtain ⟨h1, h⟩ := xck_some h
        split at h
        · exact xneeds_n _ _ _ _ _ (xmon_refl _) h (fun _ _ h' => (if_pos ‹_›).trans ((xck_ok h1).trans ((if_pos ‹_›).trans h')))
        · cases h
      · cases h
    · split at h
      · obtain ⟨h1, h⟩ := xck_some h
        exact xneeds_n _ _ _ _ _ (xmon_refl _) h (fun _ _ h' => (if_pos ‹_›).trans ((xck_ok h1).trans h'))
      · cases h
    · cases h
  | checkcast n =>
    simp only [xctl] at h ⊢
    split at h
    · obtain ⟨hg, h⟩ := xgd_some h
      exact xneeds_n _ _ _ _ _ (xmon_refl _) h (fun _ _ h' => (xgd_ok hg).trans h')
    · cases h
  | aastore =>
    simp only [xctl] at h ⊢
    split at h
    · split at h
      · split at h
        · split at h
          · obtain ⟨h1, h⟩ := xck_some h
            split at h
            · exact xneeds_n _ _ _ _ _ (xmon_fl (by assumption)) h (fun _ _ h' => (if_pos ‹_›).trans ((if_pos ‹_›).trans ((xck_ok h1).trans ((if_pos ‹_›).trans h'))))
            · cases h
          · cases h
        · cases h
      · cases h
    · cases h
  | putfield n =>
    simp only [xctl] at h ⊢
    split at h
    · split at h
      · split at h
        · split at h
          · obtain ⟨hg, h⟩ := xgd_some h
            split at h
            · split at h
              · exact xneeds_n _ _ _ _ _ (xmon_fl (by assumption)) h (fun _ _ h' => (if_pos ‹_›).trans ((if_pos ‹_›).trans ((xgd_ok hg).trans ((if_pos ‹_›).trans h'))))
              · cases h
            · split at h
              · exact xneeds_n _ _ _ _ _ (xmon_fl (by assumption)) h (fun _ _ h' => (if_pos ‹_›).trans ((if_pos ‹_›).trans ((xgd_ok hg).trans ((if_pos ‹_›).trans h'))))
              · cases h
            · exact xneeds_n _ _ _ _ _ (xmon_trans (xmon_st (by assumption)) (xmon_fl (by assumption))) h (fun _ _ h' => (if_pos ‹_›).trans ((if_pos ‹_›).trans ((xgd_ok hg).trans h')))
            · cases h
          · cases h
        · cases h
      · cases h
    · split at h
      · split at h
        · obtain ⟨hg, h⟩ := xgd_some h
          split at h
          · exact xneeds_n _ _ _ _ _ (xmon_st (by assumption)) h (fun _ _ h' => (if_pos ‹_›).trans ((xgd_ok hg).trans ((if_pos ‹_›).trans h')))
          · cases h
        · cases h
      · cases h
    · cases h
  | _ =>
    first
    | (simp [xctl] at h; done)
    | (simp only [xctl] at h ⊢
       repeat' split at h
       all_goals first
         | (simp at h; done)
         | (cases h; exact xneeds_c (xmon_refl _) (fun _ _ => rfl))
         | exact xneeds_n _ _ _ _ _ (xmon_refl _) h (fun _ _ h' => h')
         | exact xneeds_n _ _ _ _ _ (xmon_refl _) h (fun _ _ h' => (if_pos ‹_›).trans h')
         | exact xneeds_n _ _ _ _ _ (xmon_refl _) h (fun _ _ h' => (if_neg ‹_›).trans h')
         | exact xneeds_n _ _ _ _ _ (xmon_refl _) h (fun _ _ h' => (if_pos ‹_›).trans ((if_pos ‹_›).trans h'))
         | exact xneeds_n _ _ _ _ _ (xmon_refl _) h (fun _ _ h' => (if_pos ‹_›).trans ((if_neg ‹_›).trans h'))
         | exact xneeds_n _ _ _ _ _ (xmon_refl _) (xck_some h).2 (fun _ _ h' => (xck_ok (xck_some h).1).trans h')
         | exact xneeds_n _ _ _ _ _ (xmon_st (and_l ‹_›)) (xck_some h).2 (fun _ _ h' => (xck_ok (xck_some h).1).trans h')
         | (obtain ⟨hg, h⟩ := xgd_some h; exact xneeds_n _ _ _ _ _ (xmon_refl _) (xck_some h).2 (fun _ _ h' => (xgd_ok hg).trans ((xck_ok (xck_some h).1).trans h')))
         | exact xneeds_n _ _ _ _ _ (xmon_refl _) (xck_some h).2 (fun _ _ h' => (if_pos ‹_›).trans ((xck_ok (xck_some h).1).trans h')))
theorem xput_mon {kx tag tk f o : Nat} {v : xV} {M M' : xM} (h : xput kx tag tk f o v M = some M') : xmon M M' := by
  unfold xput at h
  split at h
  · split at h
    · cases h; exact xmon_st (and_l (by assumption))
    · cases h; exact xmon_st (and_l (by assumption))
    · split at h
      · cases h; exact xmon_st (and_l (by assumption))
      · cases h
    · cases h
  · cases h
set_option maxHeartbeats 4000000 in
theorem xpure_mon {i : Instr} {aux : List Nat} {kc : Int32} {ls st ls' st' : List xV} {M M' : xM} (h : xpure i aux kc ls st M = some (ls', st', M')) : xmon M M' := by
  cases i with
  | putfield n =>
    simp only [xpure] at h
    split at h
    · split at h
      · split at h
        · rename_i e
          cases h
          exact xput_mon e
        · cases h
      · cases h
    · cases h
  | _ =>
    first
    | (simp [xpure] at h; done)
    | (simp only [xpure] at h
       repeat' split at h
       all_goals first
         | (simp at h; done)
         | (cases h; exact xmon_refl _))
theorem xstep_needs {tab : Nat → List xE} {ml : Nat → Nat} {Ec En : xP} {C cs : List xE} {ls st : List xV} {M : xM} {r} (h : xstep tab ml Ec En C cs ls st M = some r) : xneeds (fun Ec En => xstep tab ml Ec En C cs ls st M) Ec En M r := by
  unfold xstep at h ⊢
  split at h
  · cases h
  · split at h
    · rename_i e
      exact xneeds_n _ _ _ _ _ (xpure_mon e) h (fun _ _ h' => h')
    · rename_i e
      exact xctl_needs h
/-- the machine takes nothing back -/
theorem xexec_mon {tab : Nat → List xE} {ml : Nat → Nat} : ∀ (n : Nat) {C cs : List xE} {ls st : List xV} {M : xM} {r}, xexec tab ml n C cs ls st M = some r → xmon M r.2
  | 0, _, _, _, _, _, _, h => nomatch h
  | k + 1, C, cs, ls, st, M, r, h => by
    obtain ⟨c, n, h1, h2, -, h4, h5⟩ := xstep_needs h
    have e1 : xmon M ((c.map fun q => q.2.2).getD M) := by
      cases c with
      | none => exact xmon_refl _
      | some q =>
        have e := xexec_mon k (h1 q rfl)
        rw [h4 q rfl] at e
        exact e
    refine xmon_trans e1 (xmon_trans h5 ?_)
    cases n with
    | none => exact xmon_refl _
    | some q => exact xexec_mon k (h2 q rfl)
theorem xstep_mono {tab : Nat → List xE} {ml : Nat → Nat} {Ec En Ec' En' : xP} (hc : ∀ C cs ls st M r, Ec C cs ls st M = some r → Ec' C cs ls st M = some r) (hn : ∀ C cs ls st M r, En C cs ls st M = some r → En' C cs ls st M = some r) {C cs : List xE} {ls st : List xV} {M : xM} {r} (h : xstep tab ml Ec En C cs ls st M = some r) : xstep tab ml Ec' En' C cs ls st M = some r := by
  obtain ⟨c, n, h1, h2, h3, -, -⟩ := xstep_needs h
  exact h3 Ec' En' (fun q hq => hc _ _ _ _ _ _ (h1 q hq)) (fun q hq => hn _ _ _ _ _ _ (h2 q hq))
theorem xexec_succ {tab : Nat → List xE} {ml : Nat → Nat} : ∀ (n : Nat) {C cs : List xE} {ls st : List xV} {M : xM} {r}, xexec tab ml n C cs ls st M = some r → xexec tab ml (n + 1) C cs ls st M = some r
  | 0, _, _, _, _, _, _, h => nomatch h
  | n + 1, _, _, _, _, _, _, h => xstep_mono (fun _ _ _ _ _ _ => xexec_succ n) (fun _ _ _ _ _ _ => xexec_succ n) h
theorem xexec_le {tab : Nat → List xE} {ml : Nat → Nat} {n k : Nat} (hk : n ≤ k) {C cs : List xE} {ls st : List xV} {M : xM} {r} (h : xexec tab ml n C cs ls st M = some r) : xexec tab ml k C cs ls st M = some r := by
  induction hk with
  | refl => exact h
  | step _ ih => exact xexec_succ _ ih
/-- the machine without fuel -/
noncomputable def xEv (tab : Nat → List xE) (ml : Nat → Nat) : xP := fun C cs ls st M => haveI := Classical.propDecidable; if h : ∃ n r, xexec tab ml n C cs ls st M = some r then xexec tab ml h.choose C cs ls st M else none
theorem xEv_of {tab : Nat → List xE} {ml : Nat → Nat} {n : Nat} {C cs : List xE} {ls st : List xV} {M : xM} {r} (h : xexec tab ml n C cs ls st M = some r) : xEv tab ml C cs ls st M = some r := by
  have h1 : ∃ n r, xexec tab ml n C cs ls st M = some r := ⟨n, r, h⟩
  unfold xEv
  rw [dif_pos h1]
  obtain ⟨r', h2⟩ := h1.choose_spec
  rw [h2, ← xexec_le (Nat.le_max_left h1.choose n) h2, xexec_le (Nat.le_max_right h1.choose n) h]
theorem xEv_ex {tab : Nat → List xE} {ml : Nat → Nat} {C cs : List xE} {ls st : List xV} {M : xM} {r} (h : xEv tab ml C cs ls st M = some r) : ∃ n, xexec tab ml n C cs ls st M = some r := by
  unfold xEv at h
  split at h
  · exact ⟨_, h⟩
  · cases h
theorem xEv_eq (tab : Nat → List xE) (ml : Nat → Nat) (C cs : List xE) (ls st : List xV) (M : xM) : xEv tab ml C cs ls st M = xstep tab ml (xEv tab ml) (xEv tab ml) C cs ls st M := by
  have key : ∀ r, xEv tab ml C cs ls st M = some r ↔ xstep tab ml (xEv tab ml) (xEv tab ml) C cs ls st M = some r := by
    intro r
    constructor
    · intro h
      obtain ⟨n, h⟩ := xEv_ex h
      cases n with
      | zero => cases h
      | succ n => exact xstep_mono (fun _ _ _ _ _ _ h => xEv_of h) (fun _ _ _ _ _ _ h => xEv_of h) h
    · intro h
      obtain ⟨c, n, h1, h2, h3, -, -⟩ := xstep_needs h
      have hc : ∃ k, ∀ q, c = some q → xexec tab ml k q.1.1 q.1.2.1 q.1.2.2.1 q.1.2.2.2.1 q.1.2.2.2.2 = some q.2 := by
        cases c with
        | none => exact ⟨0, fun _ h => nomatch h⟩
        | some q =>
          obtain ⟨k, hk⟩ := xEv_ex (h1 q rfl)
          exact ⟨k, fun q' e => by cases e; exact hk⟩
      have hn : ∃ k, ∀ q, n = some q → xexec tab ml k q.1 q.2.1 q.2.2.1 q.2.2.2.1 q.2.2.2.2 = some r := by
        cases n with
        | none => exact ⟨0, fun _ h => nomatch h⟩
        | some q =>
          obtain ⟨k, hk⟩ := xEv_ex (h2 q rfl)
          exact ⟨k, fun q' e => by cases e; exact hk⟩
      obtain ⟨k1, hk1⟩ := hc
      obtain ⟨k2, hk2⟩ := hn
      exact xEv_of (n := max k1 k2 + 1) (h3 _ _ (fun q hq => xexec_le (Nat.le_max_left _ _) (hk1 q hq)) (fun q hq => xexec_le (Nat.le_max_right _ _) (hk2 q hq)))
  cases h : xEv tab ml C cs ls st M with
  | none =>
    cases h2 : xstep tab ml (xEv tab ml) (xEv tab ml) C cs ls st M with
    | none => rfl
    | some r => rw [(key r).mpr h2] at h; cases h
  | some r => exact ((key r).mp h).symm
/-- up to k steps, as far as the next entry with a mark (nop), where the machine goes on -/
noncomputable def xrun (tab : Nat → List xE) (ml : Nat → Nat) : Nat → xP
  | 0 => xEv tab ml
  | k + 1 => fun C cs ls st M => match cs with
    | (_, .nop, _, kc) :: _ => if kc = 0 then xstep tab ml (xEv tab ml) (xEv tab ml) C cs ls st M else xstep tab ml (xEv tab ml) (xrun tab ml k) C cs ls st M
    | _ => xstep tab ml (xEv tab ml) (xrun tab ml k) C cs ls st M
theorem xrun_eq (tab : Nat → List xE) (ml : Nat → Nat) : ∀ k, xrun tab ml k = xEv tab ml
  | 0 => rfl
  | k + 1 => by
    funext C cs ls st M
    have ih := xrun_eq tab ml k
    unfold xrun
    split
    · rw [ih, ite_self]
      exact (xEv_eq ..).symm
    · rw [ih]
      exact (xEv_eq ..).symm
theorem xEv_unf (k : Nat) (tab : Nat → List xE) (ml : Nat → Nat) (C cs : List xE) (ls st : List xV) (M : xM) : xEv tab ml C cs ls st M = xstep tab ml (xEv tab ml) (xrun tab ml k) C cs ls st M := by
  rw [xrun_eq]
  exact xEv_eq ..
