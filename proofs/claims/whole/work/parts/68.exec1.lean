/-! scripts: a command carried out, both sides -/
/-- the resources' names stay -/
def RN (b b' : Nat → Int) : Prop := ∀ k, (k = 1 ∨ (4 ≤ k ∧ k < 28 ∧ k % 8 ≠ 3)) → b' k = b k
theorem RN_refl (b : Nat → Int) : RN b b := fun _ _ => rfl
theorem RN_trans {b b1 b2 : Nat → Int} (h : RN b b1) (h2 : RN b1 b2) : RN b b2 := fun k hk => (h2 k hk).trans (h k hk)
theorem RN_up {b : Nat → Int} {k : Nat} {v : Int} (h : ¬ (k = 1 ∨ (4 ≤ k ∧ k < 28 ∧ k % 8 ≠ 3))) : RN b (upI b k v) := fun j hj => upI_n (fun q => h (q ▸ hj))
theorem RN_dp {b : Nat → Int} {t : Nat} : RN b (dpB b t) := fun j hj => dp_lo (by omega) (by omega)
theorem RN_R {b b' : Nat → Int} (h : RN b b') : nR b' = nR b := by unfold nR; rw [h 1 (Or.inl rfl)]
theorem RN_pk {b b' : Nat → Int} (h : RN b b') (hw : wN b) {r : Nat} (hr : r < nR b) : pk b' (4 + 8 * r) = pk b (4 + 8 * r) := by
  have n3 : nR b ≤ 3 := by unfold nR; have := hw.2.1; omega
  have l := (hw.2.2.2 r hr).1
  exact pk_congr (h _ (Or.inr ⟨by omega, by omega, by omega⟩)) (fun k hk => h _ (Or.inr ⟨by omega, by omega, by omega⟩))
theorem RN_fnd {b b' : Nat → Int} (h : RN b b') (hw : wN b) (w : Int64) : fnd (fun r => decide (pk b' (4 + 8 * r) = w)) (nR b') = fnd (fun r => decide (pk b (4 + 8 * r) = w)) (nR b) := by
  rw [RN_R h]
  exact fnd_congr (fun r hr => by rw [RN_pk h hw hr])
def onEx (k o s : Nat) : Bool := on280 k o s || on32 k o s
theorem onEx_8 {M M' : xM} (f : fz on280 M M') : fz onEx M M' := fz_mono (fun k o s h => by unfold onEx; rw [h]; rfl) f
theorem onEx_2 {M M' : xM} (f : fz on32 M M') : fz onEx M M' := fz_mono (fun k o s h => by unfold onEx; rw [h, Bool.or_true]) f
theorem onEx_k {k o s : Nat} (h : k ≠ 28) (h2 : k ≠ 32) : onEx k o s = false := by
  unfold onEx on280 on32
  rw [show Nat.beq k 28 = false from by
    cases e : Nat.beq k 28 with
    | true => exact absurd (Nat.eq_of_beq_eq_true e) h
    | false => rfl, show Nat.beq k 32 = false from by
    cases e : Nat.beq k 32 with
    | true => exact absurd (Nat.eq_of_beq_eq_true e) h2
    | false => rfl]
  cases Nat.beq o 0 <;> rfl
/-- what a command comes to, on both sides -/
def EX (M M' : xM) (r r' : xR) (b : Nat → Int) : Prop := ∃ (ok : Bool) (M1 M1' : xM) (b' : Nat → Int), r = rI (bz ok) M1 ∧ r' = rI (bz ok) M1' ∧ fr (onP 9) M M1 ∧ fz onEx M' M1' ∧ CP M1 9 b' ∧ RB M1' b' ∧ wF b' ∧ RN b b'
theorem EX_no {M M' M1' : xM} {b : Nat → Int} (f : fz onEx M' M1') (hP : CP M 9 b) (hB : RB M1' b) (hw : wF b) : EX M M' (rI (bz false) M) (rI (bz false) M1') b := ⟨false, M, M1', b, rfl, rfl, fr_refl M, f, hP, hB, hw, RN_refl b⟩
noncomputable def sEx (κ : Nat) (x y z : Int32) (i : Nat) (M : xM) : xR := match κ with
  | 0 => xbI (m_P_changeDuration 9 x (gi M 24 i 4) M) (fun r A => rI (xnar 1 r) A)
  | 1 => xbI (m_P_changeDemand 9 x z (gi M 24 i 4) M) (fun r A => rI (xnar 1 r) A)
  | 2 => xbI (m_P_changeRelease 9 x (gi M 24 i 4) M) (fun r A => rI (xnar 1 r) A)
  | 3 => xbI (m_P_link 9 x y M) (fun r A => rI (xnar 1 r) A)
  | 4 => xbI (m_P_unlink 9 x y M) (fun r A => rI (xnar 1 r) A)
  | 5 => xbI (m_P_changeCapacity 9 z (gi M 24 i 4) M) (fun r A => rI (xnar 1 r) A)
  | 6 => xbI (m_P_changeRule 9 (gi M 24 i 4) M) (fun r A => rI (xnar 1 r) A)
  | _ => xbI (m_P_removeTask 9 x M) (fun r A => rI (xnar 1 r) A)
theorem s_exec {M : xM} {b : Nat → Int} (h : CP M 9 b) (hK : KC M) {i κ : Nat} (k0 : gn M 24 i 0 = κ) (hκ : κ < 8) : m_R_execute 9 i M = sEx κ (zi (fnd (fun t => decide (pk b (28 + 12 * t) = gl M 24 i 1)) (nT b))) (zi (fnd (fun t => decide (pk b (28 + 12 * t) = gl M 24 i 2)) (nT b))) (zi (fnd (fun r => decide (pk b (4 + 8 * r) = gl M 24 i 3)) (nR b))) i M := by
  have ho : m_JE_ordinal κ M = rI (zi κ) M := by
    rw [e_m_JE_ordinal, (hK.2.1 κ hκ).2.1]
    have : κ = 0 ∨ κ = 1 ∨ κ = 2 ∨ κ = 3 ∨ κ = 4 ∨ κ = 5 ∨ κ = 6 ∨ κ = 7 := by omega
    rcases this with rfl | rfl | rfl | rfl | rfl | rfl | rfl | rfl <;> rfl
  have hs := (hK.2.1 κ hκ).2.2.2.2.2.2
  rw [e_m_R_execute, s_taskNamed h, xbI_r, s_taskNamed h, xbI_r, s_resNamed h, xbI_r, k0, ho, xret_I, xbI_r, xck_n (by omega) (by decide), zix (by omega), hs]
  have : κ = 0 ∨ κ = 1 ∨ κ = 2 ∨ κ = 3 ∨ κ = 4 ∨ κ = 5 ∨ κ = 6 ∨ κ = 7 := by omega
  rcases this with rfl | rfl | rfl | rfl | rfl | rfl | rfl | rfl
  · rw [if_pos (by decide)]; rfl
  · rw [if_neg (by decide), if_pos (by decide)]; rfl
  · rw [if_neg (by decide), if_neg (by decide), if_pos (by decide)]; rfl
  · rw [if_neg (by decide), if_neg (by decide), if_neg (by decide), if_pos (by decide)]; rfl
  · rw [if_neg (by decide), if_neg (by decide), if_neg (by decide), if_neg (by decide), if_pos (by decide)]; rfl
  · rw [if_neg (by decide), if_neg (by decide), if_neg (by decide), if_neg (by decide), if_neg (by decide), if_pos (by decide)]; rfl
  · rw [if_neg (by decide), if_neg (by decide), if_neg (by decide), if_neg (by decide), if_neg (by decide), if_neg (by decide), if_pos (by decide)]; rfl
  · rw [if_neg (by decide), if_neg (by decide), if_neg (by decide), if_neg (by decide), if_neg (by decide), if_neg (by decide), if_neg (by decide), if_pos (by decide)]; rfl
/-- the reference's conditions -/
noncomputable def rSt (κ : Nat) (x z v : Int32) (M : xM) : xR := if κ = 0 then (if x = (-1) then (xbI (m_M_setIf 0 0 x 7 v M) (fun r A => rI (xnar 1 r) A)) else (xbI (m_M_in v 1 30 M) (fun r51 A => (if r51 = 0 then (xbI (m_M_setIf 0 0 x 7 v A) (fun r A => rI (xnar 1 r) A)) else (xbI (m_M_setIf 0 1 x 7 v A) (fun r A => rI (xnar 1 r) A)))))) else if κ = 1 then (if x = (-1) then (xbI (m_M_setIf 0 0 x ((9 : Int32) + z) v M) (fun r A => rI (xnar 1 r) A)) else (xbI (m_M_capacityOf 0 z M) (fun r43 A => (if r43 < v then (xbI (m_M_setIf 0 0 x ((9 : Int32) + z) v A) (fun r A => rI (xnar 1 r) A)) else (xbI (m_M_setIf 0 1 x ((9 : Int32) + z) v A) (fun r A => rI (xnar 1 r) A)))))) else (if x = (-1) then (xbI (m_M_setIf 0 0 x 8 v M) (fun r A => rI (xnar 1 r) A)) else (if 99 < v then (xbI (m_M_setIf 0 0 x 8 v M) (fun r A => rI (xnar 1 r) A)) else (xbI (m_M_setIf 0 1 x 8 v M) (fun r A => rI (xnar 1 r) A))))
noncomputable def rLk (κ : Nat) (x y : Int32) (M : xM) : xR := if κ = 3 then (if x = (-1) then (xbI (m_M_linkIf 0 0 x y 1 M) (fun r A => rI (xnar 1 r) A)) else (if y = (-1) then (xbI (m_M_linkIf 0 0 x y 1 M) (fun r A => rI (xnar 1 r) A)) else (xbI (m_M_canLink 0 x y M) (fun r29 A => (if r29 = 0 then (xbI (m_M_linkIf 0 0 x y 1 A) (fun r A => rI (xnar 1 r) A)) else (xbI (m_M_linkIf 0 1 x y 1 A) (fun r A => rI (xnar 1 r) A))))))) else (if x = (-1) then (xbI (m_M_linkIf 0 0 x y 0 M) (fun r A => rI (xnar 1 r) A)) else (if y = (-1) then (xbI (m_M_linkIf 0 0 x y 0 M) (fun r A => rI (xnar 1 r) A)) else (xbI (m_M_isLink 0 x y M) (fun r29 A => (if r29 = 0 then (xbI (m_M_linkIf 0 0 x y 0 A) (fun r A => rI (xnar 1 r) A)) else (xbI (m_M_linkIf 0 1 x y 0 A) (fun r A => rI (xnar 1 r) A)))))))
noncomputable def rRs (κ : Nat) (x z v : Int32) (M : xM) : xR := if κ = 5 then (xbI (m_M_in v 1 9 M) (fun r10 A => (if r10 = 0 then rI (xnar 1 0) A else (xbI (m_M_canHaveCapacity 0 z v A) (fun r12 C => (if r12 = 0 then rI (xnar 1 0) C else (xbV (m_M_setCapacityOf 0 z v C) (fun D => rI (xnar 1 1) D)))))))) else if κ = 6 then (if 3 < v then rI (xnar 1 0) M else rI (xnar 1 1) (xst M 28 0 0 (.int v))) else (if x = (-1) then rI (xnar 1 0) M else (if (gi M 28 0 2) = 1 then rI (xnar 1 0) M else (xbI (m_M_drop 0 x M) (fun _ A => rI (xnar 1 1) A))))
theorem r_exec {M : xM} {b B : Nat → Int} (h : RB M b) (hw : wN b) (hB : IB M B) (hG : GB M) {i κ : Nat} (hi : i < 30) (k0 : gi M 38 0 (6 * i) = zi (κ : Nat)) (hκ : κ < 8) : ∃ f1 l1 f2 l2 : Nat, (f1 + l1 ≤ 600 ∧ f2 + l2 ≤ 600) ∧ (gi M 38 0 (6 * i + 1) = zi (f1 : Nat) ∧ gi M 38 0 (6 * i + 2) = zi (l1 : Nat) ∧ gi M 38 0 (6 * i + 3) = zi (f2 : Nat) ∧ gi M 38 0 (6 * i + 4) = zi (l2 : Nat)) ∧ m_M_carryOut 0 (zi (6 * i : Nat)) M = (if κ < 3 then rSt κ (zi (fnd (fun t => nmE b (28 + 12 * t) B f1 l1) (nT b))) (zi (fnd (fun r => nmE b (4 + 8 * r) B f2 l2) (nR b))) (gi M 38 0 (6 * i + 5)) M else if κ < 5 then rLk κ (zi (fnd (fun t => nmE b (28 + 12 * t) B f1 l1) (nT b))) (zi (fnd (fun t => nmE b (28 + 12 * t) B f2 l2) (nT b))) M else rRs κ (zi (fnd (fun t => nmE b (28 + 12 * t) B f1 l1) (nT b))) (zi (fnd (fun r => nmE b (4 + 8 * r) B f2 l2) (nR b))) (gi M 38 0 (6 * i + 5)) M) := by
  obtain ⟨⟨f1, l1, a1, a2, a3⟩, f2, l2, b1, b2, b3⟩ := hG i hi
  refine ⟨f1, l1, f2, l2, ⟨a3, b3⟩, ⟨a1, a2, b1, b2⟩, ?_⟩
  have sz : ∀ s : Nat, s < 6 → ∀ k : xR, xck (zi (6 * i : Nat) + zi (s : Nat)) 180 k = k ∧ ix (zi (6 * i : Nat) + zi (s : Nat)) = 6 * i + s := fun s hs k => by
    rw [zi_add, show ((6 * i : Nat) : Int) + (s : Nat) = ((6 * i + s : Nat) : Int) by omega]
    exact ⟨xck_n (by omega) (by decide), zix (by omega)⟩
  have c1 : ∀ k : xR, xck (zi (6 * i : Nat) + 1) 180 k = k := fun k => (sz 1 (by decide) k).1
  have c2 : ∀ k : xR, xck (zi (6 * i : Nat) + 2) 180 k = k := fun k => (sz 2 (by decide) k).1
  have c3 : ∀ k : xR, xck (zi (6 * i : Nat) + 3) 180 k = k := fun k => (sz 3 (by decide) k).1
  have c4 : ∀ k : xR, xck (zi (6 * i : Nat) + 4) 180 k = k := fun k => (sz 4 (by decide) k).1
  have c5 : ∀ k : xR, xck (zi (6 * i : Nat) + 5) 180 k = k := fun k => (sz 5 (by decide) k).1
  have x1 : ix (zi (6 * i : Nat) + 1) = 6 * i + 1 := (sz 1 (by decide) none).2
  have x2 : ix (zi (6 * i : Nat) + 2) = 6 * i + 2 := (sz 2 (by decide) none).2
  have x3 : ix (zi (6 * i : Nat) + 3) = 6 * i + 3 := (sz 3 (by decide) none).2
  have x4 : ix (zi (6 * i : Nat) + 4) = 6 * i + 4 := (sz 4 (by decide) none).2
  have x5 : ix (zi (6 * i : Nat) + 5) = 6 * i + 5 := (sz 5 (by decide) none).2
  rw [e_m_M_carryOut, c5, c1, c2, x1, x2, x5, a1, a2, r_taskNamed h hw hB a3, xbI_r, c3, c4, x3, x4, b1, b2, r_taskNamed h hw hB b3, xbI_r, c3, c4, b1, b2, r_resNamed h hw hB b3, xbI_r, xck_n (by omega) (by decide), zix (by omega), k0, xck_0, xck_2, ix_0, ix_2]
  have : κ = 0 ∨ κ = 1 ∨ κ = 2 ∨ κ = 3 ∨ κ = 4 ∨ κ = 5 ∨ κ = 6 ∨ κ = 7 := by omega
  rcases this with rfl | rfl | rfl | rfl | rfl | rfl | rfl | rfl
  · rw [if_pos (by decide)]; rfl
  · rw [if_neg (by decide), if_pos (by decide)]; rfl
  · rw [if_neg (by decide), if_neg (by decide), if_pos (by decide)]; rfl
  · rw [if_neg (by decide), if_neg (by decide), if_neg (by decide), if_pos (by decide)]; rfl
  · rw [if_neg (by decide), if_neg (by decide), if_neg (by decide), if_neg (by decide), if_pos (by decide)]; rfl
  · rw [if_neg (by decide), if_neg (by decide), if_neg (by decide), if_neg (by decide), if_neg (by decide), if_pos (by decide)]; rfl
  · rw [if_neg (by decide), if_neg (by decide), if_neg (by decide), if_neg (by decide), if_neg (by decide), if_neg (by decide), if_pos (by decide)]; rfl
  · rw [if_neg (by decide), if_neg (by decide), if_neg (by decide), if_neg (by decide), if_neg (by decide), if_neg (by decide), if_neg (by decide)]; rfl
