/-! the beginning: the reference is made -/
theorem AZ_int0 {M0 M : xM} {c : Nat → Nat} {F Z Y : Nat → Nat → Nat → Bool} {r1 r2 : Nat} (h : AZ M0 M c F Z Y r1 r2) (k o s : Nat) (hk : k < 41) (hY : Y k o s = false) : AZ M0 (xst M k o s (.int 0)) c F Z Y r1 r2 := by
  obtain ⟨a1, a2, a3, a4, a5, a6, a7⟩ := h
  refine ⟨fun k' o' s q => ?_, fun j hj => ?_, fun j o' f' q => ?_, fun j o s q => ?_, fun j o' s' q => ?_, ?_, ?_⟩
  · have := onCs_n q
    exact (if_neg (fun r => by omega)).trans (a1 k' o' s q)
  · rw [gn_k (by omega)]; exact a2 j hj
  · obtain ⟨b1, b2, b3⟩ := a3 j o' f' q
    exact ⟨b1, (gn_k (by omega)).trans b2, b3⟩
  · rw [gi_st]
    split
    · rfl
    · exact a4 _ _ _ q
  · obtain ⟨b1, b2, b3⟩ := a5 j o' s' q
    refine ⟨?_, b2, b3⟩
    rw [gi_st, if_neg (fun r => by
      obtain ⟨rfl, rfl, rfl⟩ := r
      rw [q] at hY; exact nomatch hY)]
    exact b1
  · rw [gn_k (by omega)]; exact a6
  · rw [gn_k (by omega)]; exact a7
/-- only the reference's own places -/
def onMs (k o _ : Nat) : Bool := (Nat.ble 27 k && Nat.blt k 41) || Nat.beq k 100 || (Nat.beq k 101 && (Nat.ble 27 o && Nat.blt o 41)) || (Nat.ble 227 k && Nat.blt k 241)
theorem onMs_t {k o s : Nat} (h : (27 ≤ k ∧ k < 41) ∨ k = 100 ∨ (k = 101 ∧ 27 ≤ o ∧ o < 41) ∨ (227 ≤ k ∧ k < 241)) : onMs k o s = true := by
  unfold onMs
  simp only [Bool.or_eq_true, Bool.and_eq_true, Nat.beq_eq, Nat.ble_eq, Nat.blt_eq]
  omega
theorem onMs_f {k o s : Nat} (h : ¬ ((27 ≤ k ∧ k < 41) ∨ k = 100 ∨ (k = 101 ∧ 27 ≤ o ∧ o < 41) ∨ (227 ≤ k ∧ k < 241))) : onMs k o s = false := by
  cases e : onMs k o s with
  | false => rfl
  | true =>
    unfold onMs at e
    simp only [Bool.or_eq_true, Bool.and_eq_true, Nat.beq_eq, Nat.ble_eq, Nat.blt_eq] at e
    omega
theorem Ms_new {X M : xM} (h : fz onMs X M) (k n : Nat) (hk : 27 ≤ k ∧ k < 41) : fz onMs X (xnew M k n) := fun k' o' s q => by
  have a : ¬ ((27 ≤ k' ∧ k' < 41) ∨ k' = 100 ∨ (k' = 101 ∧ 27 ≤ o' ∧ o' < 41) ∨ (227 ≤ k' ∧ k' < 241)) := fun r => by rw [onMs_t r] at q; exact nomatch q
  rw [xnew_v (by omega) (by omega) (by omega)]
  exact h k' o' s q
def cM1 (j : Nat) : Nat := xnth [0, 1, 10, 10, 10, 10, 10, 10, 10, 10, 1, 1, 1, 1, 1, 1, 1, 1, 1, 2, 2, 2, 1, 1, 30, 1, 1, 1, 1, 1, 1, 1, 1, 1, 1, 1, 1, 1, 1] j
def fM1 (k o f : Nat) : Bool := fC2 k o f || is3 27 0 0 k o f || is3 27 0 1 k o f || is3 27 0 3 k o f || is3 27 0 7 k o f || is3 27 0 10 k o f || is3 27 0 11 k o f || is3 27 0 12 k o f || is3 27 0 14 k o f || is3 27 0 15 k o f || is3 27 0 16 k o f || is3 27 0 21 k o f
def ZM1 (k o s : Nat) : Bool := ZC2 k o s && !is3 27 0 6 k o s
theorem s_M1 {M0 X : xM} {r1 r2 : Nat} (h0 : AZ M0 X cC2 fC2 ZC2 YC r1 r2) : ∃ R, m_M_init 0 (xnew X 27 22) = b_M_init_84 0 16 0 R ∧ AZ M0 R cM1 fM1 ZM1 YC (r1 + 20) (r2 + 8000) ∧ fz onMs X R := by
  have a0 := AZ_new h0 27 22 (by decide)
  have m0 := Ms_new (fz_refl (K := onMs) X) 27 22 (by decide)
  have a1 := AZ_new a0 28 3160 (by decide)
  have m1 := Ms_new m0 28 3160 (by decide)
  have a2 := AZ_flag a1 27 227 0 0 (by decide) rfl (by decide +kernel)
  have m2 := fz_step (k := 227) (o := 0) (s := 0) (v := .ref 1) m1 rfl
  have a3 := AZ_new a2 29 2 (by decide)
  have m3 := Ms_new m2 29 2 (by decide)
  have a4 := AZ_flag a3 27 227 0 1 (by decide) rfl (by decide +kernel)
  have m4 := fz_step (k := 227) (o := 0) (s := 1) (v := .ref 1) m3 rfl
  have a5 := AZ_int0 a4 27 0 2 (by decide) rfl
  have m5 := fz_step (k := 27) (o := 0) (s := 2) (v := .int 0) m4 rfl
  have a6 := AZ_new a5 30 600 (by decide)
  have m6 := Ms_new m5 30 600 (by decide)
  have a7 := AZ_flag a6 27 227 0 3 (by decide) rfl (by decide +kernel)
  have m7 := fz_step (k := 227) (o := 0) (s := 3) (v := .ref 1) m6 rfl
  have a8 := AZ_int0 a7 27 0 4 (by decide) rfl
  have m8 := fz_step (k := 27) (o := 0) (s := 4) (v := .int 0) m7 rfl
  have a9 := AZ_int0 a8 27 0 5 (by decide) rfl
  have m9 := fz_step (k := 27) (o := 0) (s := 5) (v := .int 0) m8 rfl
  have a10 := AZ_fz a9 (fz_st (K := is3 27 0 6) (v := .int (-1)) (is3_t 27 0 6)) (fun k o s hk => is3_41 (by decide) hk)
  have m10 := fz_step (k := 27) (o := 0) (s := 6) (v := .int (-1)) m9 rfl
  have a11 := AZ_new a10 31 220 (by decide)
  have m11 := Ms_new m10 31 220 (by decide)
  have a12 := AZ_flag a11 27 227 0 7 (by decide) rfl (by decide +kernel)
  have m12 := fz_step (k := 227) (o := 0) (s := 7) (v := .ref 1) m11 rfl
  have a13 := AZ_int0 a12 27 0 8 (by decide) rfl
  have m13 := fz_step (k := 27) (o := 0) (s := 8) (v := .int 0) m12 rfl
  have a14 := AZ_int0 a13 27 0 9 (by decide) rfl
  have m14 := fz_step (k := 27) (o := 0) (s := 9) (v := .int 0) m13 rfl
  have a15 := AZ_new a14 32 12 (by decide)
  have m15 := Ms_new m14 32 12 (by decide)
  have a16 := AZ_flag a15 27 227 0 10 (by decide) rfl (by decide +kernel)
  have m16 := fz_step (k := 227) (o := 0) (s := 10) (v := .ref 1) m15 rfl
  have a17 := AZ_new a16 33 12 (by decide)
  have m17 := Ms_new m16 33 12 (by decide)
  have a18 := AZ_flag a17 27 227 0 11 (by decide) rfl (by decide +kernel)
  have m18 := fz_step (k := 227) (o := 0) (s := 11) (v := .ref 1) m17 rfl
  have a19 := AZ_new a18 34 12 (by decide)
  have m19 := Ms_new m18 34 12 (by decide)
  have a20 := AZ_flag a19 27 227 0 12 (by decide) rfl (by decide +kernel)
  have m20 := fz_step (k := 227) (o := 0) (s := 12) (v := .ref 1) m19 rfl
  have a21 := AZ_int0 a20 27 0 13 (by decide) rfl
  have m21 := fz_step (k := 27) (o := 0) (s := 13) (v := .int 0) m20 rfl
  have a22 := AZ_new a21 35 12 (by decide)
  have m22 := Ms_new m21 35 12 (by decide)
  have a23 := AZ_flag a22 27 227 0 14 (by decide) rfl (by decide +kernel)
  have m23 := fz_step (k := 227) (o := 0) (s := 14) (v := .ref 1) m22 rfl
  have a24 := AZ_new a23 36 1440 (by decide)
  have m24 := Ms_new m23 36 1440 (by decide)
  have a25 := AZ_flag a24 27 227 0 15 (by decide) rfl (by decide +kernel)
  have m25 := fz_step (k := 227) (o := 0) (s := 15) (v := .ref 1) m24 rfl
  have a26 := AZ_new a25 37 12 (by decide)
  have m26 := Ms_new m25 37 12 (by decide)
  have a27 := AZ_flag a26 27 227 0 16 (by decide) rfl (by decide +kernel)
  have m27 := fz_step (k := 227) (o := 0) (s := 16) (v := .ref 1) m26 rfl
  have a28 := AZ_int0 a27 27 0 17 (by decide) rfl
  have m28 := fz_step (k := 27) (o := 0) (s := 17) (v := .int 0) m27 rfl
  have a29 := AZ_int0 a28 27 0 18 (by decide) rfl
  have m29 := fz_step (k := 27) (o := 0) (s := 18) (v := .int 0) m28 rfl
  have a30 := AZ_int0 a29 27 0 19 (by decide) rfl
  have m30 := fz_step (k := 27) (o := 0) (s := 19) (v := .int 0) m29 rfl
  have a31 := AZ_int0 a30 27 0 20 (by decide) rfl
  have m31 := fz_step (k := 27) (o := 0) (s := 20) (v := .int 0) m30 rfl
  have a32 := AZ_new a31 38 180 (by decide)
  have m32 := Ms_new m31 38 180 (by decide)
  have a33 := AZ_flag a32 27 227 0 21 (by decide) rfl (by decide +kernel)
  have m33 := fz_step (k := 227) (o := 0) (s := 21) (v := .ref 1) m32 rfl
  refine ⟨_, ?_, AZ_weak a33 (rng41 (by decide +kernel)) (fun k o f q => q) (fun k o s q => q) (fun k o s q => ?_) (by omega) (by omega), m33⟩
  · rw [e_m_M_init, if_pos (by decide), if_pos ((AZ_c a0 (k := 28) (by decide)).trans (by decide +kernel)), if_pos (by decide), if_pos ((AZ_c a1 (k := 29) (by decide)).trans (by decide +kernel)), if_pos (by decide), if_pos ((AZ_c a3 (k := 30) (by decide)).trans (by decide +kernel)), if_pos (by decide), if_pos ((AZ_c a6 (k := 31) (by decide)).trans (by decide +kernel)), if_pos (by decide), if_pos ((AZ_c a11 (k := 32) (by decide)).trans (by decide +kernel)), if_pos (by decide), if_pos ((AZ_c a15 (k := 33) (by decide)).trans (by decide +kernel)), if_pos (by decide), if_pos ((AZ_c a17 (k := 34) (by decide)).trans (by decide +kernel)), if_pos (by decide), if_pos ((AZ_c a19 (k := 35) (by decide)).trans (by decide +kernel)), if_pos (by decide), if_pos ((AZ_c a22 (k := 36) (by decide)).trans (by decide +kernel)), if_pos (by decide), if_pos ((AZ_c a24 (k := 37) (by decide)).trans (by decide +kernel)), if_pos (by decide), if_pos ((AZ_c a26 (k := 38) (by decide)).trans (by decide +kernel))]
  · have w := is3_i q
    show (YC k o s && !is3 27 0 6 k o s) = true
    rw [q, is3_f (show ¬ (k = 27 ∧ o = 0 ∧ s = 6) by omega)]; rfl
