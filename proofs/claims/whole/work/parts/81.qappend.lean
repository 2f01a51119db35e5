/-! the input: words that come -/
/-- byte s of a word, s in bits from the right -/
def byt (x : Int32) (s : Nat) : Nat := x.toBitVec.toNat / 2 ^ s % 256
theorem byt_lt (x : Int32) (s : Nat) : byt x s < 256 := Nat.mod_lt _ (by decide)
theorem i8_tab : (List.range 256).all (fun k => (Int32.toInt8 ((Int8.ofNat k).toInt32)).toInt32 == zi (sb ((k : Nat) : Int))) = true := by decide +kernel
theorem i8_low (a : Int32) : (Int32.toInt8 ((Int32.toInt8 a).toInt32)).toInt32 = zi (sb ((a.toBitVec.toNat % 256 : Nat) : Int)) := by
  have e : Int32.toInt8 a = Int8.ofNat (a.toBitVec.toNat % 256) := by
    apply Int8.toBitVec_inj.mp
    show a.toBitVec.signExtend 8 = BitVec.ofNat 8 (a.toBitVec.toNat % 256)
    rw [BitVec.signExtend_eq_setWidth_of_le _ (by decide)]
    apply BitVec.eq_of_toNat_eq
    rw [BitVec.toNat_setWidth, BitVec.toNat_ofNat]
    omega
  have h := List.all_eq_true.mp i8_tab (a.toBitVec.toNat % 256) (List.mem_range.mpr (Nat.mod_lt _ (by decide)))
  rw [e]
  exact eq_of_beq h
theorem shr_u (x : Int32) {s : Nat} (hs : s < 32) : (((Int32.toUInt32 x) >>> ((Int32.toUInt32 (Int32.ofNat s)) &&& Int32.toUInt32 31)).toInt32).toBitVec.toNat = x.toBitVec.toNat / 2 ^ s := by
  have e : ((Int32.toUInt32 (Int32.ofNat s)) &&& Int32.toUInt32 31).toNat = s := by
    have h : (List.range 32).all (fun s => ((Int32.toUInt32 (Int32.ofNat s)) &&& Int32.toUInt32 31).toNat == s) = true := by decide +kernel
    exact eq_of_beq (List.all_eq_true.mp h s (List.mem_range.mpr hs))
  show ((Int32.toUInt32 x) >>> ((Int32.toUInt32 (Int32.ofNat s)) &&& Int32.toUInt32 31)).toNat = _
  rw [UInt32.toNat_shiftRight, e, Nat.mod_eq_of_lt hs, Nat.shiftRight_eq_div_pow]
  rfl
theorem b255 (i : Nat) (h : 8 ≤ i) (h2 : i < 32) : (255#32).getLsbD i = false := by
  have q : (List.range 24).all (fun j => (255#32).getLsbD (8 + j) == false) = true := by decide +kernel
  have := eq_of_beq (List.all_eq_true.mp q (i - 8) (List.mem_range.mpr (by omega)))
  rwa [show 8 + (i - 8) = i by omega] at this
theorem sh255 (x : BitVec 32) {s : Nat} (hs : s ≤ 24) : x.sshiftRight s &&& 255#32 = (x >>> s) &&& 255#32 := by
  apply BitVec.eq_of_getLsbD_eq
  intro i hi
  rw [BitVec.getLsbD_and, BitVec.getLsbD_and]
  by_cases c : i < 8
  · rw [BitVec.getLsbD_sshiftRight, BitVec.getLsbD_ushiftRight, decide_eq_false (show ¬ 32 ≤ i by omega), if_pos (show s + i < 32 by omega)]
    rfl
  · rw [b255 i (by omega) hi, Bool.and_false, Bool.and_false]
theorem shr_s (x : Int32) {s : Nat} (hs : s ≤ 24) : ((x >>> ((Int32.ofNat s) &&& 31) : Int32) &&& (255 : Int32)) = zi ((byt x s : Nat) : Int) := by
  have e : (((Int32.ofNat s) &&& 31 : Int32).toBitVec.smod 32).toNat = s := by
    have h : (List.range 32).all (fun s => (((Int32.ofNat s) &&& 31 : Int32).toBitVec.smod 32).toNat == s) = true := by decide +kernel
    exact eq_of_beq (List.all_eq_true.mp h s (List.mem_range.mpr (by omega)))
  apply Int32.toBitVec_inj.mp
  rw [Int32.toBitVec_and, Int32.toBitVec_shiftRight, BitVec.sshiftRight_eq', e]
  show x.toBitVec.sshiftRight s &&& 255#32 = BitVec.ofInt 32 ((byt x s : Nat) : Int)
  rw [sh255 _ hs, BitVec.ofInt_natCast]
  apply BitVec.eq_of_toNat_eq
  rw [BitVec.toNat_and, BitVec.toNat_ushiftRight, Nat.shiftRight_eq_div_pow, BitVec.toNat_ofNat, show 255 % 2 ^ 32 = 2 ^ 8 - 1 by decide, Nat.and_two_pow_sub_one_eq_mod, BitVec.toNat_ofNat]
  have := byt_lt x s
  unfold byt at *
  omega
/-- a byte more, in the class -/
def onI0 (k o _ : Nat) : Bool := (Nat.beq k 19 || Nat.beq k 20) && Nat.beq o 0
def onR0 (k o s : Nat) : Bool := (Nat.beq k 30 || (Nat.beq k 27 && Nat.beq s 4)) && Nat.beq o 0
theorem s_put {M : xM} {B : Nat → Int} {n : Nat} (h : IN M 0 B n) (hn : n + 1 ≤ 600) {a : Int32} {v : Nat} (hv : a.toBitVec.toNat % 256 = v) : ∃ M1, m_I_putByte 0 a M = rV M1 ∧ fz onI0 M M1 ∧ IN M1 0 (upI B n v) (n + 1) := by
  refine ⟨xst (xst M 20 0 n (.int (zi (sb (v : Nat))))) 19 0 1 (.int (zi ((n + 1 : Nat) : Int))), ?_, fz_step (fz_st rfl) rfl, hn, gi_h _ _ _ _ _, fun k hk => ?_⟩
  · rw [e_m_I_putByte, h.2.1, zi_600, zif (by omega) (by omega) (by decide) (by decide), if_pos (by omega), xck_n (by omega) (by decide), zix (by omega), i8_low, hv, zi_suc]
  · have v2 : v < 256 := by rw [← hv]; exact Nat.mod_lt _ (by decide)
    rw [gi_k (by decide)]
    by_cases e : k = n
    · subst e
      rw [gi_h, upI_h]
      exact ⟨rfl, by omega, by omega⟩
    · rw [gi_s e, upI_n e]
      exact h.2.2 k (by omega)
/-- .. in the reference -/
theorem r_put {M : xM} {B : Nat → Int} {n : Nat} (h : IR M B n) (hn : n + 1 ≤ 600) {v : Nat} (hv : v < 256) : IR (xst (xst M 30 0 n (.int (zi (v : Nat)))) 27 0 4 (.int (zi ((n + 1 : Nat) : Int)))) (upI B n v) (n + 1) := by
  refine ⟨hn, gi_h _ _ _ _ _, fun k hk => ?_⟩
  rw [gi_k (by decide)]
  by_cases e : k = n
  · subst e
    rw [gi_h, upI_h]
    exact ⟨rfl, by omega, by omega⟩
  · rw [gi_s e, upI_n e]
    exact h.2.2 k (by omega)
/-- a word more: four bytes -/
def wd4 (B : Nat → Int) (n : Nat) (x : Int32) : Nat → Int := upI (upI (upI (upI B n (byt x 24)) (n + 1) (byt x 16)) (n + 2) (byt x 8)) (n + 3) (byt x 0)
theorem s_word {M : xM} {B : Nat → Int} {n : Nat} (h : IN M 0 B n) (hn : n + 4 ≤ 600) (x : Int32) : ∃ M1, m_I_putBytes 0 x M = rV M1 ∧ fz onI0 M M1 ∧ IN M1 0 (wd4 B n x) (n + 4) := by
  obtain ⟨A, ea, fa, ia⟩ := s_put h (by omega) (a := (((Int32.toUInt32 x) >>> ((Int32.toUInt32 24) &&& Int32.toUInt32 31)).toInt32)) (v := byt x 24) (by
    have := shr_u x (s := 24) (by decide)
    have this : (((Int32.toUInt32 x) >>> ((Int32.toUInt32 24) &&& Int32.toUInt32 31)).toInt32).toBitVec.toNat = _ := this
    rw [this]; rfl)
  obtain ⟨C, ec, fc, ic⟩ := s_put ia (by omega) (a := (((Int32.toUInt32 x) >>> ((Int32.toUInt32 16) &&& Int32.toUInt32 31)).toInt32)) (v := byt x 16) (by
    have := shr_u x (s := 16) (by decide)
    have this : (((Int32.toUInt32 x) >>> ((Int32.toUInt32 16) &&& Int32.toUInt32 31)).toInt32).toBitVec.toNat = _ := this
    rw [this]; rfl)
  obtain ⟨D, ed, fd, id⟩ := s_put ic (by omega) (a := (((Int32.toUInt32 x) >>> ((Int32.toUInt32 8) &&& Int32.toUInt32 31)).toInt32)) (v := byt x 8) (by
    have := shr_u x (s := 8) (by decide)
    have this : (((Int32.toUInt32 x) >>> ((Int32.toUInt32 8) &&& Int32.toUInt32 31)).toInt32).toBitVec.toNat = _ := this
    rw [this]; rfl)
  obtain ⟨E, ee, fe, ie⟩ := s_put id (by omega) (a := x) (v := byt x 0) (by unfold byt; rw [Nat.pow_zero, Nat.div_one])
  exact ⟨E, by rw [e_m_I_putBytes, ea, xbV_r, ec, xbV_r, ed, xbV_r, ee, xbV_r], fz_trans fa (fz_trans fc (fz_trans fd fe)), ie⟩
theorem r_wst {M : xM} {B : Nat → Int} {n : Nat} (h : IR M B n) (hn : n + 1 ≤ 600) (x : Int32) {s : Nat} (hs : s ≤ 24) : b_M_appendWord_3 0 x (Int32.ofNat s) M = b_M_appendWord_3 0 x (Int32.ofNat s + (-8)) (xst (xst M 30 0 n (.int (zi (byt x s : Nat)))) 27 0 4 (.int (zi ((n + 1 : Nat) : Int)))) := by
  have c : ¬ Int32.ofNat s < 0 := by
    have h : (List.range 25).all (fun s => decide (¬ Int32.ofNat s < 0)) = true := by decide +kernel
    exact of_decide_eq_true (List.all_eq_true.mp h s (List.mem_range.mpr (by omega)))
  rw [e_b_M_appendWord_3, if_neg c, h.2.1, xck_n (by omega) (by decide), zix (by omega), shr_s x hs, zi_suc]
theorem r_word {M : xM} {B : Nat → Int} {n : Nat} (h : IR M B n) (hn : n + 4 ≤ 600) (x : Int32) : ∃ M1, m_M_appendWord 0 x M = rV M1 ∧ fz onR0 M M1 ∧ IR M1 (wd4 B n x) (n + 4) := by
  have i1 := r_put h (by omega) (byt_lt x 24)
  have i2 := r_put i1 (by omega) (byt_lt x 16)
  have i3 := r_put i2 (by omega) (byt_lt x 8)
  have i4 := r_put i3 (by omega) (byt_lt x 0)
  have s1 := r_wst h (by omega) x (s := 24) (by decide)
  have s2 := r_wst i1 (by omega) x (s := 16) (by decide)
  have s3 := r_wst i2 (by omega) x (s := 8) (by decide)
  have s4 := r_wst i3 (by omega) x (s := 0) (by decide)
  refine ⟨_, ?_, fz_step (fz_step (fz_step (fz_step (fz_step (fz_step (fz_step (fz_st rfl) rfl) rfl) rfl) rfl) rfl) rfl) rfl, i4⟩
  rw [e_m_M_appendWord]
  refine s1.trans ?_
  rw [show Int32.ofNat 24 + (-8) = Int32.ofNat 16 from by decide]
  refine s2.trans ?_
  rw [show Int32.ofNat 16 + (-8) = Int32.ofNat 8 from by decide]
  refine s3.trans ?_
  rw [show Int32.ofNat 8 + (-8) = Int32.ofNat 0 from by decide]
  refine s4.trans ?_
  rw [show Int32.ofNat 0 + (-8) = (-8 : Int32) from by decide, e_b_M_appendWord_3, if_pos (by decide)]
theorem J_I0 {M M' : xM} (f : fz onI0 M M') : fz onJ M M' := fz_mono (fun k o s h => by
  unfold onI0 at h
  rw [Bool.and_eq_true, Bool.or_eq_true] at h
  rcases h.1 with e | e
  · rw [Nat.eq_of_beq_eq_true e]; rfl
  · rw [Nat.eq_of_beq_eq_true e]; rfl) f
theorem J_R0 {M M' : xM} (f : fz onR0 M M') : fz onJ M M' := fz_mono (fun k o s h => by
  unfold onR0 at h
  rw [Bool.and_eq_true, Bool.or_eq_true, Bool.and_eq_true] at h
  rcases h.1 with e | e
  · rw [Nat.eq_of_beq_eq_true e]; rfl
  · rw [Nat.eq_of_beq_eq_true e.1]; rfl) f
theorem INx_I0 {M M' : xM} (f : fz onI0 M M') : fz onIN M M' := fz_mono (fun k o s h => by
  unfold onI0 at h
  rw [Bool.and_eq_true, Bool.or_eq_true] at h
  rcases h.1 with e | e
  · rw [Nat.eq_of_beq_eq_true e]; rfl
  · rw [Nat.eq_of_beq_eq_true e]; rfl) f
theorem INx_R0 {M M' : xM} (f : fz onR0 M M') : fz onIN M M' := fz_mono (fun k o s h => by
  unfold onR0 at h
  rw [Bool.and_eq_true, Bool.or_eq_true, Bool.and_eq_true] at h
  rcases h.1 with e | e
  · rw [Nat.eq_of_beq_eq_true e]; rfl
  · rw [Nat.eq_of_beq_eq_true e.1, Nat.eq_of_beq_eq_true e.2]; rfl) f
theorem q_append {M : xM} (hI : Inv M) (x1 x2 x3 x4 x5 : Int32) : QR PT M (m_L_append 0 x1 x2 x3 x4 x5 0 M) (m_M_append 0 x1 x2 x3 x4 x5) := by
  obtain ⟨n, i1, i2⟩ := hI.2.2.2.1
  have n6 := i1.1
  by_cases c : n + 20 ≤ 600
  · obtain ⟨A1, ea1, fa1, ia1⟩ := s_word i1 (by omega) x1
    obtain ⟨A2, ea2, fa2, ia2⟩ := s_word ia1 (by omega) x2
    obtain ⟨A3, ea3, fa3, ia3⟩ := s_word ia2 (by omega) x3
    obtain ⟨A4, ea4, fa4, ia4⟩ := s_word ia3 (by omega) x4
    obtain ⟨A5, ea5, fa5, ia5⟩ := s_word ia4 (by omega) x5
    have fa : fz onI0 M A5 := fz_trans fa1 (fz_trans fa2 (fz_trans fa3 (fz_trans fa4 fa5)))
    have f39 : fz onIN A5 (xst A5 39 0 0 (.long (Int32.toInt64 (zi ((n + 4 + 4 + 4 + 4 + 4 : Nat) : Int))))) := fz_st rfl
    have i20 : IR (xst (xst A5 39 0 0 (.long (Int32.toInt64 (zi ((n + 4 + 4 + 4 + 4 + 4 : Nat) : Int))))) 27 0 9 (.int 0)) (BB M) n := by
      have := IR_fz i2 fa rfl (fun _ => rfl)
      refine ⟨this.1, ?_, fun k hk => ?_⟩
      · rw [gi_s (by decide), gi_k (by decide)]; exact this.2.1
      · rw [gi_k (by decide), gi_k (by decide)]; exact this.2.2 k hk
    obtain ⟨C1, ec1, fc1, ic1⟩ := r_word i20 (by omega) x1
    obtain ⟨C2, ec2, fc2, ic2⟩ := r_word ic1 (by omega) x2
    obtain ⟨C3, ec3, fc3, ic3⟩ := r_word ic2 (by omega) x3
    obtain ⟨C4, ec4, fc4, ic4⟩ := r_word ic3 (by omega) x4
    obtain ⟨C5, ec5, fc5, ic5⟩ := r_word ic4 (by omega) x5
    have fc : fz onR0 _ C5 := fz_trans fc1 (fz_trans fc2 (fz_trans fc3 (fz_trans fc4 fc5)))
    have j1 : fz onJ M (xst A5 39 0 0 (.long (Int32.toInt64 (zi ((n + 4 + 4 + 4 + 4 + 4 : Nat) : Int))))) := fz_step (J_I0 fa) rfl
    have j2 : fz onJ (xst A5 39 0 0 (.long (Int32.toInt64 (zi ((n + 4 + 4 + 4 + 4 + 4 : Nat) : Int))))) C5 := fz_trans (fz_st rfl) (J_R0 fc)
    refine ⟨0, _, C5, zi ((n + 4 + 4 + 4 + 4 + 4 : Nat) : Int), ?_, ?_, ?_, fun _ => ⟨?_, trivial⟩, SF_J j1, SF_J j2, Inv_N hI (fz_trans (fz_trans (INx_I0 fa) f39) (fz_trans (fz_st rfl) (INx_R0 fc))) (INP_of (B := wd4 (wd4 (wd4 (wd4 (wd4 (BB M) n x1) (n + 4) x2) (n + 4 + 4) x3) (n + 4 + 4 + 4) x4) (n + 4 + 4 + 4 + 4) x5) (n := n + 4 + 4 + 4 + 4 + 4) ?_ ic5), RM_le (RM_J (fz_trans j1 j2)) (by decide) (by decide)⟩
    · rw [e_m_L_append, e_m_C_append, i1.2.1, zi_20, zi_add, zi_600, zif (by decide) (by decide) (by omega) (by omega), if_neg (by omega), ea1, xbV_r, ea2, xbV_r, ea3, xbV_r, ea4, xbV_r, ea5, xbV_r, ia5.2.1, xhI_r, xck_01]
      rfl
    · have e4 : gi (xst A5 39 0 0 (.long (Int32.toInt64 (zi ((n + 4 + 4 + 4 + 4 + 4 : Nat) : Int))))) 27 0 4 = zi n := (gi_k (by decide)).trans ((fz_gi fa rfl).trans i2.2.1)
      rw [e_m_M_append, e4, zi_20, zi_add, zi_600, zif (by decide) (by decide) (by omega) (by omega), if_neg (by omega), r_F0, ec1, xbV_r, ec2, xbV_r, ec3, xbV_r, ec4, xbV_r, ec5, xbV_r, ic5.2.1]
    · rw [fz_gi fc rfl, gi_h]
    · rw [fz_gl fc rfl, gl_k (by decide), gl_h]
    · have := IN_fz ia5 (fz_st (K := fun k o s => Nat.beq k 39 || Nat.beq k 27) (M := A5) (k := 39) (o := 0) (s := 0) (v := .long (Int32.toInt64 (zi ((n + 4 + 4 + 4 + 4 + 4 : Nat) : Int)))) rfl) rfl (fun _ => rfl)
      have := IN_fz this (fz_st (K := fun k o s => Nat.beq k 39 || Nat.beq k 27) (k := 27) (o := 0) (s := 9) (v := .int 0) rfl) rfl (fun _ => rfl)
      exact IN_fz this fc rfl (fun _ => rfl)
  · have e4 : gi (xbump M 1 6) 27 0 4 = zi n := (bump_gi (by decide)).trans i2.2.1
    refine QR_f (c := 1) (v := 0) hI (by decide) ?_ ?_ (fz_refl _)
    · rw [e_m_L_append, e_m_C_append, i1.2.1, zi_20, zi_add, zi_600, zif (by decide) (by decide) (by omega) (by omega), if_pos (by omega), xhI_e, if_pos rfl]
    · rw [e_m_M_append, e4, zi_20, zi_add, zi_600, zif (by decide) (by decide) (by omega) (by omega), if_pos (by omega), r_F1]
