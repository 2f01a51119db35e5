/-! writing the schedule: numbers in the class's builder -/
theorem dg1_tab : (List.range 100).all (fun r => (Int32.toInt8 (xget0 0 xdg1 r)).toInt32 == zi ((48 + r % 10 : Nat) : Int)) = true := by decide +kernel
theorem dg10_tab : (List.range 100).all (fun r => (Int32.toInt8 (xget0 0 xdg10 r)).toInt32 == zi ((48 + r / 10 : Nat) : Int)) = true := by decide +kernel
set_option maxRecDepth 100000 in
theorem ndv_tab : (List.range 1000).all (fun x => zi (-((x : Nat) : Int)) / 100 == zi (-((x / 100 : Nat) : Int))) = true := by decide +kernel
theorem dg1_eq {M : xM} (h : KC M) {r : Nat} (hr : r < 100) : (Int32.toInt8 (gi M 48 0 r)).toInt32 = zi ((48 + r % 10 : Nat) : Int) := by
  rw [(h.2.2 r).1]
  exact eq_of_beq (List.all_eq_true.mp dg1_tab r (List.mem_range.mpr hr))
theorem dg10_eq {M : xM} (h : KC M) {r : Nat} (hr : r < 100) : (Int32.toInt8 (gi M 52 0 r)).toInt32 = zi ((48 + r / 10 : Nat) : Int) := by
  rw [(h.2.2 r).2]
  exact eq_of_beq (List.all_eq_true.mp dg10_tab r (List.mem_range.mpr hr))
theorem ndv {x : Nat} (h : x < 1000) : zi (-(x : Int)) / 100 = zi (-((x / 100 : Nat) : Int)) := eq_of_beq (List.all_eq_true.mp ndv_tab x (List.mem_range.mpr h))
/-- the last one or two digits -/
theorem gc_1 {M : xM} (hK : KC M) {x p A : Nat} (hx : x < 10) (hp : p + 1 ≤ gn M 159 A 0) (hA : gn M 159 A 0 ≤ 1000) : b_JI_getChars_14 (zi (-(x : Int))) A (zi ((p + 1 : Nat) : Int)) 0 M = rI (zi (p : Nat)) (xst M 49 A p (.int (zi ((48 + x % 10 : Nat) : Int)))) := by
  have e1 : zi ((p + 1 : Nat) : Int) + (-1) = zi (p : Nat) := by rw [zi_m1, zi_add]; exact congrArg zi (by omega)
  have e2 : -zi (-(x : Int)) = zi (x : Nat) := by rw [zi_neg]; exact congrArg zi (by omega)
  rw [e_b_JI_getChars_14, show (-100 : Int32) = zi (-100) from rfl, zif (by decide) (by decide) (by omega) (by omega), if_pos (by omega), e1, e2, xck_n (by omega) (by decide), xck_n (by omega) (by omega), show (-9 : Int32) = zi (-9) from rfl, zif (by omega) (by omega) (by decide) (by decide), if_neg (by omega), if_pos rfl, zix (by omega), zix (by omega), dg1_eq hK (by omega)]
theorem gc_2 {M : xM} (hK : KC M) {x p A : Nat} (hx0 : 10 ≤ x) (hx : x < 100) (hp : p + 2 ≤ gn M 159 A 0) (hA : gn M 159 A 0 ≤ 1000) : b_JI_getChars_14 (zi (-(x : Int))) A (zi ((p + 2 : Nat) : Int)) 0 M = rI (zi (p : Nat)) (xst (xst M 49 A (p + 1) (.int (zi ((48 + x % 10 : Nat) : Int)))) 49 A p (.int (zi ((48 + x / 10 : Nat) : Int)))) := by
  have e1 : zi ((p + 2 : Nat) : Int) + (-1) = zi ((p + 1 : Nat) : Int) := by rw [zi_m1, zi_add]; exact congrArg zi (by omega)
  have e3 : zi ((p + 1 : Nat) : Int) + (-1) = zi (p : Nat) := by rw [zi_m1, zi_add]; exact congrArg zi (by omega)
  have e2 : -zi (-(x : Int)) = zi (x : Nat) := by rw [zi_neg]; exact congrArg zi (by omega)
  rw [e_b_JI_getChars_14, show (-100 : Int32) = zi (-100) from rfl, zif (by decide) (by decide) (by omega) (by omega), if_pos (by omega), e1, e2, e3, xck_n (by omega) (by decide), xck_n (by omega) (by omega), show (-9 : Int32) = zi (-9) from rfl, zif (by omega) (by omega) (by decide) (by decide), if_pos (by omega), xck_n (by omega) (by decide), xck_n (by omega) (by omega), if_pos rfl, zix (by omega), zix (by omega), zix (by omega), dg1_eq hK hx, dg10_eq hK hx]
theorem gc_3 {M : xM} (hK : KC M) {x p A : Nat} (hx0 : 100 ≤ x) (hx : x < 1000) (hp : p + 3 ≤ gn M 159 A 0) (hA : gn M 159 A 0 ≤ 1000) : b_JI_getChars_14 (zi (-(x : Int))) A (zi ((p + 3 : Nat) : Int)) 0 M = rI (zi (p : Nat)) (xst (xst (xst M 49 A (p + 2) (.int (zi ((48 + x % 10 : Nat) : Int)))) 49 A (p + 1) (.int (zi ((48 + x / 10 % 10 : Nat) : Int)))) 49 A p (.int (zi ((48 + x / 100 % 10 : Nat) : Int)))) := by
  have e1 : zi ((p + 3 : Nat) : Int) + (-1) = zi ((p + 2 : Nat) : Int) := by rw [zi_m1, zi_add]; exact congrArg zi (by omega)
  have e3 : zi ((p + 2 : Nat) : Int) + (-1) = zi ((p + 1 : Nat) : Int) := by rw [zi_m1, zi_add]; exact congrArg zi (by omega)
  have e2 : zi (-((x / 100 : Nat) : Int)) * (100 : Int32) - zi (-(x : Int)) = zi ((x % 100 : Nat) : Int) := by
    rw [show (100 : Int32) = zi 100 from rfl, zi_mul, zi_sub]; exact congrArg zi (by omega)
  have KC2 : KC (xst (xst M 49 A (p + 2) (.int (zi ((48 + x % 100 % 10 : Nat) : Int)))) 49 A (p + 1) (.int (zi ((48 + x % 100 / 10 : Nat) : Int)))) := KC_fz hK (fz_step (fz_st (K := onWx) rfl) rfl) (fun k o s q => by
    rcases q with rfl | rfl | rfl | rfl | rfl | rfl | ⟨rfl | rfl | rfl | rfl, _⟩ <;> rfl)
  have l : gn (xst (xst M 49 A (p + 2) (.int (zi ((48 + x % 100 % 10 : Nat) : Int)))) 49 A (p + 1) (.int (zi ((48 + x % 100 / 10 : Nat) : Int)))) 159 A 0 = gn M 159 A 0 := by rw [gn_k (by decide), gn_k (by decide)]
  have g1 := gc_1 KC2 (x := x / 100) (p := p) (A := A) (by omega) (by rw [l]; omega) (by rw [l]; exact hA)
  rw [e_b_JI_getChars_14, show (-100 : Int32) = zi (-100) from rfl, zif (by decide) (by decide) (by omega) (by omega), if_neg (by omega), if_neg (by decide), ndv hx, e1, e2, e3, xck_n (by omega) (by decide), xck_n (by omega) (by omega), xck_n (by omega) (by decide), xck_n (by omega) (by omega), zix (by omega), zix (by omega), zix (by omega), dg1_eq hK (by omega), dg10_eq hK (by omega), g1, show x % 100 % 10 = x % 10 by omega, show x % 100 / 10 = x / 10 % 10 by omega]
def wxl (x : Nat) : Nat := if x < 10 then 1 else if x < 100 then 2 else 3
theorem wxd_l (T : Wx) (x : Nat) : (wxd T x).1 = T.1 + wxl x := by
  unfold wxd wxl
  by_cases c : x < 10
  · rw [if_pos c, if_pos c]; rfl
  · rw [if_neg c, if_neg c]
    by_cases d : x < 100
    · rw [if_pos d, if_pos d]; rfl
    · rw [if_neg d, if_neg d]; rfl
theorem s_size {M : xM} {x : Nat} (hx : x < 1000) : m_JI_stringSize (zi (x : Nat)) M = rI (zi (wxl x : Nat)) M := by
  have e2 : -zi ((x : Nat) : Int) = zi (-(x : Int)) := zi_neg _
  have z0 : ∀ v : Int32, v + 0 = v := fun v => Int32.add_zero v
  have st : ∀ (y : Int) (j : Int), -100000 ≤ y → y < 0 → 0 ≤ j → j < 10 → b_JI_stringSize_14 (zi (-(x : Int))) 0 (zi y) (zi j) M = if y < -(x : Int) then rI (zi j) M else b_JI_stringSize_14 (zi (-(x : Int))) 0 (zi (10 * y)) (zi (j + 1)) M := fun y j h1 h2 h3 h4 => by
    rw [e_b_JI_stringSize_14, zi_10, zif (by omega) (by omega) (by decide) (by decide), if_pos h4, zif (by omega) (by omega) (by omega) (by omega), z0, zi_mul, zi_01, zi_add]
  have s1 := st (-10) 1 (by decide) (by decide) (by decide) (by decide)
  have s2 := st (10 * -10) (1 + 1) (by decide) (by decide) (by decide) (by decide)
  have s3 := st (10 * (10 * -10)) (1 + 1 + 1) (by decide) (by decide) (by decide) (by decide)
  rw [e_m_JI_stringSize, zi_00, zif (by omega) (by omega) (by decide) (by decide), if_neg (by omega), e2, ← zi_00, show (-10 : Int32) = zi (-10) from rfl, zi_01, s1]
  unfold wxl
  by_cases c : x < 10
  · rw [if_pos (by omega), if_pos c]; rfl
  · rw [if_neg (by omega), if_neg c, s2]
    by_cases d : x < 100
    · rw [if_pos (by omega), if_pos d]; rfl
    · rw [if_neg (by omega), if_neg d, s3, if_pos (by omega)]; rfl
theorem s_chars {M : xM} (hK : KC M) {T : Wx} {x A : Nat} (hx : x < 1000) (hp : T.1 + wxl x ≤ gn M 159 A 0) (hA : gn M 159 A 0 ≤ 1000) (ht : ∀ i, i < T.1 → gi M 49 A i = T.2 i) : ∃ M' r, m_JI_getChars (zi (x : Nat)) (zi ((T.1 + wxl x : Nat) : Int)) A M = rI r M' ∧ (∀ i, i < (wxd T x).1 → gi M' 49 A i = (wxd T x).2 i) ∧ (∀ k o s, k ≠ 49 → M' k o s = M k o s) := by
  have e2 : -zi ((x : Nat) : Int) = zi (-(x : Int)) := zi_neg _
  have hd : m_JI_getChars (zi (x : Nat)) (zi ((T.1 + wxl x : Nat) : Int)) A M = b_JI_getChars_14 (zi (-(x : Int))) A (zi ((T.1 + wxl x : Nat) : Int)) 0 M := by
    rw [e_m_JI_getChars, zi_00, zif (by omega) (by omega) (by decide) (by decide), if_neg (by omega), if_pos (by decide), e2]
  have ne : ∀ {N : xM} {p : Nat} {v : Value} {k o s : Nat}, k ≠ 49 → (xst N 49 A p v) k o s = N k o s := fun h => if_neg (fun q => h q.1)
  rw [hd, wxd_l]
  unfold wxl at hp ⊢
  unfold wxd
  by_cases c : x < 10
  · rw [if_pos c] at hp ⊢
    rw [if_pos c]
    refine ⟨_, _, gc_1 hK c hp hA, fun i hi => ?_, fun k o s h => ne h⟩
    show _ = if i = T.1 then _ else _
    by_cases q : i = T.1
    · subst q; rw [if_pos rfl, gi_h]
    · rw [if_neg q, gi_s q]; exact ht i (by omega)
  · rw [if_neg c] at hp ⊢
    rw [if_neg c]
    by_cases d : x < 100
    · rw [if_pos d] at hp ⊢
      rw [if_pos d]
      refine ⟨_, _, gc_2 hK (by omega) d hp hA, fun i hi => ?_, fun k o s h => (ne h).trans (ne h)⟩
      show _ = if i = T.1 + 1 then _ else if i = T.1 then _ else _
      by_cases q : i = T.1 + 1
      · subst q; rw [if_pos rfl, gi_s (by omega), gi_h]
      · rw [if_neg q]
        by_cases q2 : i = T.1
        · subst q2; rw [if_pos rfl, gi_h]
          exact congrArg zi (by omega)
        · rw [if_neg q2, gi_s q2, gi_s q]; exact ht i (by omega)
    · rw [if_neg d] at hp ⊢
      rw [if_neg d]
      refine ⟨_, _, gc_3 hK (by omega) hx hp hA, fun i hi => ?_, fun k o s h => ((ne h).trans (ne h)).trans (ne h)⟩
      show _ = if i = T.1 + 1 + 1 then _ else if i = T.1 + 1 then _ else if i = T.1 then _ else _
      by_cases q : i = T.1 + 2
      · subst q; rw [if_pos rfl, gi_s (by omega), gi_s (by omega), gi_h]
      · rw [if_neg q]
        by_cases q1 : i = T.1 + 1
        · subst q1; rw [if_pos rfl, gi_s (by omega), gi_h]
        · rw [if_neg q1]
          by_cases q2 : i = T.1
          · subst q2; rw [if_pos rfl, gi_h]
          · rw [if_neg q2, gi_s q2, gi_s q1, gi_s q]; exact ht i (by omega)
theorem KC_Wx {M M' : xM} (h : KC M) (f : fz onWx M M') : KC M' := KC_fz h f (fun k o s q => by
  rcases q with rfl | rfl | rfl | rfl | rfl | rfl | ⟨rfl | rfl | rfl | rfl, _⟩ <;> rfl)
theorem s_appN {M0 M : xM} {sb : Nat} {T : Wx} {a cap x : Nat} (hK : KC M0) (h : CWx M0 M sb T a cap) (hx : x < 1000) (hl : T.1 + 3 ≤ 220) : ∃ M1 a1 cap1, m_JB_append_1 sb (zi (x : Nat)) M = some (.inl (some (50, .ref sb)), M1) ∧ CWx M0 M1 sb (wxd T x) a1 cap1 := by
  have l3 : wxl x ≤ 3 := by
    unfold wxl
    by_cases c : x < 10
    · rw [if_pos c]; decide
    · rw [if_neg c]
      by_cases d : x < 100
      · rw [if_pos d]; decide
      · rw [if_neg d]; decide
  obtain ⟨M1, a1, cap1, e1, h1, l1⟩ := s_ens h l3 (by omega)
  have hcnt := h.1.2.2.1
  obtain ⟨⟨c1, c2, c3, c4, c5, c6⟩, ⟨d1, d2, d3⟩, e, ⟨r1, r2⟩, f⟩ := h1
  have lat : ∀ N, gi N 50 sb 1 = 0 → m_JA_isLatin1 sb N = rI (bz true) N := fun N q => by rw [e_m_JA_isLatin1, if_neg (by decide), if_pos q, xnar_1]
  obtain ⟨M2, r, e2, t2, g2⟩ := s_chars (KC_Wx hK f) (T := T) (x := x) (A := a1) hx (by rw [c5]; exact l1) (by rw [c5]; omega) e
  have gi2 : ∀ k o s, k ≠ 49 → gi M2 k o s = gi M1 k o s := fun k o s q => by unfold gi; rw [g2 k o s q]
  have gn2 : ∀ k o s, k ≠ 49 → gn M2 k o s = gn M1 k o s := fun k o s q => by unfold gn; rw [g2 k o s q]
  have ln := wxd_l T x
  refine ⟨xst M2 50 sb 2 (.int (zi ((T.1 + wxl x : Nat) : Int))), a1, cap1, ?_, ⟨⟨?_, ?_, ?_, ?_, ?_, ?_⟩, ⟨by omega, d2, by omega⟩, fun i hi => ?_, ⟨?_, ?_⟩, ?_⟩⟩
  · rw [e_m_JB_append_1, e_m_JA_append_1, s_size hx, xret_v, xbI_r, hcnt, zi_add, show (T.1 : Int) + (wxl x : Int) = ((T.1 + wxl x : Nat) : Int) by omega, e1, xret_v, xbV_r, lat M1 c2, xret_v, xbI_r, ite_bt, if_pos c1, c4, e2, xret_v, xbI_r, xret_v, xbR_r]
  · rw [gn_k (by decide), gn2 _ _ _ (by decide)]; exact c1
  · rw [gi_s (by decide), gi2 _ _ _ (by decide)]; exact c2
  · rw [gi_h, ln]
  · rw [gn_s (by decide), gn2 _ _ _ (by decide)]; exact c4
  · rw [gn_k (by decide), gn2 _ _ _ (by decide)]; exact c5
  · rw [gn_k (by decide), gn2 _ _ _ (by decide)]; exact c6
  · rw [gi_k (by decide)]; exact t2 i hi
  · rw [gn_k (by decide), gn2 _ _ _ (by decide)]; exact r1
  · rw [gn_k (by decide), gn2 _ _ _ (by decide)]; exact r2
  · exact fz_step (fun k o s q => (g2 k o s (onWx_f q).1).trans (f k o s q)) rfl
