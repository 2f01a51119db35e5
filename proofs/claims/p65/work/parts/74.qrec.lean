/-! the recursive methods of the law: families of their copies (wip/p65/genq.py writes this) -/
noncomputable def mEa (j : Nat) : Nat → Int32 → xM → xR := match j with
  | 0 => m_Q_early_0
  | 1 => m_Q_early_1
  | 2 => m_Q_early_2
  | 3 => m_Q_early_3
  | 4 => m_Q_early_4
  | 5 => m_Q_early_5
  | 6 => m_Q_early_6
  | 7 => m_Q_early_7
  | _ => fun _ _ _ => none
noncomputable def bEa (j : Nat) : Nat → Int32 → Int32 → Int32 → xM → xR := match j with
  | 0 => b_Q_early_0_8
  | 1 => b_Q_early_1_8
  | 2 => b_Q_early_2_8
  | 3 => b_Q_early_3_8
  | 4 => b_Q_early_4_8
  | 5 => b_Q_early_5_8
  | 6 => b_Q_early_6_8
  | 7 => b_Q_early_7_8
  | _ => fun _ _ _ _ _ => none
noncomputable def bodyEa (rec : Nat → Int32 → xM → xR) (lp : Nat → Int32 → Int32 → Int32 → xM → xR) (v0 : Nat) (v1 : Int32) (v2 : Int32) (v3 : Int32) (M : xM) : xR := (if v3 < (gi M 27 v0 1) then (if (gn M 227 v0 0) = 1 then (xgd (xgood (xsl 0) M && xain (xsl 0) [(1, .ref 0), (0, .int v3), (0, .int v1)]) (xbI (xret (m_C_hasLink 0 v3 v1 M)) (fun r2 M1 => (if r2 = 0 then (lp v0 v1 v2 (v3 + 1) M1) else (xbI (xret (rec v0 v3 M1)) (fun r4 M3 => (if (gn M3 227 v0 0) = 1 then (xgd (xgood (xsl 0) M3 && xain (xsl 0) [(1, .ref 0), (0, .int v3)]) (xbI (xret (m_C_duration 0 v3 M3)) (fun r6 M5 => (xgd (xgood (xsl 4) M5 && xain (xsl 4) [(0, .int v2), (0, .int (r4 + r6))]) (xbI (xret (m_JM_max v2 (r4 + r6) M5)) (fun r8 M7 => (lp v0 v1 r8 (v3 + 1) M7))))))) else none))))))) else none) else (some (.inl (some (0, .int v2)), M)))
theorem eq_bEa {j : Nat} (hj : j ≤ 7) (v0 : Nat) (v1 : Int32) (v2 : Int32) (v3 : Int32) (M : xM) : bEa j v0 v1 v2 v3 M = bodyEa (mEa (j + 1)) (bEa j) v0 v1 v2 v3 M := by
  have : j = 0 ∨ j = 1 ∨ j = 2 ∨ j = 3 ∨ j = 4 ∨ j = 5 ∨ j = 6 ∨ j = 7 := by omega
  rcases this with rfl | rfl | rfl | rfl | rfl | rfl | rfl | rfl
  · exact (e_b_Q_early_0_8 v0 v1 v2 v3 M).trans rfl
  · exact (e_b_Q_early_1_8 v0 v1 v2 v3 M).trans rfl
  · exact (e_b_Q_early_2_8 v0 v1 v2 v3 M).trans rfl
  · exact (e_b_Q_early_3_8 v0 v1 v2 v3 M).trans rfl
  · exact (e_b_Q_early_4_8 v0 v1 v2 v3 M).trans rfl
  · exact (e_b_Q_early_5_8 v0 v1 v2 v3 M).trans rfl
  · exact (e_b_Q_early_6_8 v0 v1 v2 v3 M).trans rfl
  · exact (e_b_Q_early_7_8 v0 v1 v2 v3 M).trans rfl
theorem eq_mEa {j : Nat} (hj : j ≤ 7) (a1 : Nat) (a2 : Int32) (M : xM) : mEa j a1 a2 M = (if (gn M 227 a1 0) = 1 then (xgd (xgood (xsl 0) M && xain (xsl 0) [(1, .ref 0), (0, .int a2)]) (xbI (xret (m_C_release 0 a2 M)) (fun r2 M1 => ((bEa j) a1 a2 r2 0 M1)))) else none) := by
  have : j = 0 ∨ j = 1 ∨ j = 2 ∨ j = 3 ∨ j = 4 ∨ j = 5 ∨ j = 6 ∨ j = 7 := by omega
  rcases this with rfl | rfl | rfl | rfl | rfl | rfl | rfl | rfl
  · exact (e_m_Q_early_0 a1 a2 M).trans rfl
  · exact (e_m_Q_early_1 a1 a2 M).trans rfl
  · exact (e_m_Q_early_2 a1 a2 M).trans rfl
  · exact (e_m_Q_early_3 a1 a2 M).trans rfl
  · exact (e_m_Q_early_4 a1 a2 M).trans rfl
  · exact (e_m_Q_early_5 a1 a2 M).trans rfl
  · exact (e_m_Q_early_6 a1 a2 M).trans rfl
  · exact (e_m_Q_early_7 a1 a2 M).trans rfl
noncomputable def mLa (j : Nat) : Nat → Int32 → xM → xR := match j with
  | 0 => m_Q_late_0
  | 1 => m_Q_late_1
  | 2 => m_Q_late_2
  | 3 => m_Q_late_3
  | 4 => m_Q_late_4
  | 5 => m_Q_late_5
  | 6 => m_Q_late_6
  | 7 => m_Q_late_7
  | _ => fun _ _ _ => none
noncomputable def bLa (j : Nat) : Nat → Int32 → Int32 → Int32 → xM → xR := match j with
  | 0 => b_Q_late_0_6
  | 1 => b_Q_late_1_6
  | 2 => b_Q_late_2_6
  | 3 => b_Q_late_3_6
  | 4 => b_Q_late_4_6
  | 5 => b_Q_late_5_6
  | 6 => b_Q_late_6_6
  | 7 => b_Q_late_7_6
  | _ => fun _ _ _ _ _ => none
noncomputable def bodyLa (rec : Nat → Int32 → xM → xR) (lp : Nat → Int32 → Int32 → Int32 → xM → xR) (v0 : Nat) (v1 : Int32) (v2 : Int32) (v3 : Int32) (M : xM) : xR := (if v3 < (gi M 27 v0 1) then (if (gn M 227 v0 0) = 1 then (xgd (xgood (xsl 0) M && xain (xsl 0) [(1, .ref 0), (0, .int v1), (0, .int v3)]) (xbI (xret (m_C_hasLink 0 v1 v3 M)) (fun r4 M3 => (if r4 = 0 then (lp v0 v1 v2 (v3 + 1) M3) else (xbI (xret (rec v0 v3 M3)) (fun r6 M5 => (xgd (xgood (xsl 4) M5 && xain (xsl 4) [(0, .int v2), (0, .int r6)]) (xbI (xret (m_JM_min v2 r6 M5)) (fun r8 M7 => (lp v0 v1 r8 (v3 + 1) M7)))))))))) else none) else (if (gn M 227 v0 0) = 1 then (xgd (xgood (xsl 0) M && xain (xsl 0) [(1, .ref 0), (0, .int v1)]) (xbI (xret (m_C_duration 0 v1 M)) (fun r2 M1 => (some (.inl (some (0, .int (v2 - r2))), M1))))) else none))
theorem eq_bLa {j : Nat} (hj : j ≤ 7) (v0 : Nat) (v1 : Int32) (v2 : Int32) (v3 : Int32) (M : xM) : bLa j v0 v1 v2 v3 M = bodyLa (mLa (j + 1)) (bLa j) v0 v1 v2 v3 M := by
  have : j = 0 ∨ j = 1 ∨ j = 2 ∨ j = 3 ∨ j = 4 ∨ j = 5 ∨ j = 6 ∨ j = 7 := by omega
  rcases this with rfl | rfl | rfl | rfl | rfl | rfl | rfl | rfl
  · exact (e_b_Q_late_0_6 v0 v1 v2 v3 M).trans rfl
  · exact (e_b_Q_late_1_6 v0 v1 v2 v3 M).trans rfl
  · exact (e_b_Q_late_2_6 v0 v1 v2 v3 M).trans rfl
  · exact (e_b_Q_late_3_6 v0 v1 v2 v3 M).trans rfl
  · exact (e_b_Q_late_4_6 v0 v1 v2 v3 M).trans rfl
  · exact (e_b_Q_late_5_6 v0 v1 v2 v3 M).trans rfl
  · exact (e_b_Q_late_6_6 v0 v1 v2 v3 M).trans rfl
  · exact (e_b_Q_late_7_6 v0 v1 v2 v3 M).trans rfl
theorem eq_mLa {j : Nat} (hj : j ≤ 7) (a1 : Nat) (a2 : Int32) (M : xM) : mLa j a1 a2 M = ((bLa j) a1 a2 (gi M 27 a1 3) 0 M) := by
  have : j = 0 ∨ j = 1 ∨ j = 2 ∨ j = 3 ∨ j = 4 ∨ j = 5 ∨ j = 6 ∨ j = 7 := by omega
  rcases this with rfl | rfl | rfl | rfl | rfl | rfl | rfl | rfl
  · exact (e_m_Q_late_0 a1 a2 M).trans rfl
  · exact (e_m_Q_late_1 a1 a2 M).trans rfl
  · exact (e_m_Q_late_2 a1 a2 M).trans rfl
  · exact (e_m_Q_late_3 a1 a2 M).trans rfl
  · exact (e_m_Q_late_4 a1 a2 M).trans rfl
  · exact (e_m_Q_late_5 a1 a2 M).trans rfl
  · exact (e_m_Q_late_6 a1 a2 M).trans rfl
  · exact (e_m_Q_late_7 a1 a2 M).trans rfl
noncomputable def mAf (j : Nat) : Nat → Int32 → Nat → xM → xR := match j with
  | 0 => m_Q_after_0
  | 1 => m_Q_after_1
  | 2 => m_Q_after_2
  | 3 => m_Q_after_3
  | 4 => m_Q_after_4
  | 5 => m_Q_after_5
  | 6 => m_Q_after_6
  | 7 => m_Q_after_7
  | _ => fun _ _ _ _ => none
noncomputable def bAf (j : Nat) : Nat → Int32 → Nat → Int32 → Int32 → xM → xR := match j with
  | 0 => b_Q_after_0_5
  | 1 => b_Q_after_1_5
  | 2 => b_Q_after_2_5
  | 3 => b_Q_after_3_5
  | 4 => b_Q_after_4_5
  | 5 => b_Q_after_5_5
  | 6 => b_Q_after_6_5
  | 7 => b_Q_after_7_5
  | _ => fun _ _ _ _ _ _ => none
noncomputable def bodyAf (rec : Nat → Int32 → Nat → xM → xR) (lp : Nat → Int32 → Nat → Int32 → Int32 → xM → xR) (v0 : Nat) (v1 : Int32) (v2 : Nat) (v3 : Int32) (v4 : Int32) (M : xM) : xR := (if v4 < (gi M 27 v0 1) then (if (gn M 227 v0 0) = 1 then (xgd (xgood (xsl 0) M && xain (xsl 0) [(1, .ref 0), (0, .int v1), (0, .int v4)]) (xbI (xret (m_C_hasLink 0 v1 v4 M)) (fun r2 M1 => (if r2 = 0 then (lp v0 v1 v2 v3 (v4 + 1) M1) else (xck v4 12 (if (gi M1 29 v2 (ix v4)) = 0 then (xck v4 12 (xbI (xret (rec v0 v4 v2 (xst M1 29 v2 (ix v4) (.int (1 &&& 1))))) (fun r4 M3 => (lp v0 v1 v2 (v3 + ((1 : Int32) + r4)) (v4 + 1) M3)))) else (lp v0 v1 v2 v3 (v4 + 1) M1))))))) else none) else (some (.inl (some (0, .int v3)), M)))
theorem eq_bAf {j : Nat} (hj : j ≤ 7) (v0 : Nat) (v1 : Int32) (v2 : Nat) (v3 : Int32) (v4 : Int32) (M : xM) : bAf j v0 v1 v2 v3 v4 M = bodyAf (mAf (j + 1)) (bAf j) v0 v1 v2 v3 v4 M := by
  have : j = 0 ∨ j = 1 ∨ j = 2 ∨ j = 3 ∨ j = 4 ∨ j = 5 ∨ j = 6 ∨ j = 7 := by omega
  rcases this with rfl | rfl | rfl | rfl | rfl | rfl | rfl | rfl
  · exact (e_b_Q_after_0_5 v0 v1 v2 v3 v4 M).trans rfl
  · exact (e_b_Q_after_1_5 v0 v1 v2 v3 v4 M).trans rfl
  · exact (e_b_Q_after_2_5 v0 v1 v2 v3 v4 M).trans rfl
  · exact (e_b_Q_after_3_5 v0 v1 v2 v3 v4 M).trans rfl
  · exact (e_b_Q_after_4_5 v0 v1 v2 v3 v4 M).trans rfl
  · exact (e_b_Q_after_5_5 v0 v1 v2 v3 v4 M).trans rfl
  · exact (e_b_Q_after_6_5 v0 v1 v2 v3 v4 M).trans rfl
  · exact (e_b_Q_after_7_5 v0 v1 v2 v3 v4 M).trans rfl
theorem eq_mAf {j : Nat} (hj : j ≤ 7) (a1 : Nat) (a2 : Int32) (a3 : Nat) (M : xM) : mAf j a1 a2 a3 M = ((bAf j) a1 a2 a3 0 0 M) := by
  have : j = 0 ∨ j = 1 ∨ j = 2 ∨ j = 3 ∨ j = 4 ∨ j = 5 ∨ j = 6 ∨ j = 7 := by omega
  rcases this with rfl | rfl | rfl | rfl | rfl | rfl | rfl | rfl
  · exact (e_m_Q_after_0 a1 a2 a3 M).trans rfl
  · exact (e_m_Q_after_1 a1 a2 a3 M).trans rfl
  · exact (e_m_Q_after_2 a1 a2 a3 M).trans rfl
  · exact (e_m_Q_after_3 a1 a2 a3 M).trans rfl
  · exact (e_m_Q_after_4 a1 a2 a3 M).trans rfl
  · exact (e_m_Q_after_5 a1 a2 a3 M).trans rfl
  · exact (e_m_Q_after_6 a1 a2 a3 M).trans rfl
  · exact (e_m_Q_after_7 a1 a2 a3 M).trans rfl
