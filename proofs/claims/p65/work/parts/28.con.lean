/-! WHAT A START GIVES: the words, the constants (wip/p65/gen28.py writes this). -/
def xnm42 : List String := ["WORD", "NUMBER", "SEMICOLON", "INVALID", "END"]
def xnm43 : List String := ["RULE"]
def xstm : List (String × Nat) := [("ProjectPlanner$Setup", 50), ("ProjectPlanner$Setup", 32), ("ProjectPlanner$Setup", 120), ("ProjectPlanner$Setup", 93), ("ProjectPlanner", 52), ("ProjectPlanner", 62), ("ProjectPlanner", 70), ("ProjectPlanner", 72), ("ProjectPlannerLaw", 36), ("ProjectPlannerLaw", 51), ("ProjectPlannerLaw", 57), ("ProjectPlannerLaw", 60), ("ProjectPlannerLaw", 63)]
def xlen46 : List Nat := [7, 8, 5, 4, 0, 43, 68, 59, 8, 10, 6, 8, 2]
def xbyt : List (List Int32) := [[112, 114, 111, 106, 101, 99, 116], [114, 101, 115, 111, 117, 114, 99, 101], [97, 102, 116, 101, 114], [116, 97, 115, 107], [], [112, 114, 111, 106, 101, 99, 116, 32, 49, 59, 114, 101, 115, 111, 117, 114, 99, 101, 32, 99, 114, 101, 119, 32, 51, 59, 114, 101, 115, 111, 117, 114, 99, 101, 32, 99, 114, 97, 110, 101, 32, 49, 59], [116, 97, 115, 107, 32, 100, 105, 103, 32, 51, 32, 50, 32, 48, 59, 116, 97, 115, 107, 32, 119, 97, 108, 108, 32, 53, 32, 50, 32, 49, 32, 97, 102, 116, 101, 114, 32, 100, 105, 103, 59, 116, 97, 115, 107, 32, 114, 111, 111, 102, 32, 50, 32, 49, 32, 49, 32, 97, 102, 116, 101, 114, 32, 119, 97, 108, 108, 59], [116, 97, 115, 107, 32, 112, 105, 112, 101, 32, 52, 32, 49, 32, 48, 32, 97, 102, 116, 101, 114, 32, 100, 105, 103, 59, 116, 97, 115, 107, 32, 112, 97, 105, 110, 116, 32, 51, 32, 49, 32, 48, 32, 97, 102, 116, 101, 114, 32, 119, 97, 108, 108, 32, 112, 105, 112, 101, 59], [112, 114, 111, 106, 101, 99, 116, 32], [114, 101, 115, 111, 117, 114, 99, 101, 32, 114], [116, 97, 115, 107, 32, 116], [32, 97, 102, 116, 101, 114, 32, 116], [32, 116]]
def xdg1 : List Int32 := [48, 49, 50, 51, 52, 53, 54, 55, 56, 57, 48, 49, 50, 51, 52, 53, 54, 55, 56, 57, 48, 49, 50, 51, 52, 53, 54, 55, 56, 57, 48, 49, 50, 51, 52, 53, 54, 55, 56, 57, 48, 49, 50, 51, 52, 53, 54, 55, 56, 57, 48, 49, 50, 51, 52, 53, 54, 55, 56, 57, 48, 49, 50, 51, 52, 53, 54, 55, 56, 57, 48, 49, 50, 51, 52, 53, 54, 55, 56, 57, 48, 49, 50, 51, 52, 53, 54, 55, 56, 57, 48, 49, 50, 51, 52, 53, 54, 55, 56, 57]
def xdg10 : List Int32 := [48, 48, 48, 48, 48, 48, 48, 48, 48, 48, 49, 49, 49, 49, 49, 49, 49, 49, 49, 49, 50, 50, 50, 50, 50, 50, 50, 50, 50, 50, 51, 51, 51, 51, 51, 51, 51, 51, 51, 51, 52, 52, 52, 52, 52, 52, 52, 52, 52, 52, 53, 53, 53, 53, 53, 53, 53, 53, 53, 53, 54, 54, 54, 54, 54, 54, 54, 54, 54, 54, 55, 55, 55, 55, 55, 55, 55, 55, 55, 55, 56, 56, 56, 56, 56, 56, 56, 56, 56, 56, 57, 57, 57, 57, 57, 57, 57, 57, 57, 57]
/-- the term of a constant -/
def xtm (k o : Nat) : Term := match k with
  | 41 => .arg 0
  | 42 => .static "ProjectPlanner$TokenKind" (xget0 "" xnm42 o) "LProjectPlanner$TokenKind;"
  | 43 => .static "ProjectPlanner$CommandKind" (xget0 "" xnm43 o) "LProjectPlanner$CommandKind;"
  | 46 => .string (xget0 ("", 0) xstm o).1 (xget0 ("", 0) xstm o).2
  | 47 => .field (.string (xget0 ("", 0) xstm o).1 (xget0 ("", 0) xstm o).2) "java/lang/String" "value" "[B"
  | 48 => .static "java/lang/Integer" "DigitOnes" "[B"
  | 52 => .static "java/lang/Integer" "DigitTens" "[B"
  | _ => .arg 9
def xfmt : Term := .static "jdk/internal/util/Preconditions" "SIOOBE_FORMATTER" "Ljava/util/function/BiFunction;"
def xad0 (args : Array Value) (s : State) : xA := fun k o => match Nat.beq k 60 with
  | true => (match xfmt.eval args s none [] s with
    | some (.ref a) => a + 1
    | _ => 0)
  | false => (match (xtm k o).eval args s none [] s with
    | some (.ref a) => a
    | _ => 0)
/-- how many constants of a kind -/
def xc0 (k : Nat) : Nat := match k with
  | 41 => 1
  | 42 => 5
  | 43 => 1
  | 46 => 13
  | 47 => 13
  | 48 => 1
  | 52 => 1
  | _ => 0
/-- the store at the start -/
def xM0 (L : Nat) (xs : Nat → Int32) : xM := fun k o f => match k with
  | 101 => .ref (xc0 o)
  | 151 => .ref L
  | 157 => .ref (xnth xlen46 o)
  | 246 => .ref 1
  | 41 => .int (xs f)
  | 46 => .int 0
  | 47 => .int (xget0 0 (xget0 [] xbyt o) f)
  | 48 => .int (xget0 0 xdg1 f)
  | 52 => .int (xget0 0 xdg10 f)
  | _ => .retAddr 0
def xNw : List Cond := flatC (Jvm.Cond.and given_1 narrow_1)
theorem xNw_sub {p n : Nat} {L : List Cond} (h : L = (xNw.drop p).take n) : ∀ w ∈ L, w ∈ xNw := fun w hw => List.mem_of_mem_drop (List.mem_of_mem_take (h ▸ hw))
/-- what is written of each constant -/
def xel (t : Term) (n : Nat) (f : Nat → Term) : List Cond := (List.range n).map fun j => Cond.eq (.elem t (.int (Int32.ofNat j))) (f j)
def xw42 (o : Nat) : List Cond := [.exactly (xtm 42 o) "ProjectPlanner$TokenKind"]
def xw43 (o : Nat) : List Cond := [.exactly (xtm 43 o) "ProjectPlanner$CommandKind"]
def xw46 (o : Nat) : List Cond := [.exactly (xtm 46 o) "java/lang/String", .eq (.field (xtm 46 o) "java/lang/String" "coder" "B") (.int 0), .arrayOf (xtm 47 o) .byte, .eq (.length (xtm 47 o)) (.int (Int32.ofNat (xnth xlen46 o)))] ++ xel (xtm 47 o) (xnth xlen46 o) (fun j => .int (xget0 0 (xget0 [] xbyt o) j))
def xwar (t : Term) (ty : FieldType) (n : Nat) (f : Nat → Term) : List Cond := [.arrayOf t ty, .eq (.length t) (.int (Int32.ofNat n))] ++ xel t n f
theorem xn42_0 : xw42 0 = (xNw.drop 17).take 1 := by decide +kernel
theorem xn42_1 : xw42 1 = (xNw.drop 26).take 1 := by decide +kernel
theorem xn42_2 : xw42 2 = (xNw.drop 32).take 1 := by decide +kernel
theorem xn42_3 : xw42 3 = (xNw.drop 21).take 1 := by decide +kernel
theorem xn42_4 : xw42 4 = (xNw.drop 4).take 1 := by decide +kernel
theorem xn43_0 : xw43 0 = (xNw.drop 6).take 1 := by decide +kernel
theorem xn46_0 : xw46 0 = (xNw.drop 467).take 11 := by decide +kernel
theorem xn46_1 : xw46 1 = (xNw.drop 478).take 12 := by decide +kernel
theorem xn46_2 : xw46 2 = (xNw.drop 498).take 9 := by decide +kernel
theorem xn46_3 : xw46 3 = (xNw.drop 490).take 8 := by decide +kernel
theorem xn46_4 : xw46 4 = (xNw.drop 281).take 4 := by decide +kernel
theorem xn46_5 : xw46 5 = (xNw.drop 285).take 47 := by decide +kernel
theorem xn46_6 : xw46 6 = (xNw.drop 332).take 72 := by decide +kernel
theorem xn46_7 : xw46 7 = (xNw.drop 404).take 63 := by decide +kernel
theorem xn46_8 : xw46 8 = (xNw.drop 725).take 12 := by decide +kernel
theorem xn46_9 : xw46 9 = (xNw.drop 737).take 14 := by decide +kernel
theorem xn46_10 : xw46 10 = (xNw.drop 751).take 10 := by decide +kernel
theorem xn46_11 : xw46 11 = (xNw.drop 761).take 12 := by decide +kernel
theorem xn46_12 : xw46 12 = (xNw.drop 773).take 6 := by decide +kernel
theorem xn48 : xwar (xtm 48 0) .byte 100 (fun j => .int (xget0 0 xdg1 j)) = (xNw.drop 42).take 102 := by decide +kernel
theorem xn52 : xwar (xtm 52 0) .byte 100 (fun j => .int (xget0 0 xdg10 j)) = (xNw.drop 145).take 102 := by decide +kernel
theorem xn42 {o : Nat} (h : o < 5) : ∀ w ∈ xw42 o, w ∈ xNw := by
  have : o = 0 ∨ o = 1 ∨ o = 2 ∨ o = 3 ∨ o = 4 := by omega
  rcases this with rfl | rfl | rfl | rfl | rfl
  · exact xNw_sub xn42_0
  · exact xNw_sub xn42_1
  · exact xNw_sub xn42_2
  · exact xNw_sub xn42_3
  · exact xNw_sub xn42_4
theorem xn43 {o : Nat} (h : o < 1) : ∀ w ∈ xw43 o, w ∈ xNw := by
  have : o = 0 := by omega
  rcases this with rfl
  · exact xNw_sub xn43_0
theorem xn46 {o : Nat} (h : o < 13) : ∀ w ∈ xw46 o, w ∈ xNw := by
  have : o = 0 ∨ o = 1 ∨ o = 2 ∨ o = 3 ∨ o = 4 ∨ o = 5 ∨ o = 6 ∨ o = 7 ∨ o = 8 ∨ o = 9 ∨ o = 10 ∨ o = 11 ∨ o = 12 := by omega
  rcases this with rfl | rfl | rfl | rfl | rfl | rfl | rfl | rfl | rfl | rfl | rfl | rfl | rfl
  · exact xNw_sub xn46_0
  · exact xNw_sub xn46_1
  · exact xNw_sub xn46_2
  · exact xNw_sub xn46_3
  · exact xNw_sub xn46_4
  · exact xNw_sub xn46_5
  · exact xNw_sub xn46_6
  · exact xNw_sub xn46_7
  · exact xNw_sub xn46_8
  · exact xNw_sub xn46_9
  · exact xNw_sub xn46_10
  · exact xNw_sub xn46_11
  · exact xNw_sub xn46_12
def xdis : List (Nat × Nat) := [(0, 1), (0, 2), (0, 3), (1, 2), (3, 1), (3, 2), (4, 0), (4, 1), (4, 2), (4, 3)]
theorem xNw_map {α : Type} {f : α → Cond} (ps : List Nat) (L : List α) (h : ps.map (fun i => xNw[i]?) = L.map (fun q => some (f q))) : ∀ q ∈ L, f q ∈ xNw := fun q hq => by
  have h1 : some (f q) ∈ ps.map (fun i => xNw[i]?) := by rw [h]; exact List.mem_map.mpr ⟨q, hq, rfl⟩
  obtain ⟨i, -, hi⟩ := List.mem_map.mp h1
  exact List.mem_of_getElem? hi
theorem xdis_ok : ∀ q ∈ xdis, Cond.not (.eq (xtm 42 q.1) (xtm 42 q.2)) ∈ xNw := xNw_map [30, 36, 25, 38, 31, 37, 19, 28, 34, 23] _ (by decide +kernel)
theorem xdis_all : (List.range 5).all (fun i => (List.range 5).all (fun j => Nat.beq i j || (xdis.contains (i, j) || xdis.contains (j, i)))) = true := by decide +kernel
theorem xnc_0 : xNw[12]? = some (Cond.eq (.static "java/lang/String" "COMPACT_STRINGS" "Z") (.int 1)) := by decide +kernel
theorem xnc_1 : xNw[13]? = some (Cond.isRef xfmt) := by decide +kernel
theorem xnc_2 : xNw[39]? = some (Cond.isRef (.static Bundle.tN "UNASSIGNED_STACK" Bundle.steD)) := by decide +kernel
theorem xnc_3 : xNw[40]? = some (Cond.isRef (.static Bundle.tN "SUPPRESSED_SENTINEL" Bundle.listD)) := by decide +kernel
theorem xnc_tx : ∀ q ∈ xths, Cond.exactly (.string "ProjectPlanner" q.1) "java/lang/String" ∈ xNw := xNw_map [681, 637, 507, 809, 858, 886, 935, 960, 984, 1032, 558, 585, 616, 779, 538] _ (by decide +kernel)
def xsd : List ((Nat × Nat) × Nat) := [((11, 52), 4), ((11, 62), 5), ((11, 70), 6), ((11, 72), 7), ((12, 32), 1), ((12, 50), 0), ((12, 93), 3), ((12, 120), 2), ((13, 36), 8), ((13, 51), 9), ((13, 57), 10), ((13, 60), 11), ((13, 63), 12)]
def xse : List ((Nat × Nat) × Nat) := []
def xsf : List ((Nat × Nat) × Nat) := []
theorem xse_ok : ∀ q ∈ xse, Cond.eq (xtm 46 q.2) (.string (xcn q.1.1) q.1.2) ∈ xNw := xNw_map [] _ (by decide +kernel)
theorem xsf_ok : ∀ q ∈ xsf, Cond.eq (.string (xcn q.1.1) q.1.2) (xtm 46 q.2) ∈ xNw := xNw_map [] _ (by decide +kernel)
theorem xlds_spl : xlds.all (fun q => (xsd.contains q && (xcn q.1.1 == (xget0 ("", 0) xstm q.2).1 && Nat.beq q.1.2 (xget0 ("", 0) xstm q.2).2)) || (xse.contains q || xsf.contains q)) = true := by decide +kernel
theorem xTb_map {α : Type} {f : α → Cond} (ps : List Nat) (L : List α) (h : ps.map (fun i => xTb[i]?) = L.map (fun q => some (f q))) : ∀ q ∈ L, f q ∈ xTb := fun q hq => by
  have h1 : some (f q) ∈ ps.map (fun i => xTb[i]?) := by rw [h]; exact List.mem_map.mpr ⟨q, hq, rfl⟩
  obtain ⟨i, -, hi⟩ := List.mem_map.mp h1
  exact List.mem_of_getElem? hi
theorem xts_1 : ∀ q ∈ xlds, Cond.stringRef (xcn q.1.1) q.1.2 (xget0 "" xtxt q.2) ∈ xTb := xTb_map [291, 292, 349, 350, 419, 390, 432, 443, 919, 1087, 1090, 1092, 1094] _ (by decide +kernel)
theorem xts_2 : ∀ q ∈ xths, Cond.stringRef "ProjectPlanner" q.1 q.2 ∈ xTb := xTb_map [903, 884, 532, 1181, 1191, 1219, 1239, 1250, 1256, 1266, 684, 763, 862, 1164, 572] _ (by decide +kernel)
theorem xts_3 : ∀ q ∈ xstt, Cond.laysStatic q.1 q.2.1 q.2.2.1 ∈ xTb := xTb_map [173, 224, 306, 322, 373, 375, 384, 386, 1063, 1065] _ (by decide +kernel)
theorem xts_4 : ∀ q ∈ xstt, Cond.initialized q.1 ∈ xTb := xTb_map [29, 32, 35, 37, 29, 29, 29, 29, 47, 47] _ (by decide +kernel)
theorem xts_5 : ∀ q ∈ xgsN, Cond.fieldLinkNest (xcn q.1.1) q.1.2 (xget0 xst0 xstt q.2).1 (xget0 xst0 xstt q.2).2.1 (xget0 xst0 xstt q.2).2.2.1 "ProjectPlanner" ∈ xTb := xTb_map [] _ (by decide +kernel)
theorem xts_6 : ∀ q ∈ ["ProjectPlanner$Plan", "ProjectPlanner$Command"], Cond.arrayOver (.object q) ∈ xTb := xTb_map [135, 217] _ (by decide +kernel)
theorem xts_7 : ∀ q ∈ [("[B", "java/lang/Cloneable")], Cond.castable q.1 q.2 ∈ xTb := xTb_map [979] _ (by decide +kernel)
theorem xts_n2 : ∀ q ∈ xcal2, Cond.methodLinkNest (xcn q.1.1) q.1.2 (xY q.2.2.1) "ProjectPlanner" ∈ xTb := xTb_map [454, 365, 376, 399, 621] _ (by decide +kernel)
theorem xts_n3 : ∀ q ∈ xcal3, Cond.methodLinkNest (xcn q.1.1) q.1.2 (xY q.2.2.1) "ProjectPlanner" ∈ xTb := xTb_map [136, 156, 219, 251, 65, 150, 245] _ (by decide +kernel)
theorem xts_8 : ∀ q ∈ [(0 : Nat), 1, 2, 3], Cond.castable (xEn q) (xEn q) ∈ xTb := xTb_map [896, 493, 677, 677] _ (by decide +kernel)
theorem xts_9 : ∀ q ∈ [("UNASSIGNED_STACK", Bundle.steD), ("SUPPRESSED_SENTINEL", Bundle.listD)], Cond.laysStatic Bundle.tN q.1 q.2 ∈ xTb := xTb_map [518, 520] _ (by decide +kernel)
theorem xts_10 : ∀ q ∈ [Bundle.tN], Cond.initialized q ∈ xTb := xTb_map [48] _ (by decide +kernel)
theorem xts_11 : ([0, 1, 2, 3] : List Nat).all (fun E => (xthw E).all (fun w => !xdc w || decide (w ∈ xTb))) = true := by decide +kernel
theorem xtq_0 : (xTb[956]? = some (Cond.privateMethod ⟨"java/lang/AbstractStringBuilder", "ensureCapacityInternal", "(I)V"⟩) ∧ xTb[957]? = some (Cond.instanceMethod ⟨"java/lang/AbstractStringBuilder", "ensureCapacityInternal", "(I)V"⟩)) ∧ xTb[1288]? = some (Cond.sameMethod "java/lang/AbstractStringBuilder" "java/lang/AbstractStringBuilder" "ensureCapacityInternal" "(I)V") := by decide +kernel
theorem xtq_1 : (xTb[960]? = some (Cond.privateMethod ⟨"java/lang/AbstractStringBuilder", "newCapacity", "(I)I"⟩) ∧ xTb[961]? = some (Cond.instanceMethod ⟨"java/lang/AbstractStringBuilder", "newCapacity", "(I)I"⟩)) ∧ xTb[1289]? = some (Cond.sameMethod "java/lang/AbstractStringBuilder" "java/lang/AbstractStringBuilder" "newCapacity" "(I)I") := by decide +kernel
theorem xtq_2 : (xTb[1005]? = some (Cond.privateMethod ⟨"java/lang/AbstractStringBuilder", "putStringAt", "(ILjava/lang/String;)V"⟩) ∧ xTb[1006]? = some (Cond.instanceMethod ⟨"java/lang/AbstractStringBuilder", "putStringAt", "(ILjava/lang/String;)V"⟩)) ∧ xTb[1290]? = some (Cond.sameMethod "java/lang/AbstractStringBuilder" "java/lang/AbstractStringBuilder" "putStringAt" "(ILjava/lang/String;)V") := by decide +kernel
theorem xtq_3 : (xTb[1009]? = some (Cond.privateMethod ⟨"java/lang/AbstractStringBuilder", "inflateIfNeededFor", "(Ljava/lang/String;)V"⟩) ∧ xTb[1010]? = some (Cond.instanceMethod ⟨"java/lang/AbstractStringBuilder", "inflateIfNeededFor", "(Ljava/lang/String;)V"⟩)) ∧ xTb[1291]? = some (Cond.sameMethod "java/lang/AbstractStringBuilder" "java/lang/AbstractStringBuilder" "inflateIfNeededFor" "(Ljava/lang/String;)V") := by decide +kernel
