/-! WHAT A START GIVES: the words, the constants (wip/whole/gen28.py writes this). -/
def xnm42 : List String := ["WORD", "NUMBER", "SEMICOLON", "INVALID", "END"]
def xnm43 : List String := ["DURATION", "DEMAND", "RELEASE", "LINK", "UNLINK", "CAPACITY", "RULE", "DROP"]
def xstm : List (String × Nat) := [("ProjectPlanner$CommandKind", 63), ("ProjectPlanner$CommandKind", 69), ("ProjectPlanner$CommandKind", 72), ("ProjectPlanner$CommandKind", 75), ("ProjectPlanner$CommandKind", 78), ("ProjectPlanner$CommandKind", 81), ("ProjectPlanner$CommandKind", 84), ("ProjectPlanner$CommandKind", 87), ("ProjectPlanner$Setup", 50), ("ProjectPlanner$Setup", 32), ("ProjectPlanner$Setup", 120), ("ProjectPlanner$Setup", 93), ("ProjectPlanner", 52), ("ProjectPlanner", 62), ("ProjectPlanner", 70), ("ProjectPlanner", 72), ("ProjectPlannerModel", 78), ("java/util/Arrays", 337)]
def xckv : List (List Int32) := [[0, 1, 0, 1], [1, 1, 1, 1], [2, 1, 0, 1], [3, 2, 0, 0], [4, 2, 0, 0], [5, 0, 1, 1], [6, 0, 0, 1], [7, 1, 0, 0]]
def xlen46 : List Nat := [8, 6, 7, 4, 6, 8, 4, 4, 7, 8, 5, 4, 0, 43, 68, 59, 170, 3]
def xbyt : List (List Int32) := [[100, 117, 114, 97, 116, 105, 111, 110], [100, 101, 109, 97, 110, 100], [114, 101, 108, 101, 97, 115, 101], [108, 105, 110, 107], [117, 110, 108, 105, 110, 107], [99, 97, 112, 97, 99, 105, 116, 121], [114, 117, 108, 101], [100, 114, 111, 112], [112, 114, 111, 106, 101, 99, 116], [114, 101, 115, 111, 117, 114, 99, 101], [97, 102, 116, 101, 114], [116, 97, 115, 107], [], [112, 114, 111, 106, 101, 99, 116, 32, 49, 59, 114, 101, 115, 111, 117, 114, 99, 101, 32, 99, 114, 101, 119, 32, 51, 59, 114, 101, 115, 111, 117, 114, 99, 101, 32, 99, 114, 97, 110, 101, 32, 49, 59], [116, 97, 115, 107, 32, 100, 105, 103, 32, 51, 32, 50, 32, 48, 59, 116, 97, 115, 107, 32, 119, 97, 108, 108, 32, 53, 32, 50, 32, 49, 32, 97, 102, 116, 101, 114, 32, 100, 105, 103, 59, 116, 97, 115, 107, 32, 114, 111, 111, 102, 32, 50, 32, 49, 32, 49, 32, 97, 102, 116, 101, 114, 32, 119, 97, 108, 108, 59], [116, 97, 115, 107, 32, 112, 105, 112, 101, 32, 52, 32, 49, 32, 48, 32, 97, 102, 116, 101, 114, 32, 100, 105, 103, 59, 116, 97, 115, 107, 32, 112, 97, 105, 110, 116, 32, 51, 32, 49, 32, 48, 32, 97, 102, 116, 101, 114, 32, 119, 97, 108, 108, 32, 112, 105, 112, 101, 59], [112, 114, 111, 106, 101, 99, 116, 32, 49, 59, 114, 101, 115, 111, 117, 114, 99, 101, 32, 99, 114, 101, 119, 32, 51, 59, 114, 101, 115, 111, 117, 114, 99, 101, 32, 99, 114, 97, 110, 101, 32, 49, 59, 116, 97, 115, 107, 32, 100, 105, 103, 32, 51, 32, 50, 32, 48, 59, 116, 97, 115, 107, 32, 119, 97, 108, 108, 32, 53, 32, 50, 32, 49, 32, 97, 102, 116, 101, 114, 32, 100, 105, 103, 59, 116, 97, 115, 107, 32, 114, 111, 111, 102, 32, 50, 32, 49, 32, 49, 32, 97, 102, 116, 101, 114, 32, 119, 97, 108, 108, 59, 116, 97, 115, 107, 32, 112, 105, 112, 101, 32, 52, 32, 49, 32, 48, 32, 97, 102, 116, 101, 114, 32, 100, 105, 103, 59, 116, 97, 115, 107, 32, 112, 97, 105, 110, 116, 32, 51, 32, 49, 32, 48, 32, 97, 102, 116, 101, 114, 32, 119, 97, 108, 108, 32, 112, 105, 112, 101, 59], [32, 62, 32]]
def xswv : List Int32 := [1, 2, 3, 4, 5, 6, 7, 8]
def xdg1 : List Int32 := [48, 49, 50, 51, 52, 53, 54, 55, 56, 57, 48, 49, 50, 51, 52, 53, 54, 55, 56, 57, 48, 49, 50, 51, 52, 53, 54, 55, 56, 57, 48, 49, 50, 51, 52, 53, 54, 55, 56, 57, 48, 49, 50, 51, 52, 53, 54, 55, 56, 57, 48, 49, 50, 51, 52, 53, 54, 55, 56, 57, 48, 49, 50, 51, 52, 53, 54, 55, 56, 57, 48, 49, 50, 51, 52, 53, 54, 55, 56, 57, 48, 49, 50, 51, 52, 53, 54, 55, 56, 57, 48, 49, 50, 51, 52, 53, 54, 55, 56, 57]
def xdg10 : List Int32 := [48, 48, 48, 48, 48, 48, 48, 48, 48, 48, 49, 49, 49, 49, 49, 49, 49, 49, 49, 49, 50, 50, 50, 50, 50, 50, 50, 50, 50, 50, 51, 51, 51, 51, 51, 51, 51, 51, 51, 51, 52, 52, 52, 52, 52, 52, 52, 52, 52, 52, 53, 53, 53, 53, 53, 53, 53, 53, 53, 53, 54, 54, 54, 54, 54, 54, 54, 54, 54, 54, 55, 55, 55, 55, 55, 55, 55, 55, 55, 55, 56, 56, 56, 56, 56, 56, 56, 56, 56, 56, 57, 57, 57, 57, 57, 57, 57, 57, 57, 57]
/-- the term of a constant -/
def xtm (k o : Nat) : Term := match k with
  | 41 => .arg 0
  | 42 => .static "ProjectPlanner$TokenKind" (xget0 "" xnm42 o) "LProjectPlanner$TokenKind;"
  | 43 => .static "ProjectPlanner$CommandKind" (xget0 "" xnm43 o) "LProjectPlanner$CommandKind;"
  | 44 => .static "ProjectPlanner" "COMMAND_KINDS" "[LProjectPlanner$CommandKind;"
  | 45 => .static "ProjectPlanner$1" "$SwitchMap$ProjectPlanner$CommandKind" "[I"
  | 46 => .string (xget0 ("", 0) xstm o).1 (xget0 ("", 0) xstm o).2
  | 47 => .field (.string (xget0 ("", 0) xstm o).1 (xget0 ("", 0) xstm o).2) "java/lang/String" "value" "[B"
  | 48 => .static "java/lang/Integer" "DigitOnes" "[B"
  | 52 => .static "java/lang/Integer" "DigitTens" "[B"
  | _ => .arg 9
def xfmt : Term := .static "jdk/internal/util/Preconditions" "SIOOBE_FORMATTER" "Ljava/util/function/BiFunction;"
def xad0 (args : Array Value) (s : State) : xA := fun k o => match Nat.beq k 60 with
  | true => (match xfmt.eval args s none [] s with
    | some (.ref a) => a + 1
    | _ => 0)
  | false => (match (xtm k o).eval args s none [] s with
    | some (.ref a) => a
    | _ => 0)
/-- how many constants of a kind -/
def xc0 (k : Nat) : Nat := match k with
  | 41 => 1
  | 42 => 5
  | 43 => 8
  | 44 => 1
  | 45 => 1
  | 46 => 18
  | 47 => 18
  | 48 => 1
  | 52 => 1
  | _ => 0
/-- the store at the start -/
def xM0 (L : Nat) (xs : Nat → Int32) : xM := fun k o f => match k with
  | 101 => .ref (xc0 o)
  | 151 => .ref L
  | 157 => .ref (xnth xlen46 o)
  | 243 => .ref 1
  | 244 => .ref 1
  | 246 => .ref 1
  | 41 => .int (xs f)
  | 43 => .int (xget0 0 (xget0 [] xckv o) (match f with
    | 0 => 0
    | 2 => 1
    | 3 => 2
    | _ => 3))
  | 45 => .int (xget0 0 xswv f)
  | 46 => .int 0
  | 47 => .int (xget0 0 (xget0 [] xbyt o) f)
  | 48 => .int (xget0 0 xdg1 f)
  | 52 => .int (xget0 0 xdg10 f)
  | _ => .retAddr 0
def xNw : List Cond := flatC (Jvm.Cond.and given_1 narrow_1)
theorem xNw_sub {p n : Nat} {L : List Cond} (h : L = (xNw.drop p).take n) : ∀ w ∈ L, w ∈ xNw := fun w hw => List.mem_of_mem_drop (List.mem_of_mem_take (h ▸ hw))
/-- what is written of each constant -/
def xel (t : Term) (n : Nat) (f : Nat → Term) : List Cond := (List.range n).map fun j => Cond.eq (.elem t (.int (Int32.ofNat j))) (f j)
def xw42 (o : Nat) : List Cond := [.exactly (xtm 42 o) "ProjectPlanner$TokenKind"]
def xw43 (o : Nat) : List Cond := [.exactly (xtm 43 o) "ProjectPlanner$CommandKind", .eq (.field (xtm 43 o) "java/lang/Enum" "ordinal" "I") (.int (xget0 0 (xget0 [] xckv o) 0)), .eq (.field (xtm 43 o) "ProjectPlanner$CommandKind" "word" "Ljava/lang/String;") (xtm 46 o), .eq (.field (xtm 43 o) "ProjectPlanner$CommandKind" "taskNames" "I") (.int (xget0 0 (xget0 [] xckv o) 1)), .eq (.field (xtm 43 o) "ProjectPlanner$CommandKind" "resourceNames" "I") (.int (xget0 0 (xget0 [] xckv o) 2)), .eq (.field (xtm 43 o) "ProjectPlanner$CommandKind" "hasNumber" "Z") (.int (xget0 0 (xget0 [] xckv o) 3))]
def xw46 (o : Nat) : List Cond := [.exactly (xtm 46 o) "java/lang/String", .eq (.field (xtm 46 o) "java/lang/String" "coder" "B") (.int 0), .arrayOf (xtm 47 o) .byte, .eq (.length (xtm 47 o)) (.int (Int32.ofNat (xnth xlen46 o)))] ++ xel (xtm 47 o) (xnth xlen46 o) (fun j => .int (xget0 0 (xget0 [] xbyt o) j))
def xwar (t : Term) (ty : FieldType) (n : Nat) (f : Nat → Term) : List Cond := [.arrayOf t ty, .eq (.length t) (.int (Int32.ofNat n))] ++ xel t n f
theorem xn42_0 : xw42 0 = (xNw.drop 18).take 1 := by decide +kernel
theorem xn42_1 : xw42 1 = (xNw.drop 27).take 1 := by decide +kernel
theorem xn42_2 : xw42 2 = (xNw.drop 33).take 1 := by decide +kernel
theorem xn42_3 : xw42 3 = (xNw.drop 22).take 1 := by decide +kernel
theorem xn42_4 : xw42 4 = (xNw.drop 4).take 1 := by decide +kernel
theorem xn43_0 : xw43 0 = (xNw.drop 272).take 6 := by decide +kernel
theorem xn43_1 : xw43 1 = (xNw.drop 284).take 6 := by decide +kernel
theorem xn43_2 : xw43 2 = (xNw.drop 297).take 6 := by decide +kernel
theorem xn43_3 : xw43 3 = (xNw.drop 311).take 6 := by decide +kernel
theorem xn43_4 : xw43 4 = (xNw.drop 326).take 6 := by decide +kernel
theorem xn43_5 : xw43 5 = (xNw.drop 342).take 6 := by decide +kernel
theorem xn43_6 : xw43 6 = (xNw.drop 6).take 6 := by decide +kernel
theorem xn43_7 : xw43 7 = (xNw.drop 359).take 6 := by decide +kernel
theorem xn46_0 : xw46 0 = (xNw.drop 1797).take 12 := by decide +kernel
theorem xn46_1 : xw46 1 = (xNw.drop 1810).take 10 := by decide +kernel
theorem xn46_2 : xw46 2 = (xNw.drop 1821).take 11 := by decide +kernel
theorem xn46_3 : xw46 3 = (xNw.drop 1833).take 8 := by decide +kernel
theorem xn46_4 : xw46 4 = (xNw.drop 1842).take 10 := by decide +kernel
theorem xn46_5 : xw46 5 = (xNw.drop 1853).take 12 := by decide +kernel
theorem xn46_6 : xw46 6 = (xNw.drop 1788).take 8 := by decide +kernel
theorem xn46_7 : xw46 7 = (xNw.drop 1866).take 8 := by decide +kernel
theorem xn46_8 : xw46 8 = (xNw.drop 667).take 11 := by decide +kernel
theorem xn46_9 : xw46 9 = (xNw.drop 678).take 12 := by decide +kernel
theorem xn46_10 : xw46 10 = (xNw.drop 698).take 9 := by decide +kernel
theorem xn46_11 : xw46 11 = (xNw.drop 690).take 8 := by decide +kernel
theorem xn46_12 : xw46 12 = (xNw.drop 481).take 4 := by decide +kernel
theorem xn46_13 : xw46 13 = (xNw.drop 485).take 47 := by decide +kernel
theorem xn46_14 : xw46 14 = (xNw.drop 532).take 72 := by decide +kernel
theorem xn46_15 : xw46 15 = (xNw.drop 604).take 63 := by decide +kernel
theorem xn46_16 : xw46 16 = (xNw.drop 1491).take 174 := by decide +kernel
theorem xn46_17 : xw46 17 = (xNw.drop 707).take 7 := by decide +kernel
theorem xn44 : [Cond.arrayOf (xtm 44 0) (.object "ProjectPlanner$CommandKind"), .eq (.length (xtm 44 0)) (.int 8)] = (xNw.drop 250).take 2 := by decide +kernel
theorem xn44e : xel (xtm 44 0) 8 (fun j => xtm 43 j) = (xNw.drop 253).take 8 := by decide +kernel
theorem xn45 : xwar (xtm 45 0) .int 8 (fun j => .int (xget0 0 xswv j)) = (xNw.drop 262).take 10 := by decide +kernel
theorem xn48 : xwar (xtm 48 0) .byte 100 (fun j => .int (xget0 0 xdg1 j)) = (xNw.drop 41).take 102 := by decide +kernel
theorem xn52 : xwar (xtm 52 0) .byte 100 (fun j => .int (xget0 0 xdg10 j)) = (xNw.drop 144).take 102 := by decide +kernel
theorem xn42 {o : Nat} (h : o < 5) : ∀ w ∈ xw42 o, w ∈ xNw := by
  have : o = 0 ∨ o = 1 ∨ o = 2 ∨ o = 3 ∨ o = 4 := by omega
  rcases this with rfl | rfl | rfl | rfl | rfl
  · exact xNw_sub xn42_0
  · exact xNw_sub xn42_1
  · exact xNw_sub xn42_2
  · exact xNw_sub xn42_3
  · exact xNw_sub xn42_4
theorem xn43 {o : Nat} (h : o < 8) : ∀ w ∈ xw43 o, w ∈ xNw := by
  have : o = 0 ∨ o = 1 ∨ o = 2 ∨ o = 3 ∨ o = 4 ∨ o = 5 ∨ o = 6 ∨ o = 7 := by omega
  rcases this with rfl | rfl | rfl | rfl | rfl | rfl | rfl | rfl
  · exact xNw_sub xn43_0
  · exact xNw_sub xn43_1
  · exact xNw_sub xn43_2
  · exact xNw_sub xn43_3
  · exact xNw_sub xn43_4
  · exact xNw_sub xn43_5
  · exact xNw_sub xn43_6
  · exact xNw_sub xn43_7
theorem xn46 {o : Nat} (h : o < 18) : ∀ w ∈ xw46 o, w ∈ xNw := by
  have : o = 0 ∨ o = 1 ∨ o = 2 ∨ o = 3 ∨ o = 4 ∨ o = 5 ∨ o = 6 ∨ o = 7 ∨ o = 8 ∨ o = 9 ∨ o = 10 ∨ o = 11 ∨ o = 12 ∨ o = 13 ∨ o = 14 ∨ o = 15 ∨ o = 16 ∨ o = 17 := by omega
  rcases this with rfl | rfl | rfl | rfl | rfl | rfl | rfl | rfl | rfl | rfl | rfl | rfl | rfl | rfl | rfl | rfl | rfl | rfl
  · exact xNw_sub xn46_0
  · exact xNw_sub xn46_1
  · exact xNw_sub xn46_2
  · exact xNw_sub xn46_3
  · exact xNw_sub xn46_4
  · exact xNw_sub xn46_5
  · exact xNw_sub xn46_6
  · exact xNw_sub xn46_7
  · exact xNw_sub xn46_8
  · exact xNw_sub xn46_9
  · exact xNw_sub xn46_10
  · exact xNw_sub xn46_11
  · exact xNw_sub xn46_12
  · exact xNw_sub xn46_13
  · exact xNw_sub xn46_14
  · exact xNw_sub xn46_15
  · exact xNw_sub xn46_16
  · exact xNw_sub xn46_17
def xdis : List (Nat × Nat) := [(0, 1), (0, 2), (0, 3), (1, 2), (3, 1), (3, 2), (4, 0), (4, 1), (4, 2), (4, 3)]
theorem xNw_map {α : Type} {f : α → Cond} (ps : List Nat) (L : List α) (h : ps.map (fun i => xNw[i]?) = L.map (fun q => some (f q))) : ∀ q ∈ L, f q ∈ xNw := fun q hq => by
  have h1 : some (f q) ∈ ps.map (fun i => xNw[i]?) := by rw [h]; exact List.mem_map.mpr ⟨q, hq, rfl⟩
  obtain ⟨i, -, hi⟩ := List.mem_map.mp h1
  exact List.mem_of_getElem? hi
theorem xdis_ok : ∀ q ∈ xdis, Cond.not (.eq (xtm 42 q.1) (xtm 42 q.2)) ∈ xNw := xNw_map [31, 37, 26, 39, 32, 38, 20, 29, 35, 24] _ (by decide +kernel)
theorem xdis_all : (List.range 5).all (fun i => (List.range 5).all (fun j => Nat.beq i j || (xdis.contains (i, j) || xdis.contains (j, i)))) = true := by decide +kernel
theorem xnc_0 : xNw[13]? = some (Cond.eq (.static "java/lang/String" "COMPACT_STRINGS" "Z") (.int 1)) := by decide +kernel
theorem xnc_1 : xNw[14]? = some (Cond.isRef xfmt) := by decide +kernel
theorem xnc_2 : xNw[246]? = some (Cond.isRef (.static Bundle.tN "UNASSIGNED_STACK" Bundle.steD)) := by decide +kernel
theorem xnc_3 : xNw[247]? = some (Cond.isRef (.static Bundle.tN "SUPPRESSED_SENTINEL" Bundle.listD)) := by decide +kernel
theorem xnc_ca : ∀ q ∈ [((0 : Nat), (1 : Nat)), ((0 : Nat), (2 : Nat)), ((0 : Nat), (3 : Nat)), ((1 : Nat), (0 : Nat)), ((1 : Nat), (2 : Nat)), ((1 : Nat), (3 : Nat)), ((2 : Nat), (0 : Nat)), ((2 : Nat), (1 : Nat)), ((2 : Nat), (3 : Nat)), ((3 : Nat), (0 : Nat)), ((3 : Nat), (1 : Nat)), ((3 : Nat), (2 : Nat))], Cond.not (.castable (xEn q.1) (xEn q.2)) ∈ xNw := xNw_map [406, 423, 440, 389, 424, 441, 390, 407, 442, 391, 408, 425] _ (by decide +kernel)
theorem xnc_tx : ∀ q ∈ xths, Cond.exactly (.string "ProjectPlanner" q.1) "java/lang/String" ∈ xNw := xNw_map [714, 758, 802, 860, 891, 916, 976, 1081, 1130, 1158, 1207, 1232, 1256, 1304, 1339, 1366, 1423, 1455, 833, 945, 1396, 1010, 1051, 1031] _ (by decide +kernel)
def xsd : List ((Nat × Nat) × Nat) := [((11, 52), 12), ((11, 62), 13), ((11, 70), 14), ((11, 72), 15), ((12, 32), 9), ((12, 50), 8), ((12, 93), 11), ((12, 120), 10), ((13, 78), 16), ((21, 337), 17)]
def xse : List ((Nat × Nat) × Nat) := [((13, 198), 10), ((13, 207), 8), ((13, 209), 9), ((13, 214), 11)]
def xsf : List ((Nat × Nat) × Nat) := [((13, 219), 0), ((13, 221), 1), ((13, 223), 2), ((13, 225), 3), ((13, 227), 4), ((13, 229), 5), ((13, 231), 6), ((13, 233), 7)]
theorem xse_ok : ∀ q ∈ xse, Cond.eq (xtm 46 q.2) (.string (xcn q.1.1) q.1.2) ∈ xNw := xNw_map [1708, 1676, 1689, 1698] _ (by decide +kernel)
theorem xsf_ok : ∀ q ∈ xsf, Cond.eq (.string (xcn q.1.1) q.1.2) (xtm 46 q.2) ∈ xNw := xNw_map [1809, 1820, 1832, 1841, 1852, 1865, 1796, 1874] _ (by decide +kernel)
theorem xlds_spl : xlds.all (fun q => (xsd.contains q && (xcn q.1.1 == (xget0 ("", 0) xstm q.2).1 && Nat.beq q.1.2 (xget0 ("", 0) xstm q.2).2)) || (xse.contains q || xsf.contains q)) = true := by decide +kernel
theorem xTb_map {α : Type} {f : α → Cond} (ps : List Nat) (L : List α) (h : ps.map (fun i => xTb[i]?) = L.map (fun q => some (f q))) : ∀ q ∈ L, f q ∈ xTb := fun q hq => by
  have h1 : some (f q) ∈ ps.map (fun i => xTb[i]?) := by rw [h]; exact List.mem_map.mpr ⟨q, hq, rfl⟩
  obtain ⟨i, -, hi⟩ := List.mem_map.mp h1
  exact List.mem_of_getElem? hi
theorem xts_1 : ∀ q ∈ xlds, Cond.stringRef (xcn q.1.1) q.1.2 (xget0 "" xtxt q.2) ∈ xTb := xTb_map [379, 380, 437, 438, 507, 478, 520, 531, 1682, 1757, 1703, 1723, 1744, 1876, 1877, 1878, 1879, 1880, 1881, 1882, 1883, 1000] _ (by decide +kernel)
theorem xts_2 : ∀ q ∈ xths, Cond.stringRef "ProjectPlanner" q.1 q.2 ∈ xTb := xTb_map [1095, 1115, 1124, 1158, 1182, 1197, 1275, 1471, 1484, 1502, 1515, 1527, 1533, 1557, 1609, 1640, 1663, 1671, 1150, 1213, 1655, 1373, 1445, 1427] _ (by decide +kernel)
theorem xts_3 : ∀ q ∈ xstt, Cond.laysStatic q.1 q.2.1 q.2.2.1 ∈ xTb := xTb_map [247, 304, 394, 410, 461, 463, 472, 474, 1590, 1618, 905, 907] _ (by decide +kernel)
theorem xts_4 : ∀ q ∈ xstt, Cond.initialized q.1 ∈ xTb := xTb_map [97, 100, 103, 105, 97, 97, 97, 97, 91, 120, 118, 118] _ (by decide +kernel)
theorem xts_5 : ∀ q ∈ xgsN, Cond.fieldLinkNest (xcn q.1.1) q.1.2 (xget0 xst0 xstt q.2).1 (xget0 xst0 xstt q.2).2.1 (xget0 xst0 xstt q.2).2.2.1 "ProjectPlanner" ∈ xTb := xTb_map [1589] _ (by decide +kernel)
theorem xts_6 : ∀ q ∈ ["ProjectPlanner$Plan", "ProjectPlanner$Command"], Cond.arrayOver (.object q) ∈ xTb := xTb_map [209, 297] _ (by decide +kernel)
theorem xts_7 : ∀ q ∈ [("[B", "java/lang/Cloneable")], Cond.castable q.1 q.2 ∈ xTb := xTb_map [850] _ (by decide +kernel)
theorem xts_n2 : ∀ q ∈ xcal2, Cond.methodLinkNest (xcn q.1.1) q.1.2 (xY q.2.2.1) "ProjectPlanner" ∈ xTb := xTb_map [542, 1171, 453, 464, 487, 678, 887] _ (by decide +kernel)
theorem xts_n3 : ∀ q ∈ xcal3, Cond.methodLinkNest (xcn q.1.1) q.1.2 (xY q.2.2.1) "ProjectPlanner" ∈ xTb := xTb_map [210, 230, 299, 337, 135, 224, 331] _ (by decide +kernel)
theorem xts_8 : ∀ q ∈ [(0 : Nat), 1, 2, 3], Cond.castable (xEn q) (xEn q) ∈ xTb := xTb_map [1088, 957, 1143, 1175] _ (by decide +kernel)
theorem xts_9 : ∀ q ∈ [("UNASSIGNED_STACK", Bundle.steD), ("SUPPRESSED_SENTINEL", Bundle.listD)], Cond.laysStatic Bundle.tN q.1 q.2 ∈ xTb := xTb_map [982, 984] _ (by decide +kernel)
theorem xts_10 : ∀ q ∈ [Bundle.tN], Cond.initialized q ∈ xTb := xTb_map [109] _ (by decide +kernel)
theorem xts_11 : ([0, 1, 2, 3] : List Nat).all (fun E => (xthw E).all (fun w => !xdc w || decide (w ∈ xTb))) = true := by decide +kernel
theorem xtq_0 : (xTb[826]? = some (Cond.privateMethod ⟨"java/lang/AbstractStringBuilder", "ensureCapacityInternal", "(I)V"⟩) ∧ xTb[827]? = some (Cond.instanceMethod ⟨"java/lang/AbstractStringBuilder", "ensureCapacityInternal", "(I)V"⟩)) ∧ xTb[2295]? = some (Cond.sameMethod "java/lang/AbstractStringBuilder" "java/lang/AbstractStringBuilder" "ensureCapacityInternal" "(I)V") := by decide +kernel
theorem xtq_1 : (xTb[830]? = some (Cond.privateMethod ⟨"java/lang/AbstractStringBuilder", "newCapacity", "(I)I"⟩) ∧ xTb[831]? = some (Cond.instanceMethod ⟨"java/lang/AbstractStringBuilder", "newCapacity", "(I)I"⟩)) ∧ xTb[2296]? = some (Cond.sameMethod "java/lang/AbstractStringBuilder" "java/lang/AbstractStringBuilder" "newCapacity" "(I)I") := by decide +kernel
