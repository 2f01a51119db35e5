/-! the methods: names, codes, what their instructions link, by the places of the statement's words (wip/p65/static2.py writes this) -/
/-- a value with the kind of the thing that it refers to (0: no reference) -/
abbrev xV : Type := Nat × Value
abbrev xM : Type := Nat → Nat → Nat → Value
/-- an entry: pc, instruction, resolved numbers, constant -/
abbrev xE : Type := Nat × Instr × List Nat × Int32
def xnth (l : List Nat) (i : Nat) : Nat := match l, i with
  | [], _ => 0
  | a :: _, 0 => a
  | _ :: r, i + 1 => xnth r i
/-- arrays of references: the kind of their elements, the number of the first -/
def xae (k : Nat) : Option (Nat × Nat) := match k with
  | 18 => some (2, 1)
  | 23 => some (24, 0)
  | 25 => some (2, 7)
  | _ => none
def xwx : List Cond := [.selects "java/lang/StringBuilder" ⟨"java/lang/AbstractStringBuilder", "ensureCapacityInternal", "(I)V"⟩ ⟨"java/lang/AbstractStringBuilder", "ensureCapacityInternal", "(I)V"⟩, .selects "java/lang/StringBuilder" ⟨"java/lang/AbstractStringBuilder", "newCapacity", "(I)I"⟩ ⟨"java/lang/AbstractStringBuilder", "newCapacity", "(I)I"⟩, .selects "java/lang/StringBuilder" ⟨"java/lang/AbstractStringBuilder", "putStringAt", "(ILjava/lang/String;)V"⟩ ⟨"java/lang/AbstractStringBuilder", "putStringAt", "(ILjava/lang/String;)V"⟩, .selects "java/lang/StringBuilder" ⟨"java/lang/AbstractStringBuilder", "inflateIfNeededFor", "(Ljava/lang/String;)V"⟩ ⟨"java/lang/AbstractStringBuilder", "inflateIfNeededFor", "(Ljava/lang/String;)V"⟩]
def xTb : List Cond := xwx ++ lw_tbl
def xwA : List Cond := xTb.filter goodWord
theorem xwA_mem {i : Nat} {w : Cond} (h : xTb[i]? = some w) (hg : goodWord w = true) : w ∈ xwA := List.mem_filter.mpr ⟨List.mem_of_getElem? h, hg⟩
theorem xwA_good {w : Cond} (h : w ∈ xwA) : goodWord w = true := (List.mem_filter.mp h).2
theorem xwA_map {α : Type} {f : α → Cond} : ∀ (ps : List Nat) (L : List α), ps.map (fun i => xTb[i]?) = L.map (fun q => some (f q)) → (∀ q, goodWord (f q) = true) → ∀ q ∈ L, f q ∈ xwA
  | [], [], _, _, _, h => nomatch h
  | [], _ :: _, e, _, _, _ => nomatch e
  | _ :: _, [], _, _, _, h => nomatch h
  | i :: ps, a :: L, e, hg, q, h => by
    injection e with e1 e2
    rcases List.mem_cons.mp h with h | h
    · subst h; exact xwA_mem e1 (hg _)
    · exact xwA_map ps L e2 hg q h
def xcn (c : Nat) : String := match c with
  | 0 => "ProjectPlanner$Plan"
  | 1 => "ProjectPlanner$History"
  | 2 => "ProjectPlanner$Input"
  | 3 => "ProjectPlanner$Tokens"
  | 4 => "ProjectPlanner$Command"
  | 5 => "ProjectPlanner$Script"
  | 6 => "ProjectPlanner$Dates"
  | 7 => "ProjectPlanner$Schedule"
  | 8 => "java/lang/String"
  | 9 => "jdk/internal/util/Preconditions"
  | 10 => "java/lang/StringLatin1"
  | 11 => "ProjectPlanner"
  | 12 => "ProjectPlanner$Setup"
  | 13 => "ProjectPlannerLaw"
  | 14 => "java/lang/Math"
  | 15 => "jdk/internal/util/ArraysSupport"
  | 16 => "java/lang/AbstractStringBuilder"
  | 17 => "java/util/Arrays"
  | 18 => "java/lang/StringBuilder"
  | 19 => "java/lang/Integer"
  | 20 => "ProjectPlannerLaw$Plan"
  | _ => ""
def xcl (k : Nat) : String := match k with
  | 1 => "ProjectPlanner"
  | 2 => "ProjectPlanner$Plan"
  | 10 => "ProjectPlanner$Dates"
  | 15 => "ProjectPlanner$Schedule"
  | 17 => "ProjectPlanner$History"
  | 19 => "ProjectPlanner$Input"
  | 21 => "ProjectPlanner$Tokens"
  | 22 => "ProjectPlanner$Script"
  | 24 => "ProjectPlanner$Command"
  | 27 => "ProjectPlannerLaw$Plan"
  | 42 => "ProjectPlanner$TokenKind"
  | 43 => "ProjectPlanner$CommandKind"
  | 46 => "java/lang/String"
  | 50 => "java/lang/StringBuilder"
  | _ => ""
def xTf (k f : Nat) : String × String × String × Bool := match k with
  | 1 => (match f with
    | 0 => ("ProjectPlanner", "plan", "LProjectPlanner$Plan;", true)
    | 1 => ("ProjectPlanner", "draft", "LProjectPlanner$Plan;", true)
    | 2 => ("ProjectPlanner", "history", "LProjectPlanner$History;", true)
    | 3 => ("ProjectPlanner", "saved", "[LProjectPlanner$Plan;", true)
    | 4 => ("ProjectPlanner", "isSaved", "[Z", true)
    | 5 => ("ProjectPlanner", "tokens", "LProjectPlanner$Tokens;", true)
    | 6 => ("ProjectPlanner", "script", "LProjectPlanner$Script;", true)
    | 7 => ("ProjectPlanner", "schedule", "LProjectPlanner$Schedule;", true)
    | 8 => ("ProjectPlanner", "output", "Ljava/lang/String;", false)
    | _ => ("", "", "", false))
  | 2 => (match f with
    | 0 => ("ProjectPlanner$Plan", "rule", "I", false)
    | 1 => ("ProjectPlanner$Plan", "resources", "I", false)
    | 2 => ("ProjectPlanner$Plan", "tasks", "I", false)
    | 3 => ("ProjectPlanner$Plan", "resourceNames", "[J", true)
    | 4 => ("ProjectPlanner$Plan", "capacities", "[I", true)
    | 5 => ("ProjectPlanner$Plan", "taskNames", "[J", true)
    | 6 => ("ProjectPlanner$Plan", "durations", "[I", true)
    | 7 => ("ProjectPlanner$Plan", "releases", "[I", true)
    | 8 => ("ProjectPlanner$Plan", "predecessors", "[I", true)
    | 9 => ("ProjectPlanner$Plan", "demands", "[I", true)
    | _ => ("", "", "", false))
  | 10 => (match f with
    | 0 => ("ProjectPlanner$Dates", "order", "[I", true)
    | 1 => ("ProjectPlanner$Dates", "before", "[I", true)
    | 2 => ("ProjectPlanner$Dates", "earliest", "[I", true)
    | 3 => ("ProjectPlanner$Dates", "latest", "[I", true)
    | 4 => ("ProjectPlanner$Dates", "length", "I", false)
    | _ => ("", "", "", false))
  | 15 => (match f with
    | 0 => ("ProjectPlanner$Schedule", "dates", "LProjectPlanner$Dates;", true)
    | 1 => ("ProjectPlanner$Schedule", "starts", "[I", true)
    | 2 => ("ProjectPlanner$Schedule", "placed", "I", false)
    | 3 => ("ProjectPlanner$Schedule", "length", "I", false)
    | _ => ("", "", "", false))
  | 17 => (match f with
    | 0 => ("ProjectPlanner$History", "states", "[LProjectPlanner$Plan;", true)
    | 1 => ("ProjectPlanner$History", "newest", "I", false)
    | 2 => ("ProjectPlanner$History", "count", "I", false)
    | _ => ("", "", "", false))
  | 19 => (match f with
    | 0 => ("ProjectPlanner$Input", "bytes", "[B", true)
    | 1 => ("ProjectPlanner$Input", "length", "I", false)
    | _ => ("", "", "", false))
  | 21 => (match f with
    | 0 => ("ProjectPlanner$Tokens", "input", "LProjectPlanner$Input;", true)
    | 1 => ("ProjectPlanner$Tokens", "start", "I", false)
    | 2 => ("ProjectPlanner$Tokens", "end", "I", false)
    | 3 => ("ProjectPlanner$Tokens", "kind", "LProjectPlanner$TokenKind;", false)
    | 4 => ("ProjectPlanner$Tokens", "word", "J", false)
    | 5 => ("ProjectPlanner$Tokens", "number", "I", false)
    | 6 => ("ProjectPlanner$Tokens", "takenName", "J", false)
    | 7 => ("ProjectPlanner$Tokens", "takenNumber", "I", false)
    | 8 => ("ProjectPlanner$Tokens", "errorCode", "I", false)
    | 9 => ("ProjectPlanner$Tokens", "errorPosition", "I", false)
    | _ => ("", "", "", false))
  | 22 => (match f with
    | 0 => ("ProjectPlanner$Script", "commands", "[LProjectPlanner$Command;", true)
    | 1 => ("ProjectPlanner$Script", "count", "I", false)
    | _ => ("", "", "", false))
  | 24 => (match f with
    | 0 => ("ProjectPlanner$Command", "kind", "LProjectPlanner$CommandKind;", false)
    | 1 => ("ProjectPlanner$Command", "task", "J", false)
    | 2 => ("ProjectPlanner$Command", "otherTask", "J", false)
    | 3 => ("ProjectPlanner$Command", "resource", "J", false)
    | 4 => ("ProjectPlanner$Command", "number", "I", false)
    | _ => ("", "", "", false))
  | 27 => (match f with
    | 0 => ("ProjectPlannerLaw$Plan", "x", "LProjectPlanner;", true)
    | 1 => ("ProjectPlannerLaw$Plan", "many", "I", true)
    | 2 => ("ProjectPlannerLaw$Plan", "start", "[I", true)
    | 3 => ("ProjectPlannerLaw$Plan", "length", "I", false)
    | _ => ("", "", "", false))
  | 46 => (match f with
    | 0 => ("java/lang/String", "value", "[B", true)
    | 1 => ("java/lang/String", "coder", "B", true)
    | _ => ("", "", "", false))
  | 50 => (match f with
    | 0 => ("java/lang/AbstractStringBuilder", "value", "[B", false)
    | 1 => ("java/lang/AbstractStringBuilder", "coder", "B", false)
    | 2 => ("java/lang/AbstractStringBuilder", "count", "I", false)
    | _ => ("", "", "", false))
  | _ => ("", "", "", false)
def xat (k : Nat) : Option FieldType := match k with
  | 3 => some (.long)
  | 4 => some (.int)
  | 5 => some (.long)
  | 6 => some (.int)
  | 7 => some (.int)
  | 8 => some (.int)
  | 9 => some (.int)
  | 11 => some (.int)
  | 12 => some (.int)
  | 13 => some (.int)
  | 14 => some (.int)
  | 16 => some (.int)
  | 18 => some (.object "ProjectPlanner$Plan")
  | 20 => some (.byte)
  | 23 => some (.object "ProjectPlanner$Command")
  | 25 => some (.object "ProjectPlanner$Plan")
  | 26 => some (.boolean)
  | 28 => some (.int)
  | 29 => some (.boolean)
  | 41 => some (.int)
  | 47 => some (.byte)
  | 48 => some (.byte)
  | 49 => some (.byte)
  | 52 => some (.byte)
  | _ => none
def xmet : List (Nat × String × String) := [(0, "<init>", "()V"), (1, "<init>", "()V"), (2, "<init>", "()V"), (3, "<init>", "()V"), (4, "<init>", "()V"), (5, "<init>", "()V"), (6, "<init>", "()V"), (7, "<init>", "()V"), (8, "coder", "()B"), (8, "length", "()I"), (8, "isLatin1", "()Z"), (9, "checkIndex", "(IILjava/util/function/BiFunction;)I"), (8, "checkIndex", "(II)V"), (10, "charAt", "([BI)C"), (8, "charAt", "(I)C"), (2, "putByte", "(I)V"), (2, "putText", "(Ljava/lang/String;)V"), (3, "isSeparator", "(I)Z"), (11, "isLetter", "(I)Z"), (3, "scanWord", "()V"), (11, "isDigit", "(I)Z"), (3, "scanNumber", "()V"), (3, "advance", "()V"), (3, "open", "()V"), (11, "packed", "(Ljava/lang/String;)J"), (3, "isAt", "(Ljava/lang/String;)Z"), (3, "fail", "(I)Z"), (3, "takeOpening", "(Ljava/lang/String;Z)Z"), (3, "takeNumber", "(II)Z"), (3, "takeSemicolon", "()Z"), (12, "readHead", "(LProjectPlanner$Tokens;LProjectPlanner$Plan;)Z"), (0, "resourceNamed", "(J)I"), (3, "takeNewName", "(I)Z"), (12, "readResource", "(LProjectPlanner$Tokens;LProjectPlanner$Plan;)Z"), (0, "taskNamed", "(J)I"), (12, "readDemands", "(LProjectPlanner$Tokens;LProjectPlanner$Plan;I)Z"), (3, "isAtKnownName", "(I)Z"), (11, "contains", "(II)Z"), (0, "isLinked", "(II)Z"), (12, "readLinks", "(LProjectPlanner$Tokens;LProjectPlanner$Plan;I)Z"), (12, "readTask", "(LProjectPlanner$Tokens;LProjectPlanner$Plan;)Z"), (12, "read", "(LProjectPlanner$Tokens;LProjectPlanner$Plan;)Z"), (11, "<init>", "()V"), (13, "pick", "([III)I"), (14, "max", "(II)I"), (15, "newLength", "(III)I"), (16, "newCapacity", "(I)I"), (14, "min", "(II)I"), (17, "copyOf", "([BI)[B"), (16, "ensureCapacityInternal", "(I)V"), (16, "inflateIfNeededFor", "(Ljava/lang/String;)V"), (8, "getBytes", "([BIB)V"), (16, "putStringAt", "(ILjava/lang/String;)V"), (16, "append", "(Ljava/lang/String;)Ljava/lang/AbstractStringBuilder;"), (18, "append", "(Ljava/lang/String;)Ljava/lang/StringBuilder;"), (18, "append", "(Ljava/lang/String;)Ljava/lang/AbstractStringBuilder;"), (16, "<init>", "(Ljava/lang/String;)V"), (18, "<init>", "(Ljava/lang/String;)V"), (19, "stringSize", "(I)I"), (16, "isLatin1", "()Z"), (19, "getChars", "(II[B)I"), (16, "append", "(I)Ljava/lang/AbstractStringBuilder;"), (18, "append", "(I)Ljava/lang/StringBuilder;"), (10, "canEncode", "(C)Z"), (16, "append", "(C)Ljava/lang/AbstractStringBuilder;"), (18, "append", "(C)Ljava/lang/StringBuilder;"), (16, "getValue", "()[B"), (16, "length", "()I"), (18, "length", "()I"), (17, "checkLength", "(II)V"), (17, "copyOfRangeByte", "([BII)[B"), (17, "copyOfRange", "([BII)[B"), (8, "<init>", "(Ljava/lang/AbstractStringBuilder;Ljava/lang/Void;)V"), (8, "<init>", "(Ljava/lang/StringBuilder;)V"), (18, "toString", "()Ljava/lang/String;"), (13, "setup", "([III)Ljava/lang/String;"), (11, "truncate", "(I)I"), (13, "word", "(Ljava/lang/String;I)I"), (2, "putBytes", "(I)V"), (11, "append", "(IIIII)I"), (13, "say", "(LProjectPlanner;Ljava/lang/String;)Z"), (0, "copyFrom", "(LProjectPlanner$Plan;)V"), (11, "load", "()I"), (11, "taskCount", "()I"), (0, "hasTask", "(I)Z"), (11, "requireTask", "(I)V"), (11, "release", "(I)I"), (11, "hasLink", "(II)Z"), (11, "duration", "(I)I"), (20, "early", "(I)I"), (20, "early", "(I)I"), (20, "early", "(I)I"), (20, "early", "(I)I"), (20, "early", "(I)I"), (20, "early", "(I)I"), (20, "early", "(I)I"), (20, "early", "(I)I"), (20, "<init>", "(LProjectPlanner;)V"), (11, "rule", "()I"), (20, "ready", "(I)I"), (20, "late", "(I)I"), (20, "late", "(I)I"), (20, "late", "(I)I"), (20, "late", "(I)I"), (20, "late", "(I)I"), (20, "late", "(I)I"), (20, "late", "(I)I"), (20, "late", "(I)I"), (20, "after", "(I[Z)I"), (20, "after", "(I[Z)I"), (20, "after", "(I[Z)I"), (20, "after", "(I[Z)I"), (20, "after", "(I[Z)I"), (20, "after", "(I[Z)I"), (20, "after", "(I[Z)I"), (20, "after", "(I[Z)I"), (20, "isAhead", "(III)Z"), (11, "resourceCount", "()I"), (20, "isOn", "(II)Z"), (0, "hasResource", "(I)Z"), (11, "requireResource", "(I)V"), (0, "demandOf", "(II)I"), (11, "demand", "(II)I"), (20, "usage", "(II)I"), (11, "capacity", "(I)I"), (20, "fits", "(II)Z"), (20, "build", "(I)I"), (0, "isReady", "(II)Z"), (6, "sortTasks", "(LProjectPlanner$Plan;)V"), (6, "findEarliest", "(LProjectPlanner$Plan;I)V"), (6, "findLatest", "(LProjectPlanner$Plan;I)V"), (6, "compute", "(LProjectPlanner$Plan;)V"), (6, "countFollowers", "(LProjectPlanner$Plan;I)I"), (7, "rankOf", "(LProjectPlanner$Plan;I)I"), (7, "bestReady", "(LProjectPlanner$Plan;)I"), (7, "predecessorsFinish", "(LProjectPlanner$Plan;I)I"), (0, "runsOn", "(III)Z"), (0, "loadOn", "([IIII)I"), (7, "hasRoomOn", "(LProjectPlanner$Plan;II)Z"), (7, "firstFreeDay", "(LProjectPlanner$Plan;I)I"), (7, "build", "(LProjectPlanner$Plan;)V"), (11, "currentSchedule", "()LProjectPlanner$Schedule;"), (11, "makespan", "()I"), (11, "currentDates", "()LProjectPlanner$Dates;"), (11, "projectLength", "()I"), (7, "countBrokenLinks", "(LProjectPlanner$Plan;)I"), (7, "usageOn", "(LProjectPlanner$Plan;II)I"), (7, "peakOf", "(LProjectPlanner$Plan;I)I"), (7, "countOverusedResources", "(LProjectPlanner$Plan;)I"), (0, "workFor", "(I)I"), (0, "daysOfWork", "(I)I"), (6, "leastMakespan", "(LProjectPlanner$Plan;)I"), (11, "inconsistencies", "()I"), (11, "startDay", "(I)I"), (11, "finishDay", "(I)I"), (11, "earliestStart", "(I)I"), (11, "latestStart", "(I)I"), (11, "delay", "(I)I"), (6, "slackOf", "(I)I"), (11, "slack", "(I)I"), (11, "requireDay", "(I)V"), (11, "usage", "(II)I"), (11, "peakUsage", "(I)I"), (11, "lowerBound", "()I"), (20, "agrees", "()Z"), (11, "requireRule", "(I)V"), (11, "lengthWithRule", "(I)I"), (11, "makespanWith", "(I)I"), (11, "requireDuration", "(I)V"), (1, "remember", "(LProjectPlanner$Plan;)V"), (0, "changeDuration", "(II)Z"), (11, "setDuration", "(II)I"), (0, "changeDemand", "(III)Z"), (11, "setDemand", "(III)I"), (0, "changeRelease", "(II)Z"), (11, "setRelease", "(II)I"), (0, "predecessorsOf", "(I)I"), (0, "cycleLength", "(II)I"), (11, "closedCycleLength", "(II)I"), (0, "canLink", "(II)Z"), (0, "link", "(II)Z"), (19, "bitCount", "(I)I"), (0, "countLinks", "()I"), (11, "addLink", "(II)I"), (0, "unlink", "(II)Z"), (11, "removeLink", "(II)I"), (0, "greatestDemand", "(I)I"), (0, "changeCapacity", "(II)Z"), (11, "setCapacity", "(II)I"), (0, "moveTask", "(II)V"), (0, "withoutBit", "(II)I"), (0, "removeTask", "(I)Z"), (11, "dropTask", "(I)I"), (0, "changeRule", "(I)Z"), (11, "setRule", "(I)I"), (13, "act", "(LProjectPlanner;I)V"), (13, "law", "([I)Z")]
noncomputable def xcodeL : List ByteArray := [prog_8_method_1_code, prog_6_method_1_code, prog_7_method_1_code, prog_13_method_1_code, prog_3_method_1_code, prog_10_method_1_code, prog_5_method_1_code, prog_9_method_1_code, prog_28_method_152_code, prog_28_method_54_code, prog_28_method_154_code, prog_36_method_11_code, prog_28_method_155_code, prog_30_method_2_code, prog_28_method_56_code, prog_7_method_2_code, prog_7_method_4_code, prog_13_method_4_code, prog_1_method_77_code, prog_13_method_5_code, prog_1_method_78_code, prog_13_method_6_code, prog_13_method_3_code, prog_13_method_2_code, prog_1_method_75_code, prog_13_method_8_code, prog_13_method_7_code, prog_13_method_9_code, prog_13_method_11_code, prog_13_method_10_code, prog_11_method_3_code, prog_8_method_6_code, prog_13_method_12_code, prog_11_method_4_code, prog_8_method_5_code, prog_11_method_6_code, prog_13_method_13_code, prog_1_method_74_code, prog_8_method_14_code, prog_11_method_7_code, prog_11_method_5_code, prog_11_method_2_code, prog_1_method_1_code, method_2_code, prog_25_method_65_code, prog_35_method_27_code, prog_17_method_10_code, prog_25_method_69_code, prog_34_method_121_code, prog_17_method_9_code, prog_17_method_71_code, prog_28_method_147_code, prog_17_method_73_code, prog_17_method_22_code, prog_29_method_7_code, prog_29_method_80_code, prog_17_method_3_code, prog_29_method_3_code, prog_24_method_13_code, prog_17_method_68_code, prog_24_method_12_code, prog_17_method_32_code, prog_29_method_15_code, prog_30_method_3_code, prog_17_method_31_code, prog_29_method_14_code, prog_17_method_64_code, prog_17_method_6_code, prog_29_method_93_code, prog_34_method_131_code, prog_34_method_133_code, prog_34_method_132_code, prog_28_method_150_code, prog_28_method_53_code, prog_29_method_42_code, method_5_code, prog_1_method_3_code, method_3_code, prog_7_method_3_code, prog_1_method_2_code, method_4_code, prog_8_method_2_code, prog_1_method_4_code, prog_1_method_7_code, prog_8_method_3_code, prog_1_method_64_code, prog_1_method_15_code, prog_1_method_18_code, prog_1_method_14_code, prog_15_method_2_code, prog_15_method_2_code, prog_15_method_2_code, prog_15_method_2_code, prog_15_method_2_code, prog_15_method_2_code, prog_15_method_2_code, prog_15_method_2_code, prog_15_method_1_code, prog_1_method_9_code, prog_15_method_8_code, prog_15_method_3_code, prog_15_method_3_code, prog_15_method_3_code, prog_15_method_3_code, prog_15_method_3_code, prog_15_method_3_code, prog_15_method_3_code, prog_15_method_3_code, prog_15_method_4_code, prog_15_method_4_code, prog_15_method_4_code, prog_15_method_4_code, prog_15_method_4_code, prog_15_method_4_code, prog_15_method_4_code, prog_15_method_4_code, prog_15_method_9_code, prog_1_method_8_code, prog_15_method_5_code, prog_8_method_4_code, prog_1_method_65_code, prog_8_method_7_code, prog_1_method_16_code, prog_15_method_6_code, prog_1_method_13_code, prog_15_method_7_code, prog_15_method_10_code, prog_8_method_15_code, prog_5_method_3_code, prog_5_method_4_code, prog_5_method_5_code, prog_5_method_2_code, prog_5_method_8_code, prog_9_method_4_code, prog_9_method_3_code, prog_9_method_6_code, prog_8_method_11_code, prog_8_method_12_code, prog_9_method_7_code, prog_9_method_5_code, prog_9_method_2_code, prog_1_method_71_code, prog_1_method_35_code, prog_1_method_70_code, prog_1_method_30_code, prog_9_method_11_code, prog_9_method_9_code, prog_9_method_10_code, prog_9_method_12_code, prog_8_method_9_code, prog_8_method_10_code, prog_5_method_10_code, prog_1_method_44_code, prog_1_method_32_code, prog_1_method_33_code, prog_1_method_24_code, prog_1_method_25_code, prog_1_method_34_code, prog_5_method_6_code, prog_1_method_26_code, prog_1_method_67_code, prog_1_method_36_code, prog_1_method_37_code, prog_1_method_41_code, prog_15_method_11_code, prog_1_method_69_code, prog_1_method_72_code, prog_1_method_45_code, prog_1_method_68_code, prog_6_method_2_code, prog_8_method_19_code, prog_1_method_50_code, prog_8_method_20_code, prog_1_method_51_code, prog_8_method_21_code, prog_1_method_52_code, prog_8_method_17_code, prog_8_method_16_code, prog_1_method_23_code, prog_8_method_18_code, prog_8_method_22_code, prog_24_method_49_code, prog_8_method_13_code, prog_1_method_53_code, prog_8_method_23_code, prog_1_method_54_code, prog_8_method_8_code, prog_8_method_24_code, prog_1_method_55_code, prog_8_method_27_code, prog_8_method_28_code, prog_8_method_26_code, prog_1_method_57_code, prog_8_method_25_code, prog_1_method_56_code, method_6_code, code]
def xretL : List (Option FieldType) := [none, none, none, none, none, none, none, none, (.some .byte), (.some .int), (.some .boolean), (.some .int), none, (.some .char), (.some .char), none, none, (.some .boolean), (.some .boolean), none, (.some .boolean), none, none, none, (.some .long), (.some .boolean), (.some .boolean), (.some .boolean), (.some .boolean), (.some .boolean), (.some .boolean), (.some .int), (.some .boolean), (.some .boolean), (.some .int), (.some .boolean), (.some .boolean), (.some .boolean), (.some .boolean), (.some .boolean), (.some .boolean), (.some .boolean), none, (.some .int), (.some .int), (.some .int), (.some .int), (.some .int), (.some (.array .byte)), none, none, none, none, (.some (.object "java/lang/AbstractStringBuilder")), (.some (.object "java/lang/StringBuilder")), (.some (.object "java/lang/AbstractStringBuilder")), none, none, (.some .int), (.some .boolean), (.some .int), (.some (.object "java/lang/AbstractStringBuilder")), (.some (.object "java/lang/StringBuilder")), (.some .boolean), (.some (.object "java/lang/AbstractStringBuilder")), (.some (.object "java/lang/StringBuilder")), (.some (.array .byte)), (.some .int), (.some .int), none, (.some (.array .byte)), (.some (.array .byte)), none, none, (.some (.object "java/lang/String")), (.some (.object "java/lang/String")), (.some .int), (.some .int), none, (.some .int), (.some .boolean), none, (.some .int), (.some .int), (.some .boolean), none, (.some .int), (.some .boolean), (.some .int), (.some .int), (.some .int), (.some .int), (.some .int), (.some .int), (.some .int), (.some .int), (.some .int), none, (.some .int), (.some .int), (.some .int), (.some .int), (.some .int), (.some .int), (.some .int), (.some .int), (.some .int), (.some .int), (.some .int), (.some .int), (.some .int), (.some .int), (.some .int), (.some .int), (.some .int), (.some .int), (.some .boolean), (.some .int), (.some .boolean), (.some .boolean), none, (.some .int), (.some .int), (.some .int), (.some .int), (.some .boolean), (.some .int), (.some .boolean), none, none, none, none, (.some .int), (.some .int), (.some .int), (.some .int), (.some .boolean), (.some .int), (.some .boolean), (.some .int), none, (.some (.object "ProjectPlanner$Schedule")), (.some .int), (.some (.object "ProjectPlanner$Dates")), (.some .int), (.some .int), (.some .int), (.some .int), (.some .int), (.some .int), (.some .int), (.some .int), (.some .int), (.some .int), (.some .int), (.some .int), (.some .int), (.some .int), (.some .int), (.some .int), none, (.some .int), (.some .int), (.some .int), (.some .boolean), none, (.some .int), (.some .int), none, none, (.some .boolean), (.some .int), (.some .boolean), (.some .int), (.some .boolean), (.some .int), (.some .int), (.some .int), (.some .int), (.some .boolean), (.some .boolean), (.some .int), (.some .int), (.some .int), (.some .boolean), (.some .int), (.some .int), (.some .boolean), (.some .int), none, (.some .int), (.some .boolean), (.some .int), (.some .boolean), (.some .int), none, some .boolean]
def xmlL : List Nat := [1, 2, 1, 1, 1, 2, 1, 1, 1, 1, 1, 3, 2, 2, 2, 2, 3, 1, 1, 1, 1, 1, 1, 1, 4, 2, 2, 3, 3, 1, 2, 4, 2, 3, 4, 4, 2, 2, 3, 5, 3, 4, 3, 3, 2, 4, 6, 2, 3, 3, 2, 4, 3, 3, 2, 2, 5, 2, 4, 1, 7, 4, 2, 1, 2, 2, 1, 1, 1, 2, 5, 3, 5, 2, 1, 8, 2, 4, 2, 7, 3, 2, 3, 1, 2, 2, 2, 3, 2, 4, 4, 4, 4, 4, 4, 4, 4, 3, 1, 4, 4, 4, 4, 4, 4, 4, 4, 4, 5, 5, 5, 5, 5, 5, 5, 5, 4, 1, 3, 2, 2, 3, 3, 5, 2, 5, 6, 3, 5, 6, 5, 3, 5, 3, 6, 5, 4, 7, 7, 5, 4, 1, 1, 1, 1, 5, 4, 5, 4, 4, 3, 4, 3, 2, 2, 2, 2, 3, 2, 2, 1, 3, 2, 1, 6, 1, 2, 2, 1, 2, 3, 4, 4, 5, 3, 4, 4, 5, 3, 3, 3, 1, 3, 3, 3, 3, 4, 3, 4, 4, 3, 3, 2, 2, 3, 7, 8]
def xml (y : Nat) : Nat := xnth xmlL y
def xstaL : List Bool := [false, false, false, false, false, false, false, false, false, false, false, true, true, true, false, false, false, true, true, false, true, false, false, false, true, false, false, false, false, false, true, false, false, true, false, true, false, true, false, true, true, true, false, true, true, true, false, true, true, false, false, false, false, false, false, false, false, false, true, false, true, false, false, true, false, false, false, false, false, true, true, true, false, false, false, true, false, true, false, false, true, false, false, false, false, false, false, false, false, false, false, false, false, false, false, false, false, false, false, false, false, false, false, false, false, false, false, false, false, false, false, false, false, false, false, false, false, false, false, false, false, false, false, false, false, false, false, false, false, false, false, false, false, false, false, false, false, false, false, false, false, false, false, false, false, false, false, false, false, false, false, false, false, false, false, false, false, false, false, false, true, false, false, false, false, true, false, false, true, false, false, false, false, false, false, false, false, false, false, false, false, true, false, false, false, false, false, false, false, false, true, false, false, false, false, true, true]
def xnpL : List Nat := [0, 0, 0, 0, 0, 0, 0, 0, 0, 0, 0, 3, 2, 2, 1, 1, 1, 1, 1, 0, 1, 0, 0, 0, 1, 1, 1, 2, 2, 0, 2, 1, 1, 2, 1, 3, 1, 2, 2, 3, 2, 2, 0, 3, 2, 3, 1, 2, 2, 1, 1, 3, 2, 1, 1, 1, 1, 1, 1, 0, 3, 1, 1, 1, 1, 1, 0, 0, 0, 2, 3, 3, 2, 1, 0, 3, 1, 2, 1, 5, 2, 1, 0, 0, 1, 1, 1, 2, 1, 1, 1, 1, 1, 1, 1, 1, 1, 1, 0, 1, 1, 1, 1, 1, 1, 1, 1, 1, 2, 2, 2, 2, 2, 2, 2, 2, 3, 0, 2, 1, 1, 2, 2, 2, 1, 2, 1, 2, 1, 2, 2, 1, 2, 2, 1, 2, 3, 4, 3, 2, 1, 0, 0, 0, 0, 1, 3, 2, 1, 1, 1, 1, 0, 1, 1, 1, 1, 1, 1, 1, 1, 2, 1, 0, 0, 1, 1, 1, 1, 1, 2, 2, 3, 3, 2, 2, 1, 2, 2, 2, 2, 1, 0, 2, 2, 2, 1, 2, 2, 2, 2, 1, 1, 1, 1, 2, 1]
def xregL : List Bool := [true, true, true, true, true, true, true, true, false, false, false, false, false, false, false, false, false, false, false, false, false, false, false, false, false, false, false, false, false, false, false, false, false, false, false, false, false, false, false, false, false, false, true, true, false, false, false, false, false, false, false, false, false, false, false, false, false, false, false, false, false, false, false, false, false, false, false, false, false, false, false, false, false, false, false, true, false, true, false, false, true, false, false, false, false, false, false, false, false, true, true, true, true, true, true, true, true, true, false, true, true, true, true, true, true, true, true, true, true, true, true, true, true, true, true, true, true, false, true, false, false, false, false, true, false, true, true, false, false, false, false, false, false, false, false, false, false, false, false, false, false, false, false, false, false, false, false, false, false, false, false, false, false, false, false, false, false, false, false, false, false, false, false, false, true, false, false, false, false, false, false, false, false, false, false, false, false, false, false, false, false, false, false, false, false, false, false, false, false, false, false, false, false, false, false, true, true]
def xdepL : List Nat := [0, 1, 0, 1, 0, 1, 0, 1, 0, 1, 0, 0, 1, 2, 3, 0, 4, 0, 0, 1, 0, 1, 2, 3, 4, 5, 0, 6, 3, 3, 7, 0, 3, 7, 0, 4, 1, 0, 1, 6, 7, 8, 9, 0, 0, 1, 2, 0, 1, 3, 1, 1, 2, 4, 5, 6, 7, 8, 0, 0, 0, 4, 5, 0, 4, 5, 0, 0, 1, 0, 1, 2, 3, 4, 5, 9, 0, 4, 1, 2, 5, 0, 9, 0, 0, 1, 2, 2, 2, 3, 4, 5, 6, 7, 8, 9, 10, 11, 0, 3, 3, 4, 5, 6, 7, 8, 9, 10, 3, 4, 5, 6, 7, 8, 9, 10, 11, 0, 3, 0, 1, 0, 2, 4, 2, 5, 12, 1, 2, 2, 2, 3, 1, 2, 3, 2, 0, 1, 2, 3, 4, 5, 6, 4, 5, 2, 2, 3, 4, 1, 2, 3, 6, 6, 6, 5, 5, 6, 0, 5, 0, 6, 6, 5, 13, 0, 5, 6, 0, 1, 1, 2, 1, 2, 1, 2, 1, 2, 3, 3, 4, 0, 1, 5, 2, 3, 1, 2, 3, 0, 0, 1, 2, 0, 2, 6, 14]
def xhhL : List (List (Nat × Nat × Nat × Nat)) := [[], [], [], [], [], [], [], [], [], [], [], [], [], [], [], [], [], [], [], [], [], [], [], [], [], [], [], [], [], [], [], [], [], [], [], [], [], [], [], [], [], [], [], [], [], [], [], [], [], [], [], [], [], [], [], [], [], [], [], [], [], [], [], [], [], [], [], [], [], [], [], [], [], [], [], [], [], [], [], [], [], [], [], [], [], [], [], [], [], [], [], [], [], [], [], [], [], [], [], [], [], [], [], [], [], [], [], [], [], [], [], [], [], [], [], [], [], [], [], [], [], [], [], [], [], [], [], [], [], [], [], [], [], [], [], [], [], [], [], [], [], [], [], [], [], [], [], [], [], [], [], [], [], [], [], [], [], [], [], [], [], [], [], [], [], [], [], [], [], [], [], [], [], [], [], [], [], [], [], [], [], [], [], [], [], [], [], [], [], [], [], [], [], [], [], [], []]
def xget0 {α : Type} (d : α) : List α → Nat → α
  | [], _ => d
  | a :: _, 0 => a
  | _ :: r, i + 1 => xget0 d r i
def xoc (y : Nat) : Nat := (xget0 (0, "", "") xmet y).1
def xY (y : Nat) : MethodName := ⟨xcn (xoc y), (xget0 (0, "", "") xmet y).2.1, (xget0 (0, "", "") xmet y).2.2⟩
noncomputable def xCode (y : Nat) : ByteArray := xget0 ⟨#[]⟩ xcodeL y
def xRet (y : Nat) : Option FieldType := xget0 none xretL y
def xsta (y : Nat) : Bool := xget0 false xstaL y
def xnp (y : Nat) : Nat := xget0 0 xnpL y
def xreg (y : Nat) : Bool := xget0 false xregL y
def xdep (y : Nat) : Nat := xget0 0 xdepL y
def xhh (y : Nat) : List (Nat × Nat × Nat × Nat) := xget0 [] xhhL y
def xnor : List Nat := [0, 1, 2, 3, 4, 5, 6, 7, 8, 9, 10, 11, 12, 13, 14, 15, 16, 17, 18, 19, 20, 21, 22, 23, 24, 25, 26, 27, 28, 29, 30, 31, 32, 33, 34, 35, 36, 37, 38, 39, 40, 41, 42, 43, 44, 45, 46, 47, 48, 49, 50, 51, 52, 53, 54, 55, 56, 57, 58, 59, 60, 61, 62, 63, 64, 65, 66, 67, 68, 69, 70, 71, 72, 73, 74, 75, 76, 77, 78, 79, 80, 81, 82, 83, 84, 85, 86, 87, 88, 89, 90, 91, 92, 93, 94, 95, 96, 97, 98, 99, 100, 101, 102, 103, 104, 105, 106, 107, 108, 109, 110, 111, 112, 113, 114, 115, 116, 117, 118, 119, 120, 121, 122, 123, 124, 125, 126, 127, 128, 129, 130, 131, 132, 133, 134, 135, 136, 137, 138, 139, 140, 141, 142, 143, 144, 145, 146, 147, 148, 149, 150, 151, 152, 153, 154, 155, 156, 157, 158, 159, 160, 161, 162, 163, 164, 165, 166, 167, 168, 169, 170, 171, 172, 173, 174, 175, 176, 177, 178, 179, 180, 181, 182, 183, 184, 185, 186, 187, 188, 189, 190, 191, 192, 193, 194, 195]
def xhan : List Nat := []
set_option maxRecDepth 100000 in
theorem xcode_ok : ∀ q ∈ xnor, Cond.code (xY q) (xCode q) (xml q) (xRet q) ∈ xwA := xwA_map [67, 132, 158, 152, 221, 214, 253, 247, 304, 300, 314, 325, 320, 317, 310, 348, 296, 364, 367, 371, 378, 382, 361, 357, 401, 398, 407, 394, 411, 415, 389, 423, 427, 418, 436, 439, 449, 456, 453, 442, 431, 353, 59, 875, 600, 965, 962, 607, 973, 958, 1011, 1034, 1007, 950, 947, 943, 925, 922, 1058, 987, 1061, 1055, 1052, 1083, 1080, 1077, 1112, 1120, 1118, 1130, 1127, 1124, 1106, 1103, 1098, 916, 883, 888, 913, 893, 879, 561, 490, 658, 674, 670, 666, 694, 699, 662, 662, 662, 662, 662, 662, 662, 662, 653, 776, 721, 729, 729, 729, 729, 729, 729, 729, 729, 734, 734, 734, 734, 734, 734, 734, 734, 725, 742, 750, 762, 758, 647, 754, 746, 768, 738, 717, 592, 588, 596, 604, 584, 620, 616, 611, 629, 643, 639, 635, 625, 580, 785, 781, 793, 789, 802, 814, 810, 806, 826, 822, 818, 798, 830, 834, 838, 842, 846, 854, 850, 861, 858, 867, 872, 772, 571, 576, 568, 1163, 1168, 1174, 1160, 1185, 1180, 1195, 1190, 1208, 1204, 1200, 1216, 1223, 1231, 1228, 1212, 1243, 1238, 1254, 1260, 1249, 1274, 1277, 1270, 1265, 1285, 1281, 1154] _ rfl (fun _ => rfl)
set_option maxRecDepth 100000 in
theorem xcodeW_ok : ∀ q ∈ xhan, Cond.codeWith (xY q) (xCode q) (xml q) (xRet q) (xhh q) ∈ xwA := xwA_map [] _ rfl (fun _ => rfl)
def xini : List Nat := [0, 1, 2, 3, 4, 5, 6, 7, 8, 9, 10, 11, 12, 13, 14, 15, 16, 17, 18, 19, 20]
set_option maxRecDepth 100000 in
theorem xini_ok : ∀ q ∈ xini, Cond.initialized (xcn q) ∈ xwA := xwA_map [24, 25, 27, 26, 31, 30, 34, 33, 35, 37, 36, 23, 39, 22, 43, 42, 40, 44, 41, 47, 53] _ rfl (fun _ => rfl)
def xinik : List Nat := [1, 2, 10, 15, 17, 19, 21, 22, 24, 27, 42, 43, 46, 50]
set_option maxRecDepth 100000 in
theorem xinik_ok : ∀ q ∈ xinik, Cond.initialized (xcl q) ∈ xwA := xwA_map [23, 24, 34, 33, 25, 27, 26, 30, 31, 53, 29, 32, 35, 41] _ rfl (fun _ => rfl)
def xfl : List ((Nat × Nat) × Nat × Nat) := [((0, 9), 2, 3), ((0, 15), 2, 4), ((0, 19), 2, 5), ((0, 22), 2, 6), ((0, 25), 2, 7), ((0, 28), 2, 8), ((0, 31), 2, 9), ((0, 34), 2, 0), ((0, 38), 2, 1), ((0, 41), 2, 2), ((1, 11), 17, 0), ((1, 18), 17, 1), ((1, 26), 17, 2), ((2, 9), 19, 0), ((2, 15), 19, 1), ((3, 12), 21, 0), ((3, 24), 21, 3), ((3, 27), 21, 9), ((3, 31), 21, 8), ((3, 34), 21, 2), ((3, 40), 21, 1), ((3, 43), 19, 1), ((3, 46), 19, 0), ((3, 54), 21, 4), ((3, 58), 21, 5), ((3, 96), 21, 7), ((3, 99), 21, 6), ((4, 13), 24, 0), ((5, 11), 22, 0), ((6, 9), 10, 0), ((6, 15), 10, 1), ((6, 18), 10, 2), ((6, 21), 10, 3), ((6, 28), 10, 4), ((6, 32), 2, 2), ((6, 48), 2, 7), ((6, 54), 2, 6), ((6, 76), 2, 1), ((7, 12), 15, 0), ((7, 18), 15, 1), ((7, 26), 15, 2), ((7, 30), 15, 3), ((7, 33), 2, 2), ((7, 46), 2, 6), ((7, 62), 2, 0), ((7, 65), 10, 3), ((7, 71), 2, 7), ((7, 84), 2, 1), ((7, 94), 2, 4), ((8, 9), 46, 0), ((8, 15), 46, 1), ((11, 10), 1, 1), ((11, 19), 1, 2), ((11, 23), 1, 3), ((11, 27), 1, 4), ((11, 34), 1, 5), ((11, 41), 1, 6), ((11, 48), 1, 7), ((11, 54), 1, 8), ((11, 58), 21, 0), ((11, 80), 1, 0), ((11, 83), 19, 1), ((11, 108), 17, 2), ((11, 111), 2, 2), ((11, 120), 2, 1), ((11, 123), 2, 0), ((11, 163), 2, 4), ((11, 167), 2, 6), ((11, 170), 2, 7), ((11, 218), 10, 2), ((11, 221), 10, 3), ((11, 230), 10, 4), ((11, 238), 15, 1), ((11, 241), 15, 0), ((11, 245), 15, 3), ((12, 9), 2, 1), ((12, 15), 2, 2), ((12, 41), 21, 3), ((12, 60), 21, 7), ((12, 63), 2, 0), ((12, 70), 21, 4), ((12, 82), 2, 3), ((12, 86), 21, 6), ((12, 89), 2, 4), ((12, 98), 2, 5), ((12, 101), 2, 6), ((12, 104), 2, 7), ((12, 107), 2, 8), ((12, 117), 2, 9), ((16, 15), 50, 0), ((16, 22), 50, 1), ((16, 79), 50, 2), ((20, 7), 27, 2), ((20, 13), 27, 0), ((20, 23), 27, 1), ((20, 27), 27, 3)]
set_option maxRecDepth 100000 in
theorem xfl_ok : ∀ q ∈ xfl, Cond.fieldLink (xcn q.1.1) q.1.2 (xTf q.2.1 q.2.2).1 (xTf q.2.1 q.2.2).2.1 (xTf q.2.1 q.2.2).2.2.1 ∈ xwA := xwA_map [83, 85, 89, 91, 96, 101, 103, 69, 74, 80, 137, 138, 139, 160, 162, 174, 178, 188, 187, 177, 176, 164, 161, 180, 182, 186, 184, 225, 237, 255, 256, 257, 259, 262, 79, 97, 93, 77, 275, 277, 279, 280, 81, 92, 71, 260, 98, 75, 87, 1141, 1142, 460, 461, 462, 463, 464, 465, 466, 467, 175, 459, 163, 140, 82, 76, 72, 88, 95, 100, 258, 261, 263, 278, 276, 281, 73, 78, 179, 185, 70, 181, 84, 183, 86, 90, 94, 99, 102, 104, 1037, 1038, 1040, 703, 701, 702, 704] _ rfl (fun _ => rfl)
def xlay : List (Nat × Nat) := [(1, 8), (2, 0), (2, 1), (2, 2), (10, 4), (15, 2), (15, 3), (17, 1), (17, 2), (19, 1), (21, 1), (21, 2), (21, 3), (21, 4), (21, 5), (21, 6), (21, 7), (21, 8), (21, 9), (22, 1), (24, 0), (24, 1), (24, 2), (24, 3), (24, 4), (27, 3), (50, 0), (50, 1), (50, 2)]
def xlayF : List (Nat × Nat) := [(1, 0), (1, 1), (1, 2), (1, 3), (1, 4), (1, 5), (1, 6), (1, 7), (2, 3), (2, 4), (2, 5), (2, 6), (2, 7), (2, 8), (2, 9), (10, 0), (10, 1), (10, 2), (10, 3), (15, 0), (15, 1), (17, 0), (19, 0), (21, 0), (22, 0), (27, 0), (27, 1), (27, 2), (46, 0), (46, 1)]
set_option maxRecDepth 100000 in
theorem xlay_ok : ∀ q ∈ xlay, Cond.lays (xcl q.1) (xTf q.1 q.2).1 (xTf q.1 q.2).2.1 (xTf q.1 q.2).2.2.1 ∈ xwA := xwA_map [484, 105, 107, 109, 272, 286, 288, 143, 145, 167, 191, 193, 195, 197, 199, 201, 203, 205, 207, 240, 226, 228, 230, 232, 234, 711, 1041, 1043, 1047] _ rfl (fun _ => rfl)
set_option maxRecDepth 100000 in
theorem xlayF_ok : ∀ q ∈ xlayF, Cond.laysFinal (xcl q.1) (xTf q.1 q.2).1 (xTf q.1 q.2).2.1 (xTf q.1 q.2).2.2.1 ∈ xwA := xwA_map [468, 470, 472, 474, 476, 478, 480, 482, 111, 113, 115, 117, 119, 121, 123, 264, 266, 268, 270, 282, 284, 141, 165, 189, 238, 705, 707, 709, 1143, 1145] _ rfl (fun _ => rfl)
def xstt : List (String × String × String × xV) := [("ProjectPlanner$TokenKind", "END", "LProjectPlanner$TokenKind;", (42, .ref 4)), ("ProjectPlanner$CommandKind", "RULE", "LProjectPlanner$CommandKind;", (43, .ref 0)), ("java/lang/String", "COMPACT_STRINGS", "Z", (0, .int 1)), ("jdk/internal/util/Preconditions", "SIOOBE_FORMATTER", "Ljava/util/function/BiFunction;", (51, .ref 0)), ("ProjectPlanner$TokenKind", "WORD", "LProjectPlanner$TokenKind;", (42, .ref 0)), ("ProjectPlanner$TokenKind", "INVALID", "LProjectPlanner$TokenKind;", (42, .ref 3)), ("ProjectPlanner$TokenKind", "NUMBER", "LProjectPlanner$TokenKind;", (42, .ref 1)), ("ProjectPlanner$TokenKind", "SEMICOLON", "LProjectPlanner$TokenKind;", (42, .ref 2)), ("java/lang/Integer", "DigitOnes", "[B", (48, .ref 0)), ("java/lang/Integer", "DigitTens", "[B", (52, .ref 0))]
def xst0 : String × String × String × xV := ("", "", "", (0, .null))
def xgs : List ((Nat × Nat) × Nat) := [((3, 18), 0), ((3, 73), 7), ((3, 76), 5), ((3, 79), 4), ((3, 82), 6), ((4, 7), 1), ((8, 38), 2), ((8, 1053), 3), ((12, 45), 0), ((12, 125), 4), ((16, 18), 2), ((19, 83), 8), ((19, 87), 9)]
set_option maxRecDepth 100000 in
theorem xgs_ok : ∀ q ∈ xgs, Cond.fieldLink (xcn q.1.1) q.1.2 (xget0 xst0 xstt q.2).1 (xget0 xst0 xstt q.2).2.1 (xget0 xst0 xstt q.2).2.2.1 ∈ xwA := xwA_map [172, 385, 374, 372, 383, 223, 305, 321, 458, 445, 988, 1062, 1064] _ rfl (fun _ => rfl)
def xgsN : List ((Nat × Nat) × Nat) := []
def xldi : List ((Nat × Nat) × Int32) := [((13, 7), 2147483647), ((13, 56), 268435456), ((13, 59), 262144), ((13, 62), 4194304), ((15, 200), 2147483639), ((16, 38), 2147483631), ((16, 39), 2147483647), ((19, 265), 1431655765), ((19, 266), 858993459), ((19, 267), 252645135)]
set_option maxRecDepth 100000 in
theorem xldi_ok : ∀ q ∈ xldi, Cond.constant (xcn q.1.1) q.1.2 q.2 ∈ xwA := xwA_map [876, 1089, 1091, 1093, 967, 928, 929, 1232, 1233, 1234] _ rfl (fun _ => rfl)
def xldl : List ((Nat × Nat) × Nat) := []
set_option maxRecDepth 100000 in
theorem xldl_ok : ∀ q ∈ xldl, Cond.constantLong (xcn q.1.1) q.1.2 (Int64.ofNat q.2) ∈ xwA := xwA_map [] _ rfl (fun _ => rfl)
def xlds : List ((Nat × Nat) × Nat) := [((11, 52), 4), ((11, 62), 5), ((11, 70), 6), ((11, 72), 7), ((12, 32), 1), ((12, 50), 0), ((12, 93), 3), ((12, 120), 2), ((13, 36), 8), ((13, 51), 9), ((13, 57), 10), ((13, 60), 11), ((13, 63), 12)]
def xtxt : List String := ["project", "resource", "after", "task", "", "project 1;resource crew 3;resource crane 1;", "task dig 3 2 0;task wall 5 2 1 after dig;task roof 2 1 1 after wall;", "task pipe 4 1 0 after dig;task paint 3 1 0 after wall pipe;", "project ", "resource \x72", "task t", " after t", " t"]
def xnewL : List ((Nat × Nat) × Nat × Nat) := [((1, 9), 2, 10), ((3, 9), 19, 2), ((5, 9), 24, 5), ((7, 9), 10, 5), ((11, 7), 2, 10), ((11, 16), 17, 3), ((11, 31), 21, 10), ((11, 38), 22, 2), ((11, 45), 15, 4), ((13, 19), 1, 9), ((13, 34), 50, 4), ((13, 131), 27, 4), ((18, 18), 46, 4)]
set_option maxRecDepth 100000 in
theorem xnew1_ok : ∀ q ∈ xnewL, Cond.classLink (xcn q.1.1) q.1.2 (xcl q.2.1) ∈ xwA := xwA_map [134, 154, 216, 249, 63, 128, 148, 210, 243, 55, 917, 649, 1099] _ rfl (fun _ => rfl)
set_option maxRecDepth 100000 in
theorem xnew2_ok : ∀ q ∈ xnewL, Cond.instantiable (xcl q.2.1) q.2.2 ∈ xwA := xwA_map [64, 155, 218, 250, 64, 129, 149, 211, 244, 56, 918, 650, 1100] _ rfl (fun _ => rfl)
def xarr : List ((Nat × Nat) × Nat) := [((1, 9), 18), ((5, 9), 23), ((11, 7), 25)]
set_option maxRecDepth 100000 in
theorem xarr_ok : ∀ q ∈ xarr, Cond.classLink (xcn q.1.1) q.1.2 (match xae q.2 with
  | some t => xcl t.1
  | none => "") ∈ xwA := xwA_map [134, 216, 63] _ rfl (fun _ => rfl)
/-- calls: class and index; manner (0 instance, 1 static, 2 static of a nest mate, 3 constructor of a nest mate, 4 constructor, 5 inherited, 6 super, 7 overriding, 8 static with rows that catch), method, kind of the receiver -/
def xcal : List ((Nat × Nat) × Nat × Nat × Nat) := [((0, 50), 0, 121, 2), ((0, 54), 1, 44, 0), ((0, 59), 0, 149, 2), ((0, 63), 2, 37, 0), ((0, 67), 0, 136, 2), ((0, 71), 1, 181, 0), ((0, 76), 0, 176, 2), ((0, 79), 0, 38, 2), ((0, 82), 0, 177, 2), ((0, 85), 0, 84, 2), ((0, 89), 0, 119, 2), ((0, 92), 0, 179, 2), ((0, 95), 0, 186, 2), ((0, 98), 0, 189, 2), ((0, 102), 1, 190, 0), ((1, 17), 3, 0, 2), ((1, 22), 0, 81, 2), ((1, 29), 1, 47, 0), ((2, 19), 0, 15, 19), ((2, 23), 0, 9, 46), ((2, 28), 0, 14, 46), ((3, 11), 3, 2, 19), ((3, 37), 0, 22, 21), ((3, 50), 1, 17, 0), ((3, 61), 2, 18, 0), ((3, 64), 0, 19, 21), ((3, 67), 2, 20, 0), ((3, 70), 0, 21, 21), ((3, 85), 2, 24, 0), ((3, 89), 0, 25, 21), ((3, 93), 0, 26, 21), ((5, 17), 3, 4, 24), ((6, 24), 0, 128, 10), ((6, 37), 0, 129, 10), ((6, 41), 0, 130, 10), ((6, 44), 0, 127, 2), ((6, 51), 0, 38, 2), ((6, 57), 1, 44, 0), ((6, 63), 1, 47, 0), ((6, 66), 2, 37, 0), ((6, 79), 0, 150, 2), ((7, 11), 3, 6, 10), ((7, 22), 0, 131, 10), ((7, 38), 0, 134, 15), ((7, 42), 0, 139, 15), ((7, 49), 1, 44, 0), ((7, 55), 0, 127, 2), ((7, 59), 0, 133, 15), ((7, 68), 0, 132, 10), ((7, 74), 0, 135, 15), ((7, 77), 0, 138, 15), ((7, 81), 0, 38, 2), ((7, 87), 0, 137, 2), ((7, 91), 0, 121, 2), ((7, 97), 0, 146, 15), ((7, 101), 0, 147, 15), ((8, 54), 1, 71, 0), ((8, 335), 0, 8, 46), ((8, 489), 4, 72, 46), ((8, 492), 0, 10, 46), ((8, 495), 1, 13, 0), ((8, 549), 7, 68, 50), ((8, 552), 0, 66, 50), ((8, 1047), 0, 59, 50), ((8, 1059), 1, 11, 0), ((10, 9), 1, 12, 0), ((11, 9), 3, 0, 2), ((11, 18), 4, 1, 17), ((11, 33), 3, 3, 21), ((11, 40), 4, 5, 22), ((11, 47), 3, 7, 15), ((11, 64), 0, 16, 19), ((11, 74), 1, 41, 0), ((11, 93), 0, 78, 19), ((11, 104), 0, 81, 2), ((11, 126), 0, 85, 1), ((11, 160), 0, 120, 1), ((11, 173), 0, 121, 2), ((11, 177), 0, 182, 2), ((11, 181), 0, 38, 2), ((11, 185), 0, 143, 1), ((11, 215), 0, 177, 2), ((11, 224), 0, 158, 10), ((11, 234), 0, 141, 1), ((11, 246), 1, 160, 0), ((11, 249), 0, 146, 15), ((11, 253), 0, 147, 15), ((11, 266), 0, 151, 10), ((11, 270), 0, 145, 15), ((11, 273), 0, 148, 15), ((11, 276), 1, 165, 0), ((11, 279), 0, 166, 1), ((11, 285), 1, 168, 0), ((11, 288), 0, 170, 2), ((11, 291), 0, 140, 15), ((11, 294), 0, 169, 17), ((11, 299), 0, 172, 2), ((11, 304), 0, 174, 2), ((11, 307), 0, 179, 2), ((11, 312), 0, 180, 2), ((11, 317), 0, 184, 2), ((11, 322), 0, 186, 2), ((11, 327), 0, 187, 2), ((11, 330), 0, 193, 2), ((11, 336), 0, 191, 2), ((11, 359), 0, 9, 46), ((11, 365), 0, 14, 46), ((11, 369), 0, 84, 2), ((11, 374), 0, 119, 2), ((11, 387), 0, 131, 10), ((12, 18), 0, 23, 21), ((12, 23), 1, 30, 0), ((12, 29), 1, 33, 0), ((12, 34), 0, 25, 21), ((12, 38), 1, 40, 0), ((12, 52), 0, 27, 21), ((12, 56), 0, 28, 21), ((12, 66), 0, 29, 21), ((12, 74), 0, 31, 2), ((12, 78), 0, 32, 21), ((12, 95), 0, 34, 2), ((12, 110), 1, 35, 0), ((12, 114), 1, 39, 0), ((12, 122), 0, 22, 21), ((12, 128), 0, 36, 21), ((12, 131), 0, 38, 2), ((12, 134), 0, 26, 21), ((13, 8), 0, 9, 46), ((13, 14), 0, 14, 46), ((13, 18), 0, 76, 1), ((13, 24), 1, 77, 0), ((13, 30), 0, 79, 1), ((13, 38), 4, 57, 50), ((13, 41), 1, 43, 0), ((13, 45), 0, 62, 50), ((13, 48), 0, 65, 50), ((13, 53), 0, 54, 50), ((13, 65), 0, 74, 50), ((13, 69), 0, 83, 1), ((13, 72), 0, 117, 1), ((13, 75), 0, 171, 1), ((13, 79), 0, 124, 1), ((13, 82), 0, 173, 1), ((13, 86), 0, 175, 1), ((13, 89), 0, 87, 1), ((13, 93), 0, 178, 1), ((13, 96), 0, 183, 1), ((13, 99), 0, 185, 1), ((13, 102), 0, 122, 1), ((13, 105), 1, 44, 0), ((13, 110), 0, 188, 1), ((13, 113), 0, 192, 1), ((13, 116), 0, 194, 1), ((13, 119), 4, 42, 1), ((13, 120), 1, 75, 0), ((13, 124), 1, 80, 0), ((13, 128), 0, 82, 1), ((13, 133), 4, 97, 27), ((13, 136), 0, 164, 27), ((13, 140), 0, 167, 1), ((13, 143), 0, 126, 27), ((13, 146), 1, 195, 0), ((15, 194), 1, 44, 0), ((16, 32), 0, 9, 46), ((16, 40), 0, 8, 46), ((16, 43), 7, 55, 50), ((16, 83), 0, 59, 50), ((16, 100), 0, 49, 50), ((16, 104), 0, 46, 50), ((16, 108), 1, 48, 0), ((16, 114), 1, 45, 0), ((16, 191), 1, 63, 0), ((16, 208), 0, 52, 50), ((16, 245), 1, 58, 0), ((16, 248), 1, 60, 0), ((16, 397), 0, 50, 50), ((16, 399), 0, 51, 46), ((17, 304), 1, 47, 0), ((17, 339), 1, 70, 0), ((17, 343), 1, 69, 0), ((18, 7), 4, 56, 50), ((18, 23), 0, 54, 50), ((18, 29), 6, 53, 50), ((18, 50), 6, 64, 50), ((18, 53), 6, 61, 50), ((18, 137), 4, 73, 46), ((18, 343), 6, 67, 50), ((20, 17), 0, 83, 1), ((20, 30), 0, 89, 27), ((20, 30), 0, 90, 27), ((20, 30), 0, 91, 27), ((20, 30), 0, 92, 27), ((20, 30), 0, 93, 27), ((20, 30), 0, 94, 27), ((20, 30), 0, 95, 27), ((20, 30), 0, 96, 27), ((20, 34), 0, 88, 1), ((20, 37), 1, 44, 0), ((20, 43), 0, 86, 1), ((20, 46), 0, 87, 1), ((20, 50), 0, 100, 27), ((20, 50), 0, 101, 27), ((20, 50), 0, 102, 27), ((20, 50), 0, 103, 27), ((20, 50), 0, 104, 27), ((20, 50), 0, 105, 27), ((20, 50), 0, 106, 27), ((20, 50), 0, 107, 27), ((20, 53), 1, 47, 0), ((20, 56), 0, 108, 27), ((20, 56), 0, 109, 27), ((20, 56), 0, 110, 27), ((20, 56), 0, 111, 27), ((20, 56), 0, 112, 27), ((20, 56), 0, 113, 27), ((20, 56), 0, 114, 27), ((20, 56), 0, 115, 27), ((20, 60), 0, 118, 27), ((20, 63), 0, 122, 1), ((20, 66), 0, 117, 1), ((20, 69), 0, 123, 27), ((20, 72), 0, 124, 1), ((20, 75), 0, 99, 27), ((20, 78), 0, 116, 27), ((20, 82), 0, 125, 27), ((20, 85), 0, 98, 1), ((20, 88), 0, 126, 27), ((20, 91), 0, 142, 1), ((20, 94), 0, 144, 1), ((20, 97), 0, 152, 1), ((20, 100), 0, 153, 1), ((20, 103), 0, 154, 1), ((20, 106), 0, 155, 1), ((20, 109), 0, 156, 1), ((20, 112), 0, 157, 1), ((20, 115), 0, 159, 1), ((20, 118), 0, 161, 1), ((20, 119), 0, 162, 1), ((20, 122), 0, 163, 1)]
def xcal0 : List ((Nat × Nat) × Nat × Nat × Nat) := xcal.filter (fun q => Nat.beq q.2.1 0)
def xcal1 : List ((Nat × Nat) × Nat × Nat × Nat) := xcal.filter (fun q => Nat.beq q.2.1 1)
def xcal2 : List ((Nat × Nat) × Nat × Nat × Nat) := xcal.filter (fun q => Nat.beq q.2.1 2)
def xcal3 : List ((Nat × Nat) × Nat × Nat × Nat) := xcal.filter (fun q => Nat.beq q.2.1 3)
def xcal4 : List ((Nat × Nat) × Nat × Nat × Nat) := xcal.filter (fun q => Nat.beq q.2.1 4)
def xcal5 : List ((Nat × Nat) × Nat × Nat × Nat) := xcal.filter (fun q => Nat.beq q.2.1 5)
def xcal6 : List ((Nat × Nat) × Nat × Nat × Nat) := xcal.filter (fun q => Nat.beq q.2.1 6)
def xcal7 : List ((Nat × Nat) × Nat × Nat × Nat) := xcal.filter (fun q => Nat.beq q.2.1 7)
def xcal8 : List ((Nat × Nat) × Nat × Nat × Nat) := xcal.filter (fun q => Nat.beq q.2.1 8)
set_option maxRecDepth 100000 in
theorem xcalL0 : ∀ q ∈ xcal0, Cond.methodLink (xcn q.1.1) q.1.2 (xY q.2.2.1) ∈ xwA := xwA_map [644, 823, 640, 1205, 1217, 1218, 1175, 1186, 1224, 1261, 1271, 1169, 345, 297, 307, 358, 368, 379, 395, 404, 585, 593, 601, 589, 597, 819, 581, 608, 622, 612, 613, 617, 626, 632, 630, 636, 648, 811, 807, 301, 311, 1108, 1121, 293, 910, 558, 667, 755, 764, 1225, 695, 790, 1201, 851, 782, 863, 868, 815, 799, 803, 573, 1171, 577, 1165, 1182, 1192, 1213, 1220, 1240, 1251, 1257, 1282, 1267, 402, 403, 671, 759, 794, 354, 428, 391, 408, 412, 420, 424, 433, 444, 446, 450, 457, 885, 889, 880, 890, 1049, 1074, 1088, 1095, 1155, 1156, 1157, 1176, 1177, 1187, 1196, 1197, 1209, 1235, 1244, 1246, 1262, 1278, 487, 769, 565, 714, 927, 930, 983, 955, 959, 1004, 1008, 1031, 944, 655, 659, 659, 659, 659, 659, 659, 659, 659, 696, 663, 691, 726, 726, 726, 726, 726, 726, 726, 726, 731, 731, 731, 731, 731, 731, 731, 731, 747, 751, 739, 743, 765, 718, 722, 735, 773, 777, 778, 786, 795, 827, 831, 835, 839, 843, 847, 855, 864, 869] _ rfl (fun _ => rfl)
set_option maxRecDepth 100000 in
theorem xcalL1 : ∀ q ∈ xcal1, Cond.methodLink (xcn q.1.1) q.1.2 (xY q.2.2.1) ∈ xwA := xwA_map [1255, 1229, 1275, 1170, 362, 598, 605, 631, 1122, 315, 323, 318, 351, 859, 569, 1161, 387, 416, 429, 437, 440, 886, 873, 1245, 914, 877, 1152, 966, 971, 963, 1081, 1056, 1059, 981, 1125, 1128, 700, 730] _ rfl (fun _ => rfl)
set_option maxRecDepth 100000 in
theorem xcalL4 : ∀ q ∈ xcal4, Cond.methodLink (xcn q.1.1) q.1.2 (xY q.2.2.1) ∈ xwA := xwA_map [1104, 130, 212, 920, 57, 651, 923, 1101] _ rfl (fun _ => rfl)
set_option maxRecDepth 100000 in
theorem xcalL6 : ∀ q ∈ xcal6, Cond.methodLink (xcn q.1.1) q.1.2 (xY q.2.2.1) ∈ xwA := xwA_map [948, 1078, 1053, 1119] _ rfl (fun _ => rfl)
set_option maxRecDepth 100000 in
theorem xcalL8 : ∀ q ∈ xcal8, Cond.methodLink (xcn q.1.1) q.1.2 (xY q.2.2.1) ∈ xwA := xwA_map [] _ rfl (fun _ => rfl)
set_option maxRecDepth 100000 in
theorem xcalI0 : ∀ q ∈ xcal0, Cond.instanceMethod (xY q.2.2.1) ∈ xwA := xwA_map [645, 824, 641, 1207, 451, 1202, 672, 760, 1214, 1252, 1273, 559, 346, 298, 308, 359, 370, 381, 396, 405, 587, 595, 603, 590, 451, 820, 582, 610, 624, 590, 615, 618, 628, 634, 451, 637, 645, 812, 808, 302, 312, 1109, 984, 294, 911, 559, 669, 757, 645, 1226, 451, 792, 1202, 852, 784, 812, 808, 816, 800, 804, 575, 1172, 578, 1166, 1183, 1193, 1214, 1221, 1241, 1252, 1258, 1283, 1268, 298, 308, 672, 760, 582, 355, 396, 392, 409, 413, 421, 425, 434, 359, 447, 451, 405, 298, 308, 881, 891, 1050, 1075, 945, 1096, 656, 740, 1158, 766, 1178, 1188, 692, 1198, 1210, 1236, 752, 1247, 1263, 1279, 488, 770, 566, 715, 298, 302, 984, 957, 961, 1006, 1010, 1032, 945, 656, 660, 660, 660, 660, 660, 660, 660, 660, 697, 664, 692, 727, 727, 727, 727, 727, 727, 727, 727, 732, 732, 732, 732, 732, 732, 732, 732, 748, 752, 740, 744, 766, 719, 723, 736, 774, 715, 779, 787, 796, 828, 832, 836, 840, 844, 848, 856, 865, 870] _ rfl (fun _ => rfl)
set_option maxRecDepth 100000 in
theorem xcalI3 : ∀ q ∈ xcal3, Cond.instanceMethod (xY q.2.2.1) ∈ xwA := xwA_map [66, 157, 220, 252, 66, 151, 246] _ rfl (fun _ => rfl)
set_option maxRecDepth 100000 in
theorem xcalI4 : ∀ q ∈ xcal4, Cond.instanceMethod (xY q.2.2.1) ∈ xwA := xwA_map [1105, 131, 213, 921, 58, 652, 924, 1102] _ rfl (fun _ => rfl)
set_option maxRecDepth 100000 in
theorem xcalI5 : ∀ q ∈ xcal5, Cond.instanceMethod (xY q.2.2.1) ∈ xwA := xwA_map [] _ rfl (fun _ => rfl)
set_option maxRecDepth 100000 in
theorem xcalI6 : ∀ q ∈ xcal6, Cond.instanceMethod (xY q.2.2.1) ∈ xwA := xwA_map [939, 1079, 1054, 1114] _ rfl (fun _ => rfl)
set_option maxRecDepth 100000 in
theorem xcalI7 : ∀ q ∈ xcal7, Cond.instanceMethod (xY q.2.2.1) ∈ xwA := xwA_map [1117, 942] _ rfl (fun _ => rfl)
set_option maxRecDepth 100000 in
theorem xcalS1 : ∀ q ∈ xcal1, Cond.static (xY q.2.2.1) ∈ xwA := xwA_map [599, 1230, 1276, 606, 363, 599, 606, 599, 1123, 316, 324, 319, 352, 860, 570, 1162, 388, 417, 430, 438, 441, 887, 874, 599, 915, 878, 1153, 599, 972, 964, 1082, 1057, 1060, 606, 1126, 1129, 599, 606] _ rfl (fun _ => rfl)
set_option maxRecDepth 100000 in
theorem xcalS2 : ∀ q ∈ xcal2, Cond.static (xY q.2.2.1) ∈ xwA := xwA_map [455, 366, 377, 400, 455] _ rfl (fun _ => rfl)
set_option maxRecDepth 100000 in
theorem xcalS8 : ∀ q ∈ xcal8, Cond.static (xY q.2.2.1) ∈ xwA := xwA_map [] _ rfl (fun _ => rfl)
set_option maxRecDepth 100000 in
theorem xcalV0 : ∀ q ∈ xcal0, Cond.selects (xcl q.2.2.2) (xY q.2.2.1) (xY q.2.2.1) ∈ xwA := xwA_map [646, 825, 642, 20, 452, 1203, 673, 761, 1215, 1253, 21, 560, 347, 299, 309, 360, 4, 5, 397, 406, 8, 9, 10, 591, 452, 821, 583, 11, 13, 591, 12, 619, 14, 15, 452, 638, 646, 813, 809, 303, 313, 1111, 986, 295, 912, 560, 16, 17, 646, 1227, 452, 19, 1203, 853, 18, 813, 809, 817, 801, 805, 7, 1173, 579, 1167, 1184, 1194, 1215, 1222, 1242, 1253, 1259, 1284, 1269, 299, 309, 673, 761, 583, 356, 397, 393, 410, 414, 422, 426, 435, 360, 448, 452, 406, 299, 309, 882, 892, 1051, 1076, 946, 1097, 657, 741, 1159, 767, 1179, 1189, 693, 1199, 1211, 1237, 753, 1248, 1264, 1280, 489, 771, 567, 716, 299, 303, 986, 0, 1, 2, 3, 1033, 946, 657, 661, 661, 661, 661, 661, 661, 661, 661, 698, 665, 693, 728, 728, 728, 728, 728, 728, 728, 728, 733, 733, 733, 733, 733, 733, 733, 733, 749, 753, 741, 745, 767, 720, 724, 737, 775, 716, 780, 788, 797, 829, 833, 837, 841, 845, 849, 857, 866, 871] _ rfl (fun _ => rfl)
set_option maxRecDepth 100000 in
theorem xcalP6 : ∀ q ∈ xcal6, Cond.superclass (xcn q.1.1) (xY q.2.2.1).cls ∈ xwA := xwA_map [949, 949, 949, 949] _ rfl (fun _ => rfl)
set_option maxRecDepth 100000 in
theorem xcalM6 : ∀ q ∈ xcal6, Cond.sameMethod (xY q.2.2.1).cls (xY q.2.2.1).cls (xY q.2.2.1).name (xY q.2.2.1).desc ∈ xwA := xwA_map [940, 1294, 1293, 1115] _ rfl (fun _ => rfl)
