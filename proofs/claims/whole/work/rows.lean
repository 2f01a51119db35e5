section
-- ===== PART A: goes FIRST, ahead of the names: the tables' words, and 'selects' of the private methods out of them =====
/-- a private method of a class that the tables say can be made, by its rows of tables_1 -/
def lw_okq (q : MethodName × Nat) : Prop := (q.1.cls ≠ "java/lang/invoke/MethodHandle" ∧ q.1.cls ≠ "java/lang/invoke/VarHandle") ∧ Cond.instantiable q.1.cls q.2 ∈ tables_1 ∧ Cond.privateMethod q.1 ∈ tables_1 ∧ Cond.instanceMethod q.1 ∈ tables_1
theorem lw_p0 : lw_okq (⟨"ProjectPlanner$Tokens", "scanWord", "()V"⟩, 10) := ⟨⟨by decide +kernel, by decide +kernel⟩, List.mem_of_getElem? (i := 133) (by decide +kernel), List.mem_of_getElem? (i := 367) (by decide +kernel), List.mem_of_getElem? (i := 368) (by decide +kernel)⟩
theorem lw_p1 : lw_okq (⟨"ProjectPlanner$Tokens", "scanNumber", "()V"⟩, 10) := ⟨⟨by decide +kernel, by decide +kernel⟩, List.mem_of_getElem? (i := 133) (by decide +kernel), List.mem_of_getElem? (i := 378) (by decide +kernel), List.mem_of_getElem? (i := 379) (by decide +kernel)⟩
theorem lw_p2 : lw_okq (⟨"ProjectPlanner", "currentDates", "()LProjectPlanner$Dates;"⟩, 9) := ⟨⟨by decide +kernel, by decide +kernel⟩, List.mem_of_getElem? (i := 36) (by decide +kernel), List.mem_of_getElem? (i := 524) (by decide +kernel), List.mem_of_getElem? (i := 525) (by decide +kernel)⟩
theorem lw_p3 : lw_okq (⟨"ProjectPlanner$Dates", "sortTasks", "(LProjectPlanner$Plan;)V"⟩, 5) := ⟨⟨by decide +kernel, by decide +kernel⟩, List.mem_of_getElem? (i := 246) (by decide +kernel), List.mem_of_getElem? (i := 532) (by decide +kernel), List.mem_of_getElem? (i := 533) (by decide +kernel)⟩
theorem lw_p4 : lw_okq (⟨"ProjectPlanner$Dates", "findEarliest", "(LProjectPlanner$Plan;I)V"⟩, 5) := ⟨⟨by decide +kernel, by decide +kernel⟩, List.mem_of_getElem? (i := 246) (by decide +kernel), List.mem_of_getElem? (i := 540) (by decide +kernel), List.mem_of_getElem? (i := 541) (by decide +kernel)⟩
theorem lw_p5 : lw_okq (⟨"ProjectPlanner$Dates", "findLatest", "(LProjectPlanner$Plan;I)V"⟩, 5) := ⟨⟨by decide +kernel, by decide +kernel⟩, List.mem_of_getElem? (i := 246) (by decide +kernel), List.mem_of_getElem? (i := 548) (by decide +kernel), List.mem_of_getElem? (i := 549) (by decide +kernel)⟩
theorem lw_p6 : lw_okq (⟨"ProjectPlanner", "currentSchedule", "()LProjectPlanner$Schedule;"⟩, 9) := ⟨⟨by decide +kernel, by decide +kernel⟩, List.mem_of_getElem? (i := 36) (by decide +kernel), List.mem_of_getElem? (i := 567) (by decide +kernel), List.mem_of_getElem? (i := 568) (by decide +kernel)⟩
theorem lw_p7 : lw_okq (⟨"ProjectPlanner$Schedule", "bestReady", "(LProjectPlanner$Plan;)I"⟩, 4) := ⟨⟨by decide +kernel, by decide +kernel⟩, List.mem_of_getElem? (i := 240) (by decide +kernel), List.mem_of_getElem? (i := 576) (by decide +kernel), List.mem_of_getElem? (i := 577) (by decide +kernel)⟩
theorem lw_p8 : lw_okq (⟨"ProjectPlanner$Schedule", "rankOf", "(LProjectPlanner$Plan;I)I"⟩, 4) := ⟨⟨by decide +kernel, by decide +kernel⟩, List.mem_of_getElem? (i := 240) (by decide +kernel), List.mem_of_getElem? (i := 581) (by decide +kernel), List.mem_of_getElem? (i := 582) (by decide +kernel)⟩
theorem lw_p9 : lw_okq (⟨"ProjectPlanner$Schedule", "firstFreeDay", "(LProjectPlanner$Plan;I)I"⟩, 4) := ⟨⟨by decide +kernel, by decide +kernel⟩, List.mem_of_getElem? (i := 240) (by decide +kernel), List.mem_of_getElem? (i := 590) (by decide +kernel), List.mem_of_getElem? (i := 591) (by decide +kernel)⟩
theorem lw_p10 : lw_okq (⟨"ProjectPlanner$Schedule", "predecessorsFinish", "(LProjectPlanner$Plan;I)I"⟩, 4) := ⟨⟨by decide +kernel, by decide +kernel⟩, List.mem_of_getElem? (i := 240) (by decide +kernel), List.mem_of_getElem? (i := 594) (by decide +kernel), List.mem_of_getElem? (i := 595) (by decide +kernel)⟩
theorem lw_p11 : lw_okq (⟨"ProjectPlanner$Schedule", "hasRoomOn", "(LProjectPlanner$Plan;II)Z"⟩, 4) := ⟨⟨by decide +kernel, by decide +kernel⟩, List.mem_of_getElem? (i := 240) (by decide +kernel), List.mem_of_getElem? (i := 600) (by decide +kernel), List.mem_of_getElem? (i := 601) (by decide +kernel)⟩
theorem lw_p12 : lw_okq (⟨"ProjectPlanner", "lengthWithRule", "(I)I"⟩, 9) := ⟨⟨by decide +kernel, by decide +kernel⟩, List.mem_of_getElem? (i := 36) (by decide +kernel), List.mem_of_getElem? (i := 661) (by decide +kernel), List.mem_of_getElem? (i := 662) (by decide +kernel)⟩
theorem lw_p13 : lw_okq (⟨"ProjectPlanner", "lengthWithMore", "(I)I"⟩, 9) := ⟨⟨by decide +kernel, by decide +kernel⟩, List.mem_of_getElem? (i := 36) (by decide +kernel), List.mem_of_getElem? (i := 676) (by decide +kernel), List.mem_of_getElem? (i := 677) (by decide +kernel)⟩
theorem lw_p14 : lw_okq (⟨"ProjectPlanner$Schedule", "writeTask", "(LProjectPlanner$Plan;ILjava/lang/StringBuilder;)V"⟩, 4) := ⟨⟨by decide +kernel, by decide +kernel⟩, List.mem_of_getElem? (i := 240) (by decide +kernel), List.mem_of_getElem? (i := 718) (by decide +kernel), List.mem_of_getElem? (i := 719) (by decide +kernel)⟩
theorem lw_p15 : lw_okq (⟨"java/lang/Throwable", "fillInStackTrace", "(I)Ljava/lang/Throwable;"⟩, 6) := ⟨⟨by decide +kernel, by decide +kernel⟩, List.mem_of_getElem? (i := 905) (by decide +kernel), List.mem_of_getElem? (i := 903) (by decide +kernel), List.mem_of_getElem? (i := 904) (by decide +kernel)⟩
def lw_privs_1 : List (MethodName × Nat) := [(⟨"ProjectPlanner$Tokens", "scanWord", "()V"⟩, 10), (⟨"ProjectPlanner$Tokens", "scanNumber", "()V"⟩, 10), (⟨"ProjectPlanner", "currentDates", "()LProjectPlanner$Dates;"⟩, 9), (⟨"ProjectPlanner$Dates", "sortTasks", "(LProjectPlanner$Plan;)V"⟩, 5), (⟨"ProjectPlanner$Dates", "findEarliest", "(LProjectPlanner$Plan;I)V"⟩, 5), (⟨"ProjectPlanner$Dates", "findLatest", "(LProjectPlanner$Plan;I)V"⟩, 5), (⟨"ProjectPlanner", "currentSchedule", "()LProjectPlanner$Schedule;"⟩, 9), (⟨"ProjectPlanner$Schedule", "bestReady", "(LProjectPlanner$Plan;)I"⟩, 4), (⟨"ProjectPlanner$Schedule", "rankOf", "(LProjectPlanner$Plan;I)I"⟩, 4), (⟨"ProjectPlanner$Schedule", "firstFreeDay", "(LProjectPlanner$Plan;I)I"⟩, 4), (⟨"ProjectPlanner$Schedule", "predecessorsFinish", "(LProjectPlanner$Plan;I)I"⟩, 4), (⟨"ProjectPlanner$Schedule", "hasRoomOn", "(LProjectPlanner$Plan;II)Z"⟩, 4), (⟨"ProjectPlanner", "lengthWithRule", "(I)I"⟩, 9), (⟨"ProjectPlanner", "lengthWithMore", "(I)I"⟩, 9), (⟨"ProjectPlanner$Schedule", "writeTask", "(LProjectPlanner$Plan;ILjava/lang/StringBuilder;)V"⟩, 4), (⟨"java/lang/Throwable", "fillInStackTrace", "(I)Ljava/lang/Throwable;"⟩, 6)]
theorem lw_r1 : ∀ q ∈ lw_privs_1, lw_okq q := List.forall_mem_cons.mpr ⟨lw_p0, List.forall_mem_cons.mpr ⟨lw_p1, List.forall_mem_cons.mpr ⟨lw_p2, List.forall_mem_cons.mpr ⟨lw_p3, List.forall_mem_cons.mpr ⟨lw_p4, List.forall_mem_cons.mpr ⟨lw_p5, List.forall_mem_cons.mpr ⟨lw_p6, List.forall_mem_cons.mpr ⟨lw_p7, List.forall_mem_cons.mpr ⟨lw_p8, List.forall_mem_cons.mpr ⟨lw_p9, List.forall_mem_cons.mpr ⟨lw_p10, List.forall_mem_cons.mpr ⟨lw_p11, List.forall_mem_cons.mpr ⟨lw_p12, List.forall_mem_cons.mpr ⟨lw_p13, List.forall_mem_cons.mpr ⟨lw_p14, List.forall_mem_cons.mpr ⟨lw_p15, fun _ h => absurd h List.not_mem_nil⟩⟩⟩⟩⟩⟩⟩⟩⟩⟩⟩⟩⟩⟩⟩⟩
theorem lw_p16 : lw_okq (⟨"ProjectPlanner", "requireTask", "(I)V"⟩, 9) := ⟨⟨by decide +kernel, by decide +kernel⟩, List.mem_of_getElem? (i := 36) (by decide +kernel), List.mem_of_getElem? (i := 1044) (by decide +kernel), List.mem_of_getElem? (i := 1045) (by decide +kernel)⟩
theorem lw_p17 : lw_okq (⟨"ProjectPlanner", "requireResource", "(I)V"⟩, 9) := ⟨⟨by decide +kernel, by decide +kernel⟩, List.mem_of_getElem? (i := 36) (by decide +kernel), List.mem_of_getElem? (i := 1116) (by decide +kernel), List.mem_of_getElem? (i := 1117) (by decide +kernel)⟩
theorem lw_p18 : lw_okq (⟨"ProjectPlanner$Plan", "predecessorsOf", "(I)I"⟩, 10) := ⟨⟨by decide +kernel, by decide +kernel⟩, List.mem_of_getElem? (i := 44) (by decide +kernel), List.mem_of_getElem? (i := 1198) (by decide +kernel), List.mem_of_getElem? (i := 1199) (by decide +kernel)⟩
theorem lw_p19 : lw_okq (⟨"ProjectPlanner$Plan", "moveTask", "(II)V"⟩, 10) := ⟨⟨by decide +kernel, by decide +kernel⟩, List.mem_of_getElem? (i := 44) (by decide +kernel), List.mem_of_getElem? (i := 1473) (by decide +kernel), List.mem_of_getElem? (i := 1474) (by decide +kernel)⟩
theorem lw_p20 : lw_okq (⟨"ProjectPlanner$Script", "readCommand", "(LProjectPlanner$Tokens;LProjectPlanner$Plan;)Z"⟩, 2) := ⟨⟨by decide +kernel, by decide +kernel⟩, List.mem_of_getElem? (i := 201) (by decide +kernel), List.mem_of_getElem? (i := 1493) (by decide +kernel), List.mem_of_getElem? (i := 1494) (by decide +kernel)⟩
theorem lw_p21 : lw_okq (⟨"ProjectPlannerModel", "begin", "()V"⟩, 22) := ⟨⟨by decide +kernel, by decide +kernel⟩, List.mem_of_getElem? (i := 1587) (by decide +kernel), List.mem_of_getElem? (i := 1596) (by decide +kernel), List.mem_of_getElem? (i := 1597) (by decide +kernel)⟩
theorem lw_p22 : lw_okq (⟨"ProjectPlannerModel", "token", "()V"⟩, 22) := ⟨⟨by decide +kernel, by decide +kernel⟩, List.mem_of_getElem? (i := 1587) (by decide +kernel), List.mem_of_getElem? (i := 1600) (by decide +kernel), List.mem_of_getElem? (i := 1601) (by decide +kernel)⟩
theorem lw_p23 : lw_okq (⟨"ProjectPlannerModel", "parseSetup", "()Z"⟩, 22) := ⟨⟨by decide +kernel, by decide +kernel⟩, List.mem_of_getElem? (i := 1587) (by decide +kernel), List.mem_of_getElem? (i := 1610) (by decide +kernel), List.mem_of_getElem? (i := 1611) (by decide +kernel)⟩
theorem lw_p24 : lw_okq (⟨"ProjectPlannerModel", "isWord", "(Ljava/lang/String;)Z"⟩, 22) := ⟨⟨by decide +kernel, by decide +kernel⟩, List.mem_of_getElem? (i := 1587) (by decide +kernel), List.mem_of_getElem? (i := 1615) (by decide +kernel), List.mem_of_getElem? (i := 1616) (by decide +kernel)⟩
theorem lw_p25 : lw_okq (⟨"ProjectPlannerModel", "wrong", "(I)Z"⟩, 22) := ⟨⟨by decide +kernel, by decide +kernel⟩, List.mem_of_getElem? (i := 1587) (by decide +kernel), List.mem_of_getElem? (i := 1619) (by decide +kernel), List.mem_of_getElem? (i := 1620) (by decide +kernel)⟩
theorem lw_p26 : lw_okq (⟨"ProjectPlannerModel", "parseRanged", "(III)Z"⟩, 22) := ⟨⟨by decide +kernel, by decide +kernel⟩, List.mem_of_getElem? (i := 1587) (by decide +kernel), List.mem_of_getElem? (i := 1623) (by decide +kernel), List.mem_of_getElem? (i := 1624) (by decide +kernel)⟩
theorem lw_p27 : lw_okq (⟨"ProjectPlannerModel", "semicolon", "()Z"⟩, 22) := ⟨⟨by decide +kernel, by decide +kernel⟩, List.mem_of_getElem? (i := 1587) (by decide +kernel), List.mem_of_getElem? (i := 1630) (by decide +kernel), List.mem_of_getElem? (i := 1631) (by decide +kernel)⟩
theorem lw_p28 : lw_okq (⟨"ProjectPlannerModel", "parseNewResource", "()Z"⟩, 22) := ⟨⟨by decide +kernel, by decide +kernel⟩, List.mem_of_getElem? (i := 1587) (by decide +kernel), List.mem_of_getElem? (i := 1635) (by decide +kernel), List.mem_of_getElem? (i := 1636) (by decide +kernel)⟩
theorem lw_p29 : lw_okq (⟨"ProjectPlannerModel", "isShortWord", "()Z"⟩, 22) := ⟨⟨by decide +kernel, by decide +kernel⟩, List.mem_of_getElem? (i := 1587) (by decide +kernel), List.mem_of_getElem? (i := 1639) (by decide +kernel), List.mem_of_getElem? (i := 1640) (by decide +kernel)⟩
theorem lw_p30 : lw_okq (⟨"ProjectPlannerModel", "resourceNamed", "(II)I"⟩, 22) := ⟨⟨by decide +kernel, by decide +kernel⟩, List.mem_of_getElem? (i := 1587) (by decide +kernel), List.mem_of_getElem? (i := 1643) (by decide +kernel), List.mem_of_getElem? (i := 1644) (by decide +kernel)⟩
theorem lw_p31 : lw_okq (⟨"ProjectPlannerModel", "isNamed", "(III)Z"⟩, 22) := ⟨⟨by decide +kernel, by decide +kernel⟩, List.mem_of_getElem? (i := 1587) (by decide +kernel), List.mem_of_getElem? (i := 1647) (by decide +kernel), List.mem_of_getElem? (i := 1648) (by decide +kernel)⟩
def lw_privs_2 : List (MethodName × Nat) := [(⟨"ProjectPlanner", "requireTask", "(I)V"⟩, 9), (⟨"ProjectPlanner", "requireResource", "(I)V"⟩, 9), (⟨"ProjectPlanner$Plan", "predecessorsOf", "(I)I"⟩, 10), (⟨"ProjectPlanner$Plan", "moveTask", "(II)V"⟩, 10), (⟨"ProjectPlanner$Script", "readCommand", "(LProjectPlanner$Tokens;LProjectPlanner$Plan;)Z"⟩, 2), (⟨"ProjectPlannerModel", "begin", "()V"⟩, 22), (⟨"ProjectPlannerModel", "token", "()V"⟩, 22), (⟨"ProjectPlannerModel", "parseSetup", "()Z"⟩, 22), (⟨"ProjectPlannerModel", "isWord", "(Ljava/lang/String;)Z"⟩, 22), (⟨"ProjectPlannerModel", "wrong", "(I)Z"⟩, 22), (⟨"ProjectPlannerModel", "parseRanged", "(III)Z"⟩, 22), (⟨"ProjectPlannerModel", "semicolon", "()Z"⟩, 22), (⟨"ProjectPlannerModel", "parseNewResource", "()Z"⟩, 22), (⟨"ProjectPlannerModel", "isShortWord", "()Z"⟩, 22), (⟨"ProjectPlannerModel", "resourceNamed", "(II)I"⟩, 22), (⟨"ProjectPlannerModel", "isNamed", "(III)Z"⟩, 22)]
theorem lw_r2 : ∀ q ∈ lw_privs_2, lw_okq q := List.forall_mem_cons.mpr ⟨lw_p16, List.forall_mem_cons.mpr ⟨lw_p17, List.forall_mem_cons.mpr ⟨lw_p18, List.forall_mem_cons.mpr ⟨lw_p19, List.forall_mem_cons.mpr ⟨lw_p20, List.forall_mem_cons.mpr ⟨lw_p21, List.forall_mem_cons.mpr ⟨lw_p22, List.forall_mem_cons.mpr ⟨lw_p23, List.forall_mem_cons.mpr ⟨lw_p24, List.forall_mem_cons.mpr ⟨lw_p25, List.forall_mem_cons.mpr ⟨lw_p26, List.forall_mem_cons.mpr ⟨lw_p27, List.forall_mem_cons.mpr ⟨lw_p28, List.forall_mem_cons.mpr ⟨lw_p29, List.forall_mem_cons.mpr ⟨lw_p30, List.forall_mem_cons.mpr ⟨lw_p31, fun _ h => absurd h List.not_mem_nil⟩⟩⟩⟩⟩⟩⟩⟩⟩⟩⟩⟩⟩⟩⟩⟩
theorem lw_p32 : lw_okq (⟨"ProjectPlannerModel", "putName", "(I)V"⟩, 22) := ⟨⟨by decide +kernel, by decide +kernel⟩, List.mem_of_getElem? (i := 1587) (by decide +kernel), List.mem_of_getElem? (i := 1651) (by decide +kernel), List.mem_of_getElem? (i := 1652) (by decide +kernel)⟩
theorem lw_p33 : lw_okq (⟨"ProjectPlannerModel", "parseNewTask", "()Z"⟩, 22) := ⟨⟨by decide +kernel, by decide +kernel⟩, List.mem_of_getElem? (i := 1587) (by decide +kernel), List.mem_of_getElem? (i := 1656) (by decide +kernel), List.mem_of_getElem? (i := 1657) (by decide +kernel)⟩
theorem lw_p34 : lw_okq (⟨"ProjectPlannerModel", "taskNamed", "(II)I"⟩, 22) := ⟨⟨by decide +kernel, by decide +kernel⟩, List.mem_of_getElem? (i := 1587) (by decide +kernel), List.mem_of_getElem? (i := 1660) (by decide +kernel), List.mem_of_getElem? (i := 1661) (by decide +kernel)⟩
theorem lw_p35 : lw_okq (⟨"ProjectPlannerModel", "capacityOf", "(I)I"⟩, 22) := ⟨⟨by decide +kernel, by decide +kernel⟩, List.mem_of_getElem? (i := 1587) (by decide +kernel), List.mem_of_getElem? (i := 1664) (by decide +kernel), List.mem_of_getElem? (i := 1665) (by decide +kernel)⟩
theorem lw_p36 : lw_okq (⟨"ProjectPlannerModel", "parsePredecessor", "(I)Z"⟩, 22) := ⟨⟨by decide +kernel, by decide +kernel⟩, List.mem_of_getElem? (i := 1587) (by decide +kernel), List.mem_of_getElem? (i := 1669) (by decide +kernel), List.mem_of_getElem? (i := 1670) (by decide +kernel)⟩
theorem lw_p37 : lw_okq (⟨"ProjectPlannerModel", "isLink", "(II)Z"⟩, 22) := ⟨⟨by decide +kernel, by decide +kernel⟩, List.mem_of_getElem? (i := 1587) (by decide +kernel), List.mem_of_getElem? (i := 1673) (by decide +kernel), List.mem_of_getElem? (i := 1674) (by decide +kernel)⟩
theorem lw_p38 : lw_okq (⟨"ProjectPlannerModel", "setLink", "(III)V"⟩, 22) := ⟨⟨by decide +kernel, by decide +kernel⟩, List.mem_of_getElem? (i := 1587) (by decide +kernel), List.mem_of_getElem? (i := 1677) (by decide +kernel), List.mem_of_getElem? (i := 1678) (by decide +kernel)⟩
theorem lw_p39 : lw_okq (⟨"ProjectPlannerModel", "fails", "(ZZZ)Z"⟩, 22) := ⟨⟨by decide +kernel, by decide +kernel⟩, List.mem_of_getElem? (i := 1587) (by decide +kernel), List.mem_of_getElem? (i := 1752) (by decide +kernel), List.mem_of_getElem? (i := 1753) (by decide +kernel)⟩
theorem lw_p40 : lw_okq (⟨"ProjectPlannerModel", "appendWord", "(I)V"⟩, 22) := ⟨⟨by decide +kernel, by decide +kernel⟩, List.mem_of_getElem? (i := 1587) (by decide +kernel), List.mem_of_getElem? (i := 1756) (by decide +kernel), List.mem_of_getElem? (i := 1757) (by decide +kernel)⟩
theorem lw_p41 : lw_okq (⟨"ProjectPlannerModel", "copyBlock", "(II)V"⟩, 22) := ⟨⟨by decide +kernel, by decide +kernel⟩, List.mem_of_getElem? (i := 1587) (by decide +kernel), List.mem_of_getElem? (i := 1768) (by decide +kernel), List.mem_of_getElem? (i := 1769) (by decide +kernel)⟩
theorem lw_p42 : lw_okq (⟨"ProjectPlannerModel", "parseScript", "()I"⟩, 22) := ⟨⟨by decide +kernel, by decide +kernel⟩, List.mem_of_getElem? (i := 1587) (by decide +kernel), List.mem_of_getElem? (i := 1776) (by decide +kernel), List.mem_of_getElem? (i := 1777) (by decide +kernel)⟩
theorem lw_p43 : lw_okq (⟨"ProjectPlannerModel", "commandHere", "()I"⟩, 22) := ⟨⟨by decide +kernel, by decide +kernel⟩, List.mem_of_getElem? (i := 1587) (by decide +kernel), List.mem_of_getElem? (i := 1780) (by decide +kernel), List.mem_of_getElem? (i := 1781) (by decide +kernel)⟩
theorem lw_p44 : lw_okq (⟨"ProjectPlannerModel", "parseArguments", "(II)Z"⟩, 22) := ⟨⟨by decide +kernel, by decide +kernel⟩, List.mem_of_getElem? (i := 1587) (by decide +kernel), List.mem_of_getElem? (i := 1795) (by decide +kernel), List.mem_of_getElem? (i := 1796) (by decide +kernel)⟩
theorem lw_p45 : lw_okq (⟨"ProjectPlannerModel", "parseName", "(IZ)Z"⟩, 22) := ⟨⟨by decide +kernel, by decide +kernel⟩, List.mem_of_getElem? (i := 1587) (by decide +kernel), List.mem_of_getElem? (i := 1799) (by decide +kernel), List.mem_of_getElem? (i := 1800) (by decide +kernel)⟩
theorem lw_p46 : lw_okq (⟨"ProjectPlannerModel", "parseNumber", "(I)Z"⟩, 22) := ⟨⟨by decide +kernel, by decide +kernel⟩, List.mem_of_getElem? (i := 1587) (by decide +kernel), List.mem_of_getElem? (i := 1803) (by decide +kernel), List.mem_of_getElem? (i := 1804) (by decide +kernel)⟩
theorem lw_p47 : lw_okq (⟨"ProjectPlannerModel", "remember", "(I)V"⟩, 22) := ⟨⟨by decide +kernel, by decide +kernel⟩, List.mem_of_getElem? (i := 1587) (by decide +kernel), List.mem_of_getElem? (i := 1807) (by decide +kernel), List.mem_of_getElem? (i := 1808) (by decide +kernel)⟩
def lw_privs_3 : List (MethodName × Nat) := [(⟨"ProjectPlannerModel", "putName", "(I)V"⟩, 22), (⟨"ProjectPlannerModel", "parseNewTask", "()Z"⟩, 22), (⟨"ProjectPlannerModel", "taskNamed", "(II)I"⟩, 22), (⟨"ProjectPlannerModel", "capacityOf", "(I)I"⟩, 22), (⟨"ProjectPlannerModel", "parsePredecessor", "(I)Z"⟩, 22), (⟨"ProjectPlannerModel", "isLink", "(II)Z"⟩, 22), (⟨"ProjectPlannerModel", "setLink", "(III)V"⟩, 22), (⟨"ProjectPlannerModel", "fails", "(ZZZ)Z"⟩, 22), (⟨"ProjectPlannerModel", "appendWord", "(I)V"⟩, 22), (⟨"ProjectPlannerModel", "copyBlock", "(II)V"⟩, 22), (⟨"ProjectPlannerModel", "parseScript", "()I"⟩, 22), (⟨"ProjectPlannerModel", "commandHere", "()I"⟩, 22), (⟨"ProjectPlannerModel", "parseArguments", "(II)Z"⟩, 22), (⟨"ProjectPlannerModel", "parseName", "(IZ)Z"⟩, 22), (⟨"ProjectPlannerModel", "parseNumber", "(I)Z"⟩, 22), (⟨"ProjectPlannerModel", "remember", "(I)V"⟩, 22)]
theorem lw_r3 : ∀ q ∈ lw_privs_3, lw_okq q := List.forall_mem_cons.mpr ⟨lw_p32, List.forall_mem_cons.mpr ⟨lw_p33, List.forall_mem_cons.mpr ⟨lw_p34, List.forall_mem_cons.mpr ⟨lw_p35, List.forall_mem_cons.mpr ⟨lw_p36, List.forall_mem_cons.mpr ⟨lw_p37, List.forall_mem_cons.mpr ⟨lw_p38, List.forall_mem_cons.mpr ⟨lw_p39, List.forall_mem_cons.mpr ⟨lw_p40, List.forall_mem_cons.mpr ⟨lw_p41, List.forall_mem_cons.mpr ⟨lw_p42, List.forall_mem_cons.mpr ⟨lw_p43, List.forall_mem_cons.mpr ⟨lw_p44, List.forall_mem_cons.mpr ⟨lw_p45, List.forall_mem_cons.mpr ⟨lw_p46, List.forall_mem_cons.mpr ⟨lw_p47, fun _ h => absurd h List.not_mem_nil⟩⟩⟩⟩⟩⟩⟩⟩⟩⟩⟩⟩⟩⟩⟩⟩
theorem lw_p48 : lw_okq (⟨"ProjectPlannerModel", "carryOut", "(I)Z"⟩, 22) := ⟨⟨by decide +kernel, by decide +kernel⟩, List.mem_of_getElem? (i := 1587) (by decide +kernel), List.mem_of_getElem? (i := 1811) (by decide +kernel), List.mem_of_getElem? (i := 1812) (by decide +kernel)⟩
theorem lw_p49 : lw_okq (⟨"ProjectPlannerModel", "setIf", "(ZIII)Z"⟩, 22) := ⟨⟨by decide +kernel, by decide +kernel⟩, List.mem_of_getElem? (i := 1587) (by decide +kernel), List.mem_of_getElem? (i := 1815) (by decide +kernel), List.mem_of_getElem? (i := 1816) (by decide +kernel)⟩
theorem lw_p50 : lw_okq (⟨"ProjectPlannerModel", "set", "(III)V"⟩, 22) := ⟨⟨by decide +kernel, by decide +kernel⟩, List.mem_of_getElem? (i := 1587) (by decide +kernel), List.mem_of_getElem? (i := 1819) (by decide +kernel), List.mem_of_getElem? (i := 1820) (by decide +kernel)⟩
theorem lw_p51 : lw_okq (⟨"ProjectPlannerModel", "canLink", "(II)Z"⟩, 22) := ⟨⟨by decide +kernel, by decide +kernel⟩, List.mem_of_getElem? (i := 1587) (by decide +kernel), List.mem_of_getElem? (i := 1823) (by decide +kernel), List.mem_of_getElem? (i := 1824) (by decide +kernel)⟩
theorem lw_p52 : lw_okq (⟨"ProjectPlannerModel", "cycleLength", "(II)I"⟩, 22) := ⟨⟨by decide +kernel, by decide +kernel⟩, List.mem_of_getElem? (i := 1587) (by decide +kernel), List.mem_of_getElem? (i := 1827) (by decide +kernel), List.mem_of_getElem? (i := 1828) (by decide +kernel)⟩
theorem lw_p53 : lw_okq (⟨"ProjectPlannerModel", "walkFrom", "(I)V"⟩, 22) := ⟨⟨by decide +kernel, by decide +kernel⟩, List.mem_of_getElem? (i := 1587) (by decide +kernel), List.mem_of_getElem? (i := 1831) (by decide +kernel), List.mem_of_getElem? (i := 1832) (by decide +kernel)⟩
theorem lw_p54 : lw_okq (⟨"ProjectPlannerModel", "linkIf", "(ZIII)Z"⟩, 22) := ⟨⟨by decide +kernel, by decide +kernel⟩, List.mem_of_getElem? (i := 1587) (by decide +kernel), List.mem_of_getElem? (i := 1835) (by decide +kernel), List.mem_of_getElem? (i := 1836) (by decide +kernel)⟩
theorem lw_p55 : lw_okq (⟨"ProjectPlannerModel", "canHaveCapacity", "(II)Z"⟩, 22) := ⟨⟨by decide +kernel, by decide +kernel⟩, List.mem_of_getElem? (i := 1587) (by decide +kernel), List.mem_of_getElem? (i := 1839) (by decide +kernel), List.mem_of_getElem? (i := 1840) (by decide +kernel)⟩
theorem lw_p56 : lw_okq (⟨"ProjectPlannerModel", "of", "(II)I"⟩, 22) := ⟨⟨by decide +kernel, by decide +kernel⟩, List.mem_of_getElem? (i := 1587) (by decide +kernel), List.mem_of_getElem? (i := 1843) (by decide +kernel), List.mem_of_getElem? (i := 1844) (by decide +kernel)⟩
theorem lw_p57 : lw_okq (⟨"ProjectPlannerModel", "setCapacityOf", "(II)V"⟩, 22) := ⟨⟨by decide +kernel, by decide +kernel⟩, List.mem_of_getElem? (i := 1587) (by decide +kernel), List.mem_of_getElem? (i := 1847) (by decide +kernel), List.mem_of_getElem? (i := 1848) (by decide +kernel)⟩
theorem lw_p58 : lw_okq (⟨"ProjectPlannerModel", "drop", "(I)I"⟩, 22) := ⟨⟨by decide +kernel, by decide +kernel⟩, List.mem_of_getElem? (i := 1587) (by decide +kernel), List.mem_of_getElem? (i := 1851) (by decide +kernel), List.mem_of_getElem? (i := 1852) (by decide +kernel)⟩
theorem lw_p59 : lw_okq (⟨"ProjectPlannerModel", "plain", "(I)I"⟩, 22) := ⟨⟨by decide +kernel, by decide +kernel⟩, List.mem_of_getElem? (i := 1587) (by decide +kernel), List.mem_of_getElem? (i := 1867) (by decide +kernel), List.mem_of_getElem? (i := 1868) (by decide +kernel)⟩
theorem lw_p60 : lw_okq (⟨"ProjectPlannerModel", "isTask", "(I)Z"⟩, 22) := ⟨⟨by decide +kernel, by decide +kernel⟩, List.mem_of_getElem? (i := 1587) (by decide +kernel), List.mem_of_getElem? (i := 1883) (by decide +kernel), List.mem_of_getElem? (i := 1884) (by decide +kernel)⟩
theorem lw_p61 : lw_okq (⟨"ProjectPlannerModel", "isResource", "(I)Z"⟩, 22) := ⟨⟨by decide +kernel, by decide +kernel⟩, List.mem_of_getElem? (i := 1587) (by decide +kernel), List.mem_of_getElem? (i := 1899) (by decide +kernel), List.mem_of_getElem? (i := 1900) (by decide +kernel)⟩
theorem lw_p62 : lw_okq (⟨"ProjectPlannerModel", "field", "(II)I"⟩, 22) := ⟨⟨by decide +kernel, by decide +kernel⟩, List.mem_of_getElem? (i := 1587) (by decide +kernel), List.mem_of_getElem? (i := 1907) (by decide +kernel), List.mem_of_getElem? (i := 1908) (by decide +kernel)⟩
theorem lw_p63 : lw_okq (⟨"ProjectPlannerModel", "links", "()I"⟩, 22) := ⟨⟨by decide +kernel, by decide +kernel⟩, List.mem_of_getElem? (i := 1587) (by decide +kernel), List.mem_of_getElem? (i := 1923) (by decide +kernel), List.mem_of_getElem? (i := 1924) (by decide +kernel)⟩
def lw_privs_4 : List (MethodName × Nat) := [(⟨"ProjectPlannerModel", "carryOut", "(I)Z"⟩, 22), (⟨"ProjectPlannerModel", "setIf", "(ZIII)Z"⟩, 22), (⟨"ProjectPlannerModel", "set", "(III)V"⟩, 22), (⟨"ProjectPlannerModel", "canLink", "(II)Z"⟩, 22), (⟨"ProjectPlannerModel", "cycleLength", "(II)I"⟩, 22), (⟨"ProjectPlannerModel", "walkFrom", "(I)V"⟩, 22), (⟨"ProjectPlannerModel", "linkIf", "(ZIII)Z"⟩, 22), (⟨"ProjectPlannerModel", "canHaveCapacity", "(II)Z"⟩, 22), (⟨"ProjectPlannerModel", "of", "(II)I"⟩, 22), (⟨"ProjectPlannerModel", "setCapacityOf", "(II)V"⟩, 22), (⟨"ProjectPlannerModel", "drop", "(I)I"⟩, 22), (⟨"ProjectPlannerModel", "plain", "(I)I"⟩, 22), (⟨"ProjectPlannerModel", "isTask", "(I)Z"⟩, 22), (⟨"ProjectPlannerModel", "isResource", "(I)Z"⟩, 22), (⟨"ProjectPlannerModel", "field", "(II)I"⟩, 22), (⟨"ProjectPlannerModel", "links", "()I"⟩, 22)]
theorem lw_r4 : ∀ q ∈ lw_privs_4, lw_okq q := List.forall_mem_cons.mpr ⟨lw_p48, List.forall_mem_cons.mpr ⟨lw_p49, List.forall_mem_cons.mpr ⟨lw_p50, List.forall_mem_cons.mpr ⟨lw_p51, List.forall_mem_cons.mpr ⟨lw_p52, List.forall_mem_cons.mpr ⟨lw_p53, List.forall_mem_cons.mpr ⟨lw_p54, List.forall_mem_cons.mpr ⟨lw_p55, List.forall_mem_cons.mpr ⟨lw_p56, List.forall_mem_cons.mpr ⟨lw_p57, List.forall_mem_cons.mpr ⟨lw_p58, List.forall_mem_cons.mpr ⟨lw_p59, List.forall_mem_cons.mpr ⟨lw_p60, List.forall_mem_cons.mpr ⟨lw_p61, List.forall_mem_cons.mpr ⟨lw_p62, List.forall_mem_cons.mpr ⟨lw_p63, fun _ h => absurd h List.not_mem_nil⟩⟩⟩⟩⟩⟩⟩⟩⟩⟩⟩⟩⟩⟩⟩⟩
theorem lw_p64 : lw_okq (⟨"ProjectPlannerModel", "areTasks", "(II)Z"⟩, 22) := ⟨⟨by decide +kernel, by decide +kernel⟩, List.mem_of_getElem? (i := 1587) (by decide +kernel), List.mem_of_getElem? (i := 1931) (by decide +kernel), List.mem_of_getElem? (i := 1932) (by decide +kernel)⟩
theorem lw_p65 : lw_okq (⟨"ProjectPlannerModel", "goesBefore", "(II)Z"⟩, 22) := ⟨⟨by decide +kernel, by decide +kernel⟩, List.mem_of_getElem? (i := 1587) (by decide +kernel), List.mem_of_getElem? (i := 1939) (by decide +kernel), List.mem_of_getElem? (i := 1940) (by decide +kernel)⟩
theorem lw_p66 : lw_okq (⟨"ProjectPlannerModel", "followers", "(I)I"⟩, 22) := ⟨⟨by decide +kernel, by decide +kernel⟩, List.mem_of_getElem? (i := 1587) (by decide +kernel), List.mem_of_getElem? (i := 1951) (by decide +kernel), List.mem_of_getElem? (i := 1952) (by decide +kernel)⟩
theorem lw_p67 : lw_okq (⟨"ProjectPlannerModel", "isEligible", "(I)Z"⟩, 22) := ⟨⟨by decide +kernel, by decide +kernel⟩, List.mem_of_getElem? (i := 1587) (by decide +kernel), List.mem_of_getElem? (i := 1959) (by decide +kernel), List.mem_of_getElem? (i := 1960) (by decide +kernel)⟩
theorem lw_p68 : lw_okq (⟨"ProjectPlannerModel", "computeDates", "()V"⟩, 22) := ⟨⟨by decide +kernel, by decide +kernel⟩, List.mem_of_getElem? (i := 1587) (by decide +kernel), List.mem_of_getElem? (i := 1971) (by decide +kernel), List.mem_of_getElem? (i := 1972) (by decide +kernel)⟩
theorem lw_p69 : lw_okq (⟨"ProjectPlannerModel", "build", "()I"⟩, 22) := ⟨⟨by decide +kernel, by decide +kernel⟩, List.mem_of_getElem? (i := 1587) (by decide +kernel), List.mem_of_getElem? (i := 2007) (by decide +kernel), List.mem_of_getElem? (i := 2008) (by decide +kernel)⟩
theorem lw_p70 : lw_okq (⟨"ProjectPlannerModel", "selectNext", "()I"⟩, 22) := ⟨⟨by decide +kernel, by decide +kernel⟩, List.mem_of_getElem? (i := 1587) (by decide +kernel), List.mem_of_getElem? (i := 2011) (by decide +kernel), List.mem_of_getElem? (i := 2012) (by decide +kernel)⟩
theorem lw_p71 : lw_okq (⟨"ProjectPlannerModel", "badness", "(I)I"⟩, 22) := ⟨⟨by decide +kernel, by decide +kernel⟩, List.mem_of_getElem? (i := 1587) (by decide +kernel), List.mem_of_getElem? (i := 2015) (by decide +kernel), List.mem_of_getElem? (i := 2016) (by decide +kernel)⟩
theorem lw_p72 : lw_okq (⟨"ProjectPlannerModel", "readyDay", "(I)I"⟩, 22) := ⟨⟨by decide +kernel, by decide +kernel⟩, List.mem_of_getElem? (i := 1587) (by decide +kernel), List.mem_of_getElem? (i := 2019) (by decide +kernel), List.mem_of_getElem? (i := 2020) (by decide +kernel)⟩
theorem lw_p73 : lw_okq (⟨"ProjectPlannerModel", "finishOf", "(I)I"⟩, 22) := ⟨⟨by decide +kernel, by decide +kernel⟩, List.mem_of_getElem? (i := 1587) (by decide +kernel), List.mem_of_getElem? (i := 2023) (by decide +kernel), List.mem_of_getElem? (i := 2024) (by decide +kernel)⟩
theorem lw_p74 : lw_okq (⟨"ProjectPlannerModel", "fits", "(II)Z"⟩, 22) := ⟨⟨by decide +kernel, by decide +kernel⟩, List.mem_of_getElem? (i := 1587) (by decide +kernel), List.mem_of_getElem? (i := 2027) (by decide +kernel), List.mem_of_getElem? (i := 2028) (by decide +kernel)⟩
theorem lw_p75 : lw_okq (⟨"ProjectPlannerModel", "occupy", "(II)V"⟩, 22) := ⟨⟨by decide +kernel, by decide +kernel⟩, List.mem_of_getElem? (i := 1587) (by decide +kernel), List.mem_of_getElem? (i := 2031) (by decide +kernel), List.mem_of_getElem? (i := 2032) (by decide +kernel)⟩
theorem lw_p76 : lw_okq (⟨"ProjectPlannerModel", "usageOn", "(II)I"⟩, 22) := ⟨⟨by decide +kernel, by decide +kernel⟩, List.mem_of_getElem? (i := 1587) (by decide +kernel), List.mem_of_getElem? (i := 2051) (by decide +kernel), List.mem_of_getElem? (i := 2052) (by decide +kernel)⟩
theorem lw_p77 : lw_okq (⟨"ProjectPlannerModel", "peak", "(I)I"⟩, 22) := ⟨⟨by decide +kernel, by decide +kernel⟩, List.mem_of_getElem? (i := 1587) (by decide +kernel), List.mem_of_getElem? (i := 2059) (by decide +kernel), List.mem_of_getElem? (i := 2060) (by decide +kernel)⟩
theorem lw_p78 : lw_okq (⟨"ProjectPlannerModel", "startsTooSoon", "(II)Z"⟩, 22) := ⟨⟨by decide +kernel, by decide +kernel⟩, List.mem_of_getElem? (i := 1587) (by decide +kernel), List.mem_of_getElem? (i := 2071) (by decide +kernel), List.mem_of_getElem? (i := 2072) (by decide +kernel)⟩
theorem lw_p79 : lw_okq (⟨"ProjectPlannerModel", "runsInto", "(II)Z"⟩, 22) := ⟨⟨by decide +kernel, by decide +kernel⟩, List.mem_of_getElem? (i := 1587) (by decide +kernel), List.mem_of_getElem? (i := 2075) (by decide +kernel), List.mem_of_getElem? (i := 2076) (by decide +kernel)⟩
def lw_privs_5 : List (MethodName × Nat) := [(⟨"ProjectPlannerModel", "areTasks", "(II)Z"⟩, 22), (⟨"ProjectPlannerModel", "goesBefore", "(II)Z"⟩, 22), (⟨"ProjectPlannerModel", "followers", "(I)I"⟩, 22), (⟨"ProjectPlannerModel", "isEligible", "(I)Z"⟩, 22), (⟨"ProjectPlannerModel", "computeDates", "()V"⟩, 22), (⟨"ProjectPlannerModel", "build", "()I"⟩, 22), (⟨"ProjectPlannerModel", "selectNext", "()I"⟩, 22), (⟨"ProjectPlannerModel", "badness", "(I)I"⟩, 22), (⟨"ProjectPlannerModel", "readyDay", "(I)I"⟩, 22), (⟨"ProjectPlannerModel", "finishOf", "(I)I"⟩, 22), (⟨"ProjectPlannerModel", "fits", "(II)Z"⟩, 22), (⟨"ProjectPlannerModel", "occupy", "(II)V"⟩, 22), (⟨"ProjectPlannerModel", "usageOn", "(II)I"⟩, 22), (⟨"ProjectPlannerModel", "peak", "(I)I"⟩, 22), (⟨"ProjectPlannerModel", "startsTooSoon", "(II)Z"⟩, 22), (⟨"ProjectPlannerModel", "runsInto", "(II)Z"⟩, 22)]
theorem lw_r5 : ∀ q ∈ lw_privs_5, lw_okq q := List.forall_mem_cons.mpr ⟨lw_p64, List.forall_mem_cons.mpr ⟨lw_p65, List.forall_mem_cons.mpr ⟨lw_p66, List.forall_mem_cons.mpr ⟨lw_p67, List.forall_mem_cons.mpr ⟨lw_p68, List.forall_mem_cons.mpr ⟨lw_p69, List.forall_mem_cons.mpr ⟨lw_p70, List.forall_mem_cons.mpr ⟨lw_p71, List.forall_mem_cons.mpr ⟨lw_p72, List.forall_mem_cons.mpr ⟨lw_p73, List.forall_mem_cons.mpr ⟨lw_p74, List.forall_mem_cons.mpr ⟨lw_p75, List.forall_mem_cons.mpr ⟨lw_p76, List.forall_mem_cons.mpr ⟨lw_p77, List.forall_mem_cons.mpr ⟨lw_p78, List.forall_mem_cons.mpr ⟨lw_p79, fun _ h => absurd h List.not_mem_nil⟩⟩⟩⟩⟩⟩⟩⟩⟩⟩⟩⟩⟩⟩⟩⟩
theorem lw_p80 : lw_okq (⟨"ProjectPlannerModel", "workFor", "(I)I"⟩, 22) := ⟨⟨by decide +kernel, by decide +kernel⟩, List.mem_of_getElem? (i := 1587) (by decide +kernel), List.mem_of_getElem? (i := 2083) (by decide +kernel), List.mem_of_getElem? (i := 2084) (by decide +kernel)⟩
theorem lw_p81 : lw_okq (⟨"ProjectPlannerModel", "bound", "()I"⟩, 22) := ⟨⟨by decide +kernel, by decide +kernel⟩, List.mem_of_getElem? (i := 1587) (by decide +kernel), List.mem_of_getElem? (i := 2091) (by decide +kernel), List.mem_of_getElem? (i := 2092) (by decide +kernel)⟩
theorem lw_p82 : lw_okq (⟨"ProjectPlannerModel", "spanBy", "(I)I"⟩, 22) := ⟨⟨by decide +kernel, by decide +kernel⟩, List.mem_of_getElem? (i := 1587) (by decide +kernel), List.mem_of_getElem? (i := 2111) (by decide +kernel), List.mem_of_getElem? (i := 2112) (by decide +kernel)⟩
theorem lw_p83 : lw_okq (⟨"ProjectPlannerModel", "spanWithMore", "(I)I"⟩, 22) := ⟨⟨by decide +kernel, by decide +kernel⟩, List.mem_of_getElem? (i := 1587) (by decide +kernel), List.mem_of_getElem? (i := 2123) (by decide +kernel), List.mem_of_getElem? (i := 2124) (by decide +kernel)⟩
theorem lw_p84 : lw_okq (⟨"ProjectPlannerModel", "change", "(IIIII)I"⟩, 22) := ⟨⟨by decide +kernel, by decide +kernel⟩, List.mem_of_getElem? (i := 1587) (by decide +kernel), List.mem_of_getElem? (i := 2139) (by decide +kernel), List.mem_of_getElem? (i := 2140) (by decide +kernel)⟩
theorem lw_p85 : lw_okq (⟨"ProjectPlannerModel", "putTask", "(I)V"⟩, 22) := ⟨⟨by decide +kernel, by decide +kernel⟩, List.mem_of_getElem? (i := 1587) (by decide +kernel), List.mem_of_getElem? (i := 2187) (by decide +kernel), List.mem_of_getElem? (i := 2188) (by decide +kernel)⟩
theorem lw_p86 : lw_okq (⟨"ProjectPlannerModel", "put", "(I)V"⟩, 22) := ⟨⟨by decide +kernel, by decide +kernel⟩, List.mem_of_getElem? (i := 1587) (by decide +kernel), List.mem_of_getElem? (i := 2191) (by decide +kernel), List.mem_of_getElem? (i := 2192) (by decide +kernel)⟩
theorem lw_p87 : lw_okq (⟨"ProjectPlannerModel", "putNumber", "(I)V"⟩, 22) := ⟨⟨by decide +kernel, by decide +kernel⟩, List.mem_of_getElem? (i := 1587) (by decide +kernel), List.mem_of_getElem? (i := 2195) (by decide +kernel), List.mem_of_getElem? (i := 2196) (by decide +kernel)⟩
def lw_privs_6 : List (MethodName × Nat) := [(⟨"ProjectPlannerModel", "workFor", "(I)I"⟩, 22), (⟨"ProjectPlannerModel", "bound", "()I"⟩, 22), (⟨"ProjectPlannerModel", "spanBy", "(I)I"⟩, 22), (⟨"ProjectPlannerModel", "spanWithMore", "(I)I"⟩, 22), (⟨"ProjectPlannerModel", "change", "(IIIII)I"⟩, 22), (⟨"ProjectPlannerModel", "putTask", "(I)V"⟩, 22), (⟨"ProjectPlannerModel", "put", "(I)V"⟩, 22), (⟨"ProjectPlannerModel", "putNumber", "(I)V"⟩, 22)]
theorem lw_r6 : ∀ q ∈ lw_privs_6, lw_okq q := List.forall_mem_cons.mpr ⟨lw_p80, List.forall_mem_cons.mpr ⟨lw_p81, List.forall_mem_cons.mpr ⟨lw_p82, List.forall_mem_cons.mpr ⟨lw_p83, List.forall_mem_cons.mpr ⟨lw_p84, List.forall_mem_cons.mpr ⟨lw_p85, List.forall_mem_cons.mpr ⟨lw_p86, List.forall_mem_cons.mpr ⟨lw_p87, fun _ h => absurd h List.not_mem_nil⟩⟩⟩⟩⟩⟩⟩⟩
def lw_privs : List (MethodName × Nat) := lw_privs_1 ++ (lw_privs_2 ++ (lw_privs_3 ++ (lw_privs_4 ++ (lw_privs_5 ++ (lw_privs_6)))))
def lw_tbl : List Cond := k2_sels lw_privs ++ tables_1
theorem lw_privs_ok : ∀ q ∈ lw_privs, lw_okq q := by
  show ∀ q ∈ lw_privs_1 ++ (lw_privs_2 ++ (lw_privs_3 ++ (lw_privs_4 ++ (lw_privs_5 ++ (lw_privs_6))))), lw_okq q
  exact List.forall_mem_append.mpr ⟨lw_r1, List.forall_mem_append.mpr ⟨lw_r2, List.forall_mem_append.mpr ⟨lw_r3, List.forall_mem_append.mpr ⟨lw_r4, List.forall_mem_append.mpr ⟨lw_r5, lw_r6⟩⟩⟩⟩⟩
/-- the streams that the claim lets the run draw from -/
abbrev lw_cs : List Choice := [Jvm.Choice.named "NaN.bits"]
theorem lw_bits : nanBits ∈ lw_cs := by first | decide | exact List.mem_cons_self | simp [lw_cs, nanBits]
end
section
/-! ===== BEGIN words of one list among another's, by their places ===== -/
theorem goodIn_r {big : List Cond} (ws : List Cond) (ps : List Nat) (hp : ws = ps.filterMap (fun i => big[i]?)) (h : ws.all goodWord = true) : GoodIn big ws := by
  intro w hw
  have h1 := List.all_eq_true.mp h w hw
  rw [hp] at hw
  obtain ⟨i, -, hi⟩ := List.mem_filterMap.mp hw
  have hm : w ∈ big := by first | exact List.mem_of_getElem? hi | exact List.getElem?_mem hi
  exact ⟨hm, good_of_word h1⟩
theorem goodIn_app {big a b : List Cond} (ha : GoodIn big a) (hb : GoodIn big b) : GoodIn big (a ++ b) := fun w h => (List.mem_append.mp h).elim (ha w) (hb w)
theorem goodIn_ca {big a b : List Cond} {c : Cond} (ha : GoodIn big (c :: a)) (hb : GoodIn big b) : GoodIn big (c :: (a ++ b)) := fun w h => (List.mem_cons.mp h).elim (fun e => ha w (List.mem_cons.mpr (Or.inl e))) (fun h => (List.mem_append.mp h).elim (fun h => ha w (List.mem_cons.mpr (Or.inr h))) (hb w))
theorem goodIn_sub {big ws : List Cond} (hm : ∀ w ∈ ws, w ∈ big) (h : ws.all goodWord = true) : GoodIn big ws := fun w hw => ⟨hm w hw, good_of_word (List.all_eq_true.mp h w hw)⟩
/-! ===== END ===== -/

/-! ===== BEGIN exceptions that leave a method, and their catching by the caller (launches without stack traces) ===== -/
section VXA
/-! The laws vx_back, vx_callV, vx_callS, vx_callSW, vx_throw0, vx_throwS follow proofs of the library, with one case more: JvmDerived/Free/Laws.lean (Back.of_free), Shelf42/LK1.lean (callV, callS), Shelf/KitTraced.lean (throwNew0V, throwNewS). -/
/-- where a method has thrown q: the class by its name, the cell, what was written, the world -/
def vx_T (XC : String → State → State → Prop) (st : State) (q : Addr) (t : State) (mc ms : Nat) (free : Addr → Prop) : Prop :=
  ∃ (E : String) (ce : Cell) (L : List Loc), XC E st t ∧ t.heap[q]? = some ce ∧ ce.vm = .none ∧ st.vm.findClass E = some ce.cls ∧ st.WarmedH t.vm ∧ st.sameButNew ({ t with vm := st.vm } : State) L mc ms ∧ ∀ z ∈ L, free z.base
def vx_Q (Qc : Array Value → State → Outcome → State → Prop) (XC : String → State → State → Prop) (mc ms : Nat) (free : Addr → Prop) : Array Value → State → Outcome → State → Prop := fun a st o t =>
  (Qc a st o t ∧ ∃ L, FrameEnd st o t L mc ms ∧ ∀ q ∈ L, free q.base) ∨ ∃ q, o = .threw q ∧ vx_T XC st q t mc ms free
/-- a callee that returns or throws -/
def vx_Met (l : Launch) (y : MethodName) (ws : List Cond) (rm : Room) (Pc : Array Value → State → Prop) (Qc : Array Value → State → Outcome → State → Prop) (XC : String → State → State → Prop) (mc ms : Nat) (free : Addr → Prop) : Prop :=
  MetFree l y (headSpec ws rm) Pc (fun _ _ _ _ _ => True) (vx_Q Qc XC mc ms free)
def vx_Post (XC : String → State → State → Prop) (mc ms : Nat) (free : Addr → Prop) : Pt → Array Value → Addr → Pt → Prop := fun A a q B =>
  ∃ (g : JFrame) (mk : MethodId) (t : State) (L : List Loc) (E : String) (ce : Cell), B.U.heap = t.heap ∧ B.U.vm = t.vm ∧ XC E (A.U.calling g mk a) t ∧ t.heap[q]? = some ce ∧ ce.vm = .none ∧ A.U.vm.findClass E = some ce.cls ∧ B.locs = A.locs ++ L ∧ (∀ z ∈ L, free z.base) ∧ B.cells = A.cells + mc ∧ B.slots = A.slots + ms
def vx_Back (l : Launch) (R : Room) (p : Program) (e : Env) (below : List Frame) (s : State) (sargs : Array Value) (y : MethodName) (len W9 : Nat)
    (Pre : Pt → Array Value → Prop) (Post : Pt → Array Value → Option Value → Pt → Prop) (PostX : Pt → Array Value → Addr → Pt → Prop) : Prop :=
  ∀ (m : MethodId) (meth : Method) (c : Code) (A : Pt) (g : JFrame) (ig : Instr) (mk : MethodId) (a : Array Value),
    Stand p l e R s m sargs below meth c A.U A.locs A.cells A.slots → g.method = m → g.locals.size = c.maxLocals → decode c.code g.pc = .ok (ig, len) →
    2 * g.monitorRoom + (g.stack.map fun v => v.category).sum ≤ W9 → A.U.methodNamed? y = some mk → Pre A a →
    (∃ (v : Option Value) (B : Pt), Stand p l e R s m sargs below meth c B.U B.locs B.cells B.slots ∧ Post A a v B ∧
      Steps p.tables e below (doInvoke e (A.U.setTop g) [] mk a).1 (B.U.setTop { g with pc := g.pc + len, stack := v.toList ++ g.stack })) ∨
    (∃ (q : Addr) (B : Pt), Stand p l e R s m sargs below meth c B.U B.locs B.cells B.slots ∧ PostX A a q B ∧
      Steps p.tables e below (doInvoke e (A.U.setTop g) [] mk a).1 ((B.U.setTop g).pushFrame (.throwing q)))
section Payer
variable {l : Launch} {R : Room} {p : Program} {e : Env} {below : List Frame} {s : State} {sargs : Array Value} {y : MethodName} {len W9 : Nat}
theorem vx_back {ws : List Cond} {rm : Room} {Pc : Array Value → State → Prop} {Qc : Array Value → State → Outcome → State → Prop} {XC : String → State → State → Prop} {mc ms : Nat} {free : Addr → Prop} {bytes : ByteArray} {maxL : Nat} {ret : Option FieldType}
    (hM : vx_Met l y ws rm Pc Qc XC mc ms free) (hblind : FrameBlind Pc) (hrc : rm.cells = mc) (hrs : rm.slots = ms)
    (hframes : rm.frames + 1 ≤ R.frames) (hlocals : W9 + (maxL + 11) + rm.locals ≤ R.locals)
    (hws : ∀ w ∈ ws, ∀ a' U, s.WarmedH U.vm → w.before a' U = true) (hcode : Cond.code y bytes maxL ret ∈ ws) (hinit : ∀ a' U, s.WarmedH U.vm → (Cond.initialized y.cls).before a' U = true) :
    vx_Back l R p e below s sargs y len W9 (PreOf R mc ms Pc) (PostOf Qc mc ms free) (vx_Post XC mc ms free) := by
  intro m meth c A g ig mk a X hg hsize hdg hW hn hp
  have h1 : (headSpec ws rm).pre.before a A.U = true := atoms_intro fun w hw => hws w hw _ _ X.warmed
  have h2 : (Cond.code y bytes maxL ret).before a A.U = true := hws _ hcode _ _ X.warmed
  have h3 : (Cond.initialized y.cls).before a A.U = true := hinit _ _ X.warmed
  have h4 : A.cells + (headSpec ws rm).room.cells ≤ R.cells := by rw [show (headSpec ws rm).room.cells = mc from hrc]; exact hp.1
  have h5 : A.slots + (headSpec ws rm).room.slots ≤ R.slots := by rw [show (headSpec ws rm).room.slots = ms from hrs]; exact hp.2.1
  have hPc : Pc a (A.U.calling g mk a) := hblind _ _ _ _ hp.2.2
  obtain ⟨U, Ls, c0, s0⟩ := A
  dsimp only [Pt.U, Pt.locs, Pt.cells, Pt.slots] at h1 h2 h3 h4 h5 X hn hPc ⊢
  obtain ⟨methY, cY, hmY, hcY, -, hlY, -, -, -, -⟩ := Cond.code_spec hn h2
  obtain ⟨kY, hkY, -⟩ := className_of_methodNamed hn
  have hinitY : kY.init = .initialized := Cond.initialized_spec (findClass_of_methodNamed hn) hkY h3
  have h : At U g.method c below := by rw [hg]; exact X.here
  have hlocals9 : W9 + (maxL + 11) + (headSpec ws rm).room.locals ≤ R.locals := hlocals
  have happ : (headSpec ws rm).appliesLoose y e.platform (U.calling g mk a) = true :=
    Spec.appliesLoose_calling (g := g) h hdg hn hkY hinitY
      (X.room_calling (g := g) (R' := (headSpec ws rm).room) hsize hmY hcY hframes (by rw [hlY]; omega) h4 h5) h1
  obtain ⟨mid, hmid⟩ := h.above
  have hfr : (U.setTop g).frames = (.java g :: mid) ++ below := by rw [State.frames_setTop' g h.top, hmid]; rfl
  obtain ⟨o, s₂, hsteps, -, hend, hq⟩ := Steps.callFree hM p X.admits X.cas X.clock (acts := []) hfr happ hPc trivial
  have hq' : vx_Q Qc XC mc ms free a (U.calling g mk a) o s₂ := hq
  rw [State.frames_setTop' g h.top] at hend
  obtain ⟨g₀, hg0⟩ := Option.isSome_iff_exists.mp h.top
  obtain ⟨r, hr⟩ := State.topJava?_eq_some.mp hg0
  have hr' : (({ U with heap := s₂.heap, slotsUsed := s₂.slotsUsed } : State).setVm s₂.vm).frames = .java g₀ :: r := hr
  rcases hq' with ⟨hqc, L, hfe, hL⟩ | ⟨q, rfl, E, ce, L, hx, hce, hcv, hcl, hW₂, hsm, hL⟩
  · obtain ⟨⟨v, rfl⟩, hW₂, e2, q2, q3, q4, q5, q6⟩ := id hfe
    have e3 : s₂ = ({ (U.calling g mk a).setFrames s₂.frames with heap := s₂.heap, slotsUsed := s₂.slotsUsed } : State).setVm s₂.vm := by
      have : s₂ = ({ s₂ with vm := (U.calling g mk a).vm } : State).setVm s₂.vm := rfl
      rw [e2] at this
      exact this
    obtain ⟨c₂, i₂, len₂, hc₂, hd₂, hf₂⟩ := hend
    have hW' : U.WarmedH s₂.vm := hW₂
    have hcc : c₂ = c := by
      have h1 : s₂.code? g.method = U.code? g.method := by
        rw [State.code?_eq, State.code?_eq, hW'.alike.method?]
      exact Option.some.inj (hc₂.symm.trans (h1.trans h.code))
    subst hcc
    have hlen : len₂ = len := by rw [hdg] at hd₂; cases hd₂; rfl
    subst hlen
    have hs₂ : s₂ = (({ U with heap := s₂.heap, slotsUsed := s₂.slotsUsed } : State).setVm s₂.vm).setTop { g with pc := g.pc + len₂, stack := v.toList ++ g.stack } := by
      refine e3.trans ?_
      rw [hf₂, State.calling_eq h.top, State.setFrames_setFrames, State.setTop_of_frames _ hr', hr]
      rfl
    have hsame : U.sameButNew ({ U with heap := s₂.heap, slotsUsed := s₂.slotsUsed } : State) L mc ms := by
      refine ⟨?_, q2, q3, q4, q5, q6⟩
      obtain ⟨t, ht, -⟩ := State.frames_cons hr
      show ({ U with heap := s₂.heap, slotsUsed := s₂.slotsUsed } : State) = { U.setFrames U.frames with heap := s₂.heap, slotsUsed := s₂.slotsUsed }
      rw [State.setFrames_self ht]
    subst hg
    refine Or.inl ⟨v, ⟨(({ U with heap := s₂.heap, slotsUsed := s₂.slotsUsed } : State).setVm s₂.vm), Ls ++ L, c0 + mc, s0 + ms⟩,
      ⟨X.admits, X.cas, X.clock, X.frames, X.room, X.hears, X.method, X.code, (X.here.setHeapUsed s₂.heap s₂.slotsUsed).setVm hW'.alike, X.tail, State.WarmedH.trans X.warmed hW', X.limits, X.bytes, X.same.trans (hsame.setVm s.vm)⟩,
      ⟨g, mk, s₂, L, rfl, rfl, hqc, rfl, hL, rfl, rfl⟩, ?_⟩
    show Steps p.tables e below _ ((({ U with heap := s₂.heap, slotsUsed := s₂.slotsUsed } : State).setVm s₂.vm).setTop { g with pc := g.pc + len₂, stack := v.toList ++ g.stack })
    rw [← hs₂]
    exact hsteps
  · obtain ⟨e2, q2, q3, q4, q5, q6⟩ := id hsm
    have e3 : s₂ = ({ (U.calling g mk a).setFrames s₂.frames with heap := s₂.heap, slotsUsed := s₂.slotsUsed } : State).setVm s₂.vm := by
      have : s₂ = ({ s₂ with vm := (U.calling g mk a).vm } : State).setVm s₂.vm := rfl
      rw [e2] at this
      exact this
    have hf₂ : s₂.frames = .throwing q :: .java g :: U.frames.tail := hend
    have hW' : U.WarmedH s₂.vm := hW₂
    have hs₂ : s₂ = ((({ U with heap := s₂.heap, slotsUsed := s₂.slotsUsed } : State).setVm s₂.vm).setTop g).pushFrame (.throwing q) := by
      refine e3.trans ?_
      rw [hf₂, State.calling_eq h.top, State.setFrames_setFrames, State.pushFrame, State.frames_setTop _ hr', State.setTop_of_frames _ hr', State.setFrames_setFrames, hr]
      rfl
    have hsame : U.sameButNew ({ U with heap := s₂.heap, slotsUsed := s₂.slotsUsed } : State) L mc ms := by
      refine ⟨?_, q2, q3, q4, q5, q6⟩
      obtain ⟨t, ht, -⟩ := State.frames_cons hr
      show ({ U with heap := s₂.heap, slotsUsed := s₂.slotsUsed } : State) = { U.setFrames U.frames with heap := s₂.heap, slotsUsed := s₂.slotsUsed }
      rw [State.setFrames_self ht]
    subst hg
    refine Or.inr ⟨q, ⟨(({ U with heap := s₂.heap, slotsUsed := s₂.slotsUsed } : State).setVm s₂.vm), Ls ++ L, c0 + mc, s0 + ms⟩,
      ⟨X.admits, X.cas, X.clock, X.frames, X.room, X.hears, X.method, X.code, (X.here.setHeapUsed s₂.heap s₂.slotsUsed).setVm hW'.alike, X.tail, State.WarmedH.trans X.warmed hW', X.limits, X.bytes, X.same.trans (hsame.setVm s.vm)⟩,
      ⟨g, mk, s₂, L, E, ce, rfl, rfl, hx, hce, hcv, hcl, rfl, hL, rfl, rfl⟩, ?_⟩
    show Steps p.tables e below _ (((({ U with heap := s₂.heap, slotsUsed := s₂.slotsUsed } : State).setVm s₂.vm).setTop g).pushFrame (.throwing q))
    rw [← hs₂]
    exact hsteps
end Payer
section Calls
variable {p : Program} {l : Launch} {e : Env} {R : Room} {s : State} {m : MethodId} {args : Array Value} {below : List Frame} {meth : Method} {c : Code} {T : State} {locs : List Loc} {cells slots : Nat}
theorem vx_callV (X : Stand p l e R s m args below meth c T locs cells slots) (hexec : p.tables.exec = Jvm.exec) {own C : String} {index : Nat} {y : MethodName} {bytes : ByteArray} {maxL : Nat} {ret : Option FieldType}
    (hown : s.vm.findClass own = some m.cls) (hlink : (Cond.methodLink own index y).before args s = true) (hinst : (Cond.instanceMethod y).before args s = true) (hsel : (Cond.selects C y y).before args s = true)
    (hcode : (Cond.code y bytes maxL ret).before args s = true) (hy : y.cls ≠ "java/lang/invoke/MethodHandle" ∧ y.cls ≠ "java/lang/invoke/VarHandle")
    {W9 : Nat} {Pre : Pt → Array Value → Prop} {Post : Pt → Array Value → Option Value → Pt → Prop} {PostX : Pt → Array Value → Addr → Pt → Prop} (hK : vx_Back l R p e below s args y 3 W9 Pre Post PostX)
    {b : Addr} {cellB : Cell} (hcell : T.heap[b]? = some cellB) (hobj : cellB.vm.isStatics = false) (hcls : s.vm.findClass C = some cellB.cls)
    {g : JFrame} (hg : g.method = m) (hsize : g.locals.size = c.maxLocals) {argsL rest : List Value} (hlen : ∀ sig, parseMethodDescriptor y.desc = some sig → argsL.length = sig.parameters.length)
    (hstack : g.stack = argsL.reverse ++ .ref b :: rest) (hW : 2 * g.monitorRoom + (rest.map fun v => v.category).sum ≤ W9) (hdg : decode c.code g.pc = .ok (.invokevirtual index, 3))
    (hpre : ∀ vm₁, s.WarmedH vm₁ → Pre ⟨T.setVm vm₁, locs, cells, slots⟩ (Value.ref b :: argsL).toArray) :
    (∃ (v : Option Value) (vm₁ : Vm) (B : Pt), s.WarmedH vm₁ ∧ Stand p l e R s m args below meth c B.U B.locs B.cells B.slots ∧ Post ⟨T.setVm vm₁, locs, cells, slots⟩ (Value.ref b :: argsL).toArray v B ∧
      ∀ target, Steps p.tables e below (B.U.setTop { g with pc := g.pc + 3, stack := v.toList ++ rest }) target → Steps p.tables e below (T.setTop g) target) ∨
    (∃ (q : Addr) (vm₁ : Vm) (B : Pt), s.WarmedH vm₁ ∧ Stand p l e R s m args below meth c B.U B.locs B.cells B.slots ∧ PostX ⟨T.setVm vm₁, locs, cells, slots⟩ (Value.ref b :: argsL).toArray q B ∧
      Steps p.tables e below (T.setTop g) ((B.U.setTop { g with stack := rest }).pushFrame (.throwing q))) := by
  obtain ⟨mk, methM, hnamed, hmethM, hstM, habM⟩ := Cond.instanceMethod_spec hinst
  obtain ⟨methM', cM, hmethM', -, -, -, -, -, -, hsigM⟩ := Cond.code_spec hnamed hcode
  cases hmethM.symm.trans hmethM'
  obtain ⟨c2, r2, m2, q1, q2, q3, q4, kP, hkP, hkPi⟩ := Cond.selects_spec hsel
  cases hcls.symm.trans q1
  cases (State.methodFound?_of_named hnamed hy).symm.trans q2
  cases hnamed.symm.trans q3
  have hselP : selectMethod e.platform s.vm cellB.cls mk = .method mk := by rw [Launch.admits_selectMethod X.admits]; exact q4
  obtain ⟨vm₁, X₁, hstep₁⟩ := X.invokevirtual hexec hown hlink hnamed hmethM hstM hkP hkPi hy (a := b) (cell := cellB) hcell
    (fun z h => by rw [h] at hobj; cases hobj) hselP hmethM habM hkP hkPi (g := g) hg (argsL := argsL) (rest := rest) (hlen _ hsigM) hstack hdg
  rcases hK m meth c ⟨T.setVm vm₁, locs, cells, slots⟩ { g with stack := rest } (.invokevirtual index) mk (Value.ref b :: argsL).toArray X₁ hg hsize hdg hW (X₁.named hnamed) (hpre vm₁ X₁.warmed) with ⟨v, B, X', hpost, hsteps⟩ | ⟨q, B, X', hpost, hsteps⟩
  · exact Or.inl ⟨v, vm₁, B, X₁.warmed, X', hpost, fun target h => hstep₁ _ fun acts => by rw [doInvoke_state]; exact hsteps.trans h⟩
  · exact Or.inr ⟨q, vm₁, B, X₁.warmed, X', hpost, hstep₁ _ fun acts => by rw [doInvoke_state]; exact hsteps⟩
theorem vx_callS (X : Stand p l e R s m args below meth c T locs cells slots) (hexec : p.tables.exec = Jvm.exec) {own : String} {index : Nat} {y : MethodName} {bytes : ByteArray} {maxL : Nat} {ret : Option FieldType}
    (hown : s.vm.findClass own = some m.cls) (hlink : (Cond.methodLink own index y).before args s = true) (hstat : (Cond.static y).before args s = true) (hinit : (Cond.initialized y.cls).before args s = true)
    (hcode : (Cond.code y bytes maxL ret).before args s = true) (hy : y.cls ≠ "java/lang/invoke/MethodHandle" ∧ y.cls ≠ "java/lang/invoke/VarHandle")
    {W9 : Nat} {Pre : Pt → Array Value → Prop} {Post : Pt → Array Value → Option Value → Pt → Prop} {PostX : Pt → Array Value → Addr → Pt → Prop} (hK : vx_Back l R p e below s args y 3 W9 Pre Post PostX)
    {g : JFrame} (hg : g.method = m) (hsize : g.locals.size = c.maxLocals) {argsL rest : List Value} (hlen : ∀ sig, parseMethodDescriptor y.desc = some sig → argsL.length = sig.parameters.length)
    (hstack : g.stack = argsL.reverse ++ rest) (hW : 2 * g.monitorRoom + (rest.map fun v => v.category).sum ≤ W9) (hdg : decode c.code g.pc = .ok (.invokestatic index, 3))
    (hpre : ∀ vm₁, s.WarmedH vm₁ → Pre ⟨T.setVm vm₁, locs, cells, slots⟩ argsL.toArray) :
    (∃ (v : Option Value) (vm₁ : Vm) (B : Pt), s.WarmedH vm₁ ∧ Stand p l e R s m args below meth c B.U B.locs B.cells B.slots ∧ Post ⟨T.setVm vm₁, locs, cells, slots⟩ argsL.toArray v B ∧
      ∀ target, Steps p.tables e below (B.U.setTop { g with pc := g.pc + 3, stack := v.toList ++ rest }) target → Steps p.tables e below (T.setTop g) target) ∨
    (∃ (q : Addr) (vm₁ : Vm) (B : Pt), s.WarmedH vm₁ ∧ Stand p l e R s m args below meth c B.U B.locs B.cells B.slots ∧ PostX ⟨T.setVm vm₁, locs, cells, slots⟩ argsL.toArray q B ∧
      Steps p.tables e below (T.setTop g) ((B.U.setTop { g with stack := rest }).pushFrame (.throwing q))) := by
  obtain ⟨mk, hnamed⟩ := Cond.code_named hcode
  obtain ⟨methM, cM, hmethM, -, -, -, -, -, -, hsigM⟩ := Cond.code_spec hnamed hcode
  have hstatic : methM.isStatic = true := Cond.static_spec hnamed hmethM hstat
  obtain ⟨kP, hkP, -⟩ := className_of_methodNamed hnamed
  have hinitP : kP.init = .initialized := Cond.initialized_spec (findClass_of_methodNamed hnamed) hkP hinit
  obtain ⟨vm₁, X₁, hstep₁⟩ := X.invokestatic hexec hown hlink hnamed hmethM hstatic hkP hinitP hy (g := g) hg (argsL := argsL) (rest := rest) (hlen _ hsigM) hstack hdg
  rcases hK m meth c ⟨T.setVm vm₁, locs, cells, slots⟩ { g with stack := rest } (.invokestatic index) mk argsL.toArray X₁ hg hsize hdg hW (X₁.named hnamed) (hpre vm₁ X₁.warmed) with ⟨v, B, X', hpost, hsteps⟩ | ⟨q, B, X', hpost, hsteps⟩
  · exact Or.inl ⟨v, vm₁, B, X₁.warmed, X', hpost, fun target h => hstep₁ _ fun acts => by rw [doInvoke_state]; exact hsteps.trans h⟩
  · exact Or.inr ⟨q, vm₁, B, X₁.warmed, X', hpost, hstep₁ _ fun acts => by rw [doInvoke_state]; exact hsteps⟩
end Calls
theorem vx_cls {s : State} {T : State} {vm₁ : Vm} {E : String} {k : ClassId} (hW : s.WarmedH vm₁) (h : (T.setVm vm₁).vm.findClass E = some k) : s.vm.findClass E = some k := by
  have h1 : vm₁.findClass E = some k := h
  rw [hW.alike.findClass] at h1
  exact h1
/-- the method's frame g, with q thrown over it -/
def vx_W (p : Program) (l : Launch) (e : Env) (R : Room) (s : State) (m : MethodId) (args : Array Value) (below : List Frame) (meth : Method) (c : Code) (H : Heap) (locs : List Loc) (cells slots : Nat) (Q : State → Prop) (g : JFrame) (q : Addr) : Prop :=
  ∀ T : State, T.heap = H → Stand p l e R s m args below meth c T locs cells slots → ∃ t, Steps p.tables e below ((T.setTop g).pushFrame (.throwing q)) t ∧ Q t
def vx_Run (p : Program) (l : Launch) (e : Env) (R : Room) (s : State) (m : MethodId) (args : Array Value) (below : List Frame) (meth : Method) (c : Code) (H : Heap) (locs : List Loc) (cells slots mc ms : Nat) (g : JFrame) (rest : List Value) (Qa : State → Outcome → State → Prop) (XC : String → State → State → Prop) (free : Addr → Prop) : Prop :=
  ∀ T : State, T.heap = H → Stand p l e R s m args below meth c T locs cells slots →
    (∃ (v : Option Value) (st₀ t T' : State) (L : List Loc), st₀.heap = H ∧ Stand p l e R s m args below meth c T' (locs ++ L) (cells + mc) (slots + ms) ∧ (∀ q ∈ L, free q.base) ∧ T'.heap = t.heap ∧ T'.vm = t.vm ∧ Qa st₀ (.returned v) t ∧
      Goes p e below T g T' { g with pc := g.pc + 3, stack := v.toList ++ rest }) ∨
    (∃ (q : Addr) (st₀ t T' : State) (L : List Loc) (E : String) (ce : Cell), st₀.heap = H ∧ Stand p l e R s m args below meth c T' (locs ++ L) (cells + mc) (slots + ms) ∧ (∀ z ∈ L, free z.base) ∧ T'.heap = t.heap ∧ T'.vm = t.vm ∧ XC E st₀ t ∧ t.heap[q]? = some ce ∧ ce.vm = .none ∧ s.vm.findClass E = some ce.cls ∧
      Steps p.tables e below (T.setTop g) ((T'.setTop { g with stack := rest }).pushFrame (.throwing q)))
def vx_X {S : Type} (px : S → Prop) (B : String → S → State → Prop) (A : Nat → Prop) : String → State → State → Prop := fun E st t => ∃ u : S, px u ∧ B E u t ∧ va_F A st t
section Runs
variable {p : Program} {l : Launch} {e : Env} {R : Room} {s : State} {m : MethodId} {args : Array Value} {below : List Frame} {meth : Method} {c : Code} {H : Heap} {locs : List Loc} {cells slots : Nat}
variable {y : MethodName} {bytes cc : ByteArray} {maxL nL mc ms n index : Nat} {ret : Option FieldType} {ws : List Cond} {rm : Room} {Pc : Array Value → State → Prop} {Qc : Array Value → State → Outcome → State → Prop} {XC : String → State → State → Prop} {free : Addr → Prop} {Ts : List Cond} {own C : String} {b : Addr} {As rest : List Value} {g : JFrame}
theorem vx_callBack (cb : CallB R s args own index y bytes maxL ret ws rm mc ms n) (hM : vx_Met l y ws rm Pc Qc XC mc ms free) (hbl : FrameBlind Pc) : vx_Back l R p e below s args y 3 8 (PreOf R mc ms Pc) (PostOf Qc mc ms free) (vx_Post XC mc ms free) := by
  obtain ⟨hrc, hrs, hfr, hlo, hws, hcw, -, hini, -⟩ := cb
  exact vx_back (bytes := bytes) (maxL := maxL) (ret := ret) hM hbl hrc hrs hfr hlo hws hcw (fun a' U hW => word_at hW (Or.inl (by first | rfl | simp [Cond.onTables, Cond.keeps, Cond.steady])) hini)
theorem vx_runV (S : CallFix p m c cc nL s args Ts own) (hM : vx_Met l y ws rm Pc Qc XC mc ms free) (cw : CallW R s args own C index y bytes maxL ret ws rm mc ms n) (hp : PreV s H C b Pc As)
    (hg : g.method = m) (hn : As.length = n) (hsize : g.locals.size = nL) (hstack : g.stack = As.reverse ++ .ref b :: rest) (hW : 2 * g.monitorRoom + (rest.map fun v => v.category).sum ≤ 8) (hdg : decode cc g.pc = .ok (.invokevirtual index, 3)) (hf : cells + mc ≤ R.cells ∧ slots + ms ≤ R.slots) :
    vx_Run p l e R s m args below meth c H locs cells slots mc ms g rest (Qc (Value.ref b :: As).toArray) XC free := by
  have hK : vx_Back l R p e below s args y 3 8 (PreOf R mc ms Pc) (PostOf Qc mc ms free) (vx_Post XC mc ms free) := vx_callBack cw.1 hM hp.1
  obtain ⟨⟨-, -, -, -, -, -, hcode, -, hy, hlen, hl⟩, hin, hse⟩ := cw
  obtain ⟨hx, hb, hml, ho, -⟩ := S
  obtain ⟨-, ⟨cellB, hcB, hoB, hclB⟩, hPc⟩ := hp
  intro T hT X
  rcases vx_callV X hx (C := C) (bytes := bytes) (maxL := maxL) (ret := ret) ho hl hin hse hcode hy hK (by rw [hT]; exact hcB) hoB hclB hg (hsize.trans hml.symm) (argsL := As) (rest := rest) (fun sig h => hn.trans (hlen sig h)) hstack hW (by rw [hb]; exact hdg)
    (fun vm₁ hW₁ => ⟨hf.1, hf.2, hPc (T.setVm vm₁) hT hW₁⟩) with ⟨v, vm₁, ⟨U', l2, c2, s2⟩, hW₁, X', ⟨g', mk, t, L, e1, e2, hq, h1, hL, h2, h3⟩, st⟩ | ⟨q, vm₁, ⟨U', l2, c2, s2⟩, hW₁, X', ⟨g', mk, t, L, E, ce, e1, e2, hq, hce, hcv, hcl, h1, hL, h2, h3⟩, st⟩
  · dsimp only [Pt.U, Pt.locs, Pt.cells, Pt.slots] at X' e1 e2 h1 h2 h3 st
    subst h1; subst h2; subst h3
    exact Or.inl ⟨v, (T.setVm vm₁).calling g' mk (Value.ref b :: As).toArray, t, U', L, hT, X', hL, e1, e2, hq, st⟩
  · dsimp only [Pt.U, Pt.locs, Pt.cells, Pt.slots] at X' e1 e2 h1 h2 h3 st hcl
    subst h1; subst h2; subst h3
    exact Or.inr ⟨q, (T.setVm vm₁).calling g' mk (Value.ref b :: As).toArray, t, U', L, E, ce, hT, X', hL, e1, e2, hq, hce, hcv, vx_cls hW₁ hcl, st⟩
theorem vx_runS (S : CallFix p m c cc nL s args Ts own) (hM : vx_Met l y ws rm Pc Qc XC mc ms free) (cw : CallB R s args own index y bytes maxL ret ws rm mc ms n ∧ (Cond.static y).before args s = true) (hp : PreS s H Pc As)
    (hg : g.method = m) (hn : As.length = n) (hsize : g.locals.size = nL) (hstack : g.stack = As.reverse ++ rest) (hW : 2 * g.monitorRoom + (rest.map fun v => v.category).sum ≤ 8) (hdg : decode cc g.pc = .ok (.invokestatic index, 3)) (hf : cells + mc ≤ R.cells ∧ slots + ms ≤ R.slots) :
    vx_Run p l e R s m args below meth c H locs cells slots mc ms g rest (Qc As.toArray) XC free := by
  have hK : vx_Back l R p e below s args y 3 8 (PreOf R mc ms Pc) (PostOf Qc mc ms free) (vx_Post XC mc ms free) := vx_callBack cw.1 hM hp.1
  obtain ⟨⟨-, -, -, -, -, -, hcode, hini, hy, hlen, hl⟩, hstt⟩ := cw
  obtain ⟨hx, hb, hml, ho, -⟩ := S
  intro T hT X
  rcases vx_callS X hx (bytes := bytes) (maxL := maxL) (ret := ret) ho hl hstt hini hcode hy hK hg (hsize.trans hml.symm) (argsL := As) (rest := rest) (fun sig h => hn.trans (hlen sig h)) hstack hW (by rw [hb]; exact hdg)
    (fun vm₁ hW₁ => ⟨hf.1, hf.2, hp.2 (T.setVm vm₁) hT hW₁⟩) with ⟨v, vm₁, ⟨U', l2, c2, s2⟩, hW₁, X', ⟨g', mk, t, L, e1, e2, hq, h1, hL, h2, h3⟩, st⟩ | ⟨q, vm₁, ⟨U', l2, c2, s2⟩, hW₁, X', ⟨g', mk, t, L, E, ce, e1, e2, hq, hce, hcv, hcl, h1, hL, h2, h3⟩, st⟩
  · dsimp only [Pt.U, Pt.locs, Pt.cells, Pt.slots] at X' e1 e2 h1 h2 h3 st
    subst h1; subst h2; subst h3
    exact Or.inl ⟨v, (T.setVm vm₁).calling g' mk As.toArray, t, U', L, hT, X', hL, e1, e2, hq, st⟩
  · dsimp only [Pt.U, Pt.locs, Pt.cells, Pt.slots] at X' e1 e2 h1 h2 h3 st hcl
    subst h1; subst h2; subst h3
    exact Or.inr ⟨q, (T.setVm vm₁).calling g' mk As.toArray, t, U', L, E, ce, hT, X', hL, e1, e2, hq, hce, hcv, vx_cls hW₁ hcl, st⟩
end Runs
section Rows
variable {p : Program} {l : Launch} {e : Env} {R : Room} {s : State} {m : MethodId} {args : Array Value} {below : List Frame} {meth : Method} {c : Code} {H : Heap} {locs : List Loc} {cells slots : Nat} {Q : State → Prop}
variable {mc ms : Nat} {free : Addr → Prop} {A0 A1 : Nat → Prop} {H0 : Heap} {a : Array Value} {pc : Nat} {ls : Array Slot} {st0 rest : List Value}
theorem vx_keep {st₀ t T' : State} {L : List Loc} (h0 : st₀.heap = H) (e1 : T'.heap = t.heap) (hS : va_S A0 H0 H locs) (hA : ∀ q, q < H.size → A1 q → A0 q) (hf : ∀ q, free q → A0 q) (hL : ∀ q ∈ L, free q.base) (hF : va_F A1 st₀ t) :
    H.size ≤ T'.heap.size ∧ (∀ q : Nat, q < H.size → ¬ A1 q → T'.heap[q]? = H[q]?) ∧ va_S A0 H0 T'.heap (locs ++ L) := by
  obtain ⟨hz, hk⟩ := hF
  rw [h0] at hz hk
  exact ⟨by rw [e1]; exact hz, fun q h1 h2 => by rw [e1]; exact hk q h1 h2,
    ⟨Nat.le_trans hS.1 (by rw [e1]; exact hz), fun q h1 h2 => by rw [e1, hk q (Nat.lt_of_lt_of_le h1 hS.1) (fun z => h2 (hA q (Nat.lt_of_lt_of_le h1 hS.1) z))]; exact hS.2.1 q h1 h2, fun q hq => by
      rcases List.mem_append.mp hq with h | h
      · exact hS.2.2 q h
      · exact hf _ (hL q h)⟩⟩
theorem vx_calli {S SX : Type} {post : Int32 → S → Prop} {px : SX → Prop} {B : S → State → Prop} {BX : String → SX → State → Prop} {AX : Nat → Prop} (hr : vx_Run p l e R s m args below meth c H locs cells slots mc ms (F0 m pc ls st0) rest (va_Qi post B A1 a) (vx_X px BX AX) free) (hS : va_S A0 H0 H locs) (hA : ∀ q, q < H.size → A1 q → A0 q) (hf : ∀ q, free q → A0 q) (hAX : ∀ q, q < H.size → AX q → A0 q)
    (kx : ∀ (E : String) (ce : Cell) (q9 : Addr) (u : SX) (t : State) (H1 : Heap) (locs1 : List Loc), t.heap = H1 → s.vm.Alike t.vm → px u → BX E u t → H.size ≤ H1.size → (∀ q : Nat, q < H.size → ¬ AX q → H1[q]? = H[q]?) → va_S A0 H0 H1 locs1 → H1[q9]? = some ce → ce.vm = .none → s.vm.findClass E = some ce.cls → vx_W p l e R s m args below meth c H1 locs1 (cells + mc) (slots + ms) Q (F0 m pc ls rest) q9)
    (kk : ∀ (r : Int32) (u : S) (t : State) (H1 : Heap) (locs1 : List Loc), t.heap = H1 → s.vm.Alike t.vm → post r u → B u t → H.size ≤ H1.size → (∀ q : Nat, q < H.size → ¬ A1 q → H1[q]? = H[q]?) → va_S A0 H0 H1 locs1 → W p l e R s m args below meth c H1 locs1 (cells + mc) (slots + ms) Q (F0 m (pc + 3) ls (.int r :: rest))) : W p l e R s m args below meth c H locs cells slots Q (F0 m pc ls st0) := by
  intro T hT X
  rcases hr T hT X with ⟨v, st₀, t, T', L, h0, X', hL, e1, e2, ⟨⟨r, u, hv, hp, hb⟩, hF⟩, st⟩ | ⟨q, st₀, t, T', L, E, ce, h0, X', hL, e1, e2, ⟨u, hp, hb, hF⟩, hce, hcv, hcl, st⟩
  · cases hv
    obtain ⟨k1, k2, k3⟩ := vx_keep h0 e1 hS hA hf hL hF
    obtain ⟨t2, a1, b1⟩ := kk r u t T'.heap (locs ++ L) e1.symm (by rw [← e2]; exact X'.warmed.alike) hp hb k1 k2 k3 T' rfl X'
    exact ⟨t2, st t2 a1, b1⟩
  · obtain ⟨k1, k2, k3⟩ := vx_keep h0 e1 hS hAX hf hL hF
    obtain ⟨t2, a1, b1⟩ := kx E ce q u t T'.heap (locs ++ L) e1.symm (by rw [← e2]; exact X'.warmed.alike) hp hb k1 k2 k3 (by rw [e1]; exact hce) hcv hcl T' rfl X'
    exact ⟨t2, st.trans a1, b1⟩
theorem vx_calll {S SX : Type} {post : Int64 → S → Prop} {px : SX → Prop} {B : S → State → Prop} {BX : String → SX → State → Prop} {AX : Nat → Prop} (hr : vx_Run p l e R s m args below meth c H locs cells slots mc ms (F0 m pc ls st0) rest (va_Ql post B A1 a) (vx_X px BX AX) free) (hS : va_S A0 H0 H locs) (hA : ∀ q, q < H.size → A1 q → A0 q) (hf : ∀ q, free q → A0 q) (hAX : ∀ q, q < H.size → AX q → A0 q)
    (kx : ∀ (E : String) (ce : Cell) (q9 : Addr) (u : SX) (t : State) (H1 : Heap) (locs1 : List Loc), t.heap = H1 → s.vm.Alike t.vm → px u → BX E u t → H.size ≤ H1.size → (∀ q : Nat, q < H.size → ¬ AX q → H1[q]? = H[q]?) → va_S A0 H0 H1 locs1 → H1[q9]? = some ce → ce.vm = .none → s.vm.findClass E = some ce.cls → vx_W p l e R s m args below meth c H1 locs1 (cells + mc) (slots + ms) Q (F0 m pc ls rest) q9)
    (kk : ∀ (r : Int64) (u : S) (t : State) (H1 : Heap) (locs1 : List Loc), t.heap = H1 → s.vm.Alike t.vm → post r u → B u t → H.size ≤ H1.size → (∀ q : Nat, q < H.size → ¬ A1 q → H1[q]? = H[q]?) → va_S A0 H0 H1 locs1 → W p l e R s m args below meth c H1 locs1 (cells + mc) (slots + ms) Q (F0 m (pc + 3) ls (.long r :: rest))) : W p l e R s m args below meth c H locs cells slots Q (F0 m pc ls st0) := by
  intro T hT X
  rcases hr T hT X with ⟨v, st₀, t, T', L, h0, X', hL, e1, e2, ⟨⟨r, u, hv, hp, hb⟩, hF⟩, st⟩ | ⟨q, st₀, t, T', L, E, ce, h0, X', hL, e1, e2, ⟨u, hp, hb, hF⟩, hce, hcv, hcl, st⟩
  · cases hv
    obtain ⟨k1, k2, k3⟩ := vx_keep h0 e1 hS hA hf hL hF
    obtain ⟨t2, a1, b1⟩ := kk r u t T'.heap (locs ++ L) e1.symm (by rw [← e2]; exact X'.warmed.alike) hp hb k1 k2 k3 T' rfl X'
    exact ⟨t2, st t2 a1, b1⟩
  · obtain ⟨k1, k2, k3⟩ := vx_keep h0 e1 hS hAX hf hL hF
    obtain ⟨t2, a1, b1⟩ := kx E ce q u t T'.heap (locs ++ L) e1.symm (by rw [← e2]; exact X'.warmed.alike) hp hb k1 k2 k3 (by rw [e1]; exact hce) hcv hcl T' rfl X'
    exact ⟨t2, st.trans a1, b1⟩
theorem vx_callf {S SX : Type} {post : UInt32 → S → Prop} {px : SX → Prop} {B : S → State → Prop} {BX : String → SX → State → Prop} {AX : Nat → Prop} (hr : vx_Run p l e R s m args below meth c H locs cells slots mc ms (F0 m pc ls st0) rest (va_Qf post B A1 a) (vx_X px BX AX) free) (hS : va_S A0 H0 H locs) (hA : ∀ q, q < H.size → A1 q → A0 q) (hf : ∀ q, free q → A0 q) (hAX : ∀ q, q < H.size → AX q → A0 q)
    (kx : ∀ (E : String) (ce : Cell) (q9 : Addr) (u : SX) (t : State) (H1 : Heap) (locs1 : List Loc), t.heap = H1 → s.vm.Alike t.vm → px u → BX E u t → H.size ≤ H1.size → (∀ q : Nat, q < H.size → ¬ AX q → H1[q]? = H[q]?) → va_S A0 H0 H1 locs1 → H1[q9]? = some ce → ce.vm = .none → s.vm.findClass E = some ce.cls → vx_W p l e R s m args below meth c H1 locs1 (cells + mc) (slots + ms) Q (F0 m pc ls rest) q9)
    (kk : ∀ (r : UInt32) (u : S) (t : State) (H1 : Heap) (locs1 : List Loc), t.heap = H1 → s.vm.Alike t.vm → post r u → B u t → H.size ≤ H1.size → (∀ q : Nat, q < H.size → ¬ A1 q → H1[q]? = H[q]?) → va_S A0 H0 H1 locs1 → W p l e R s m args below meth c H1 locs1 (cells + mc) (slots + ms) Q (F0 m (pc + 3) ls (.float r :: rest))) : W p l e R s m args below meth c H locs cells slots Q (F0 m pc ls st0) := by
  intro T hT X
  rcases hr T hT X with ⟨v, st₀, t, T', L, h0, X', hL, e1, e2, ⟨⟨r, u, hv, hp, hb⟩, hF⟩, st⟩ | ⟨q, st₀, t, T', L, E, ce, h0, X', hL, e1, e2, ⟨u, hp, hb, hF⟩, hce, hcv, hcl, st⟩
  · cases hv
    obtain ⟨k1, k2, k3⟩ := vx_keep h0 e1 hS hA hf hL hF
    obtain ⟨t2, a1, b1⟩ := kk r u t T'.heap (locs ++ L) e1.symm (by rw [← e2]; exact X'.warmed.alike) hp hb k1 k2 k3 T' rfl X'
    exact ⟨t2, st t2 a1, b1⟩
  · obtain ⟨k1, k2, k3⟩ := vx_keep h0 e1 hS hAX hf hL hF
    obtain ⟨t2, a1, b1⟩ := kx E ce q u t T'.heap (locs ++ L) e1.symm (by rw [← e2]; exact X'.warmed.alike) hp hb k1 k2 k3 (by rw [e1]; exact hce) hcv hcl T' rfl X'
    exact ⟨t2, st.trans a1, b1⟩
theorem vx_calld {S SX : Type} {post : UInt64 → S → Prop} {px : SX → Prop} {B : S → State → Prop} {BX : String → SX → State → Prop} {AX : Nat → Prop} (hr : vx_Run p l e R s m args below meth c H locs cells slots mc ms (F0 m pc ls st0) rest (va_Qd post B A1 a) (vx_X px BX AX) free) (hS : va_S A0 H0 H locs) (hA : ∀ q, q < H.size → A1 q → A0 q) (hf : ∀ q, free q → A0 q) (hAX : ∀ q, q < H.size → AX q → A0 q)
    (kx : ∀ (E : String) (ce : Cell) (q9 : Addr) (u : SX) (t : State) (H1 : Heap) (locs1 : List Loc), t.heap = H1 → s.vm.Alike t.vm → px u → BX E u t → H.size ≤ H1.size → (∀ q : Nat, q < H.size → ¬ AX q → H1[q]? = H[q]?) → va_S A0 H0 H1 locs1 → H1[q9]? = some ce → ce.vm = .none → s.vm.findClass E = some ce.cls → vx_W p l e R s m args below meth c H1 locs1 (cells + mc) (slots + ms) Q (F0 m pc ls rest) q9)
    (kk : ∀ (r : UInt64) (u : S) (t : State) (H1 : Heap) (locs1 : List Loc), t.heap = H1 → s.vm.Alike t.vm → post r u → B u t → H.size ≤ H1.size → (∀ q : Nat, q < H.size → ¬ A1 q → H1[q]? = H[q]?) → va_S A0 H0 H1 locs1 → W p l e R s m args below meth c H1 locs1 (cells + mc) (slots + ms) Q (F0 m (pc + 3) ls (.double r :: rest))) : W p l e R s m args below meth c H locs cells slots Q (F0 m pc ls st0) := by
  intro T hT X
  rcases hr T hT X with ⟨v, st₀, t, T', L, h0, X', hL, e1, e2, ⟨⟨r, u, hv, hp, hb⟩, hF⟩, st⟩ | ⟨q, st₀, t, T', L, E, ce, h0, X', hL, e1, e2, ⟨u, hp, hb, hF⟩, hce, hcv, hcl, st⟩
  · cases hv
    obtain ⟨k1, k2, k3⟩ := vx_keep h0 e1 hS hA hf hL hF
    obtain ⟨t2, a1, b1⟩ := kk r u t T'.heap (locs ++ L) e1.symm (by rw [← e2]; exact X'.warmed.alike) hp hb k1 k2 k3 T' rfl X'
    exact ⟨t2, st t2 a1, b1⟩
  · obtain ⟨k1, k2, k3⟩ := vx_keep h0 e1 hS hAX hf hL hF
    obtain ⟨t2, a1, b1⟩ := kx E ce q u t T'.heap (locs ++ L) e1.symm (by rw [← e2]; exact X'.warmed.alike) hp hb k1 k2 k3 (by rw [e1]; exact hce) hcv hcl T' rfl X'
    exact ⟨t2, st.trans a1, b1⟩
theorem vx_callv {S SX : Type} {post : S → Prop} {px : SX → Prop} {B : S → State → Prop} {BX : String → SX → State → Prop} {AX : Nat → Prop} (hr : vx_Run p l e R s m args below meth c H locs cells slots mc ms (F0 m pc ls st0) rest (va_Qv post B A1 a) (vx_X px BX AX) free) (hS : va_S A0 H0 H locs) (hA : ∀ q, q < H.size → A1 q → A0 q) (hf : ∀ q, free q → A0 q) (hAX : ∀ q, q < H.size → AX q → A0 q)
    (kx : ∀ (E : String) (ce : Cell) (q9 : Addr) (u : SX) (t : State) (H1 : Heap) (locs1 : List Loc), t.heap = H1 → s.vm.Alike t.vm → px u → BX E u t → H.size ≤ H1.size → (∀ q : Nat, q < H.size → ¬ AX q → H1[q]? = H[q]?) → va_S A0 H0 H1 locs1 → H1[q9]? = some ce → ce.vm = .none → s.vm.findClass E = some ce.cls → vx_W p l e R s m args below meth c H1 locs1 (cells + mc) (slots + ms) Q (F0 m pc ls rest) q9)
    (kk : ∀ (u : S) (t : State) (H1 : Heap) (locs1 : List Loc), t.heap = H1 → s.vm.Alike t.vm → post u → B u t → H.size ≤ H1.size → (∀ q : Nat, q < H.size → ¬ A1 q → H1[q]? = H[q]?) → va_S A0 H0 H1 locs1 → W p l e R s m args below meth c H1 locs1 (cells + mc) (slots + ms) Q (F0 m (pc + 3) ls (rest))) : W p l e R s m args below meth c H locs cells slots Q (F0 m pc ls st0) := by
  intro T hT X
  rcases hr T hT X with ⟨v, st₀, t, T', L, h0, X', hL, e1, e2, ⟨⟨u, hv, hp, hb⟩, hF⟩, st⟩ | ⟨q, st₀, t, T', L, E, ce, h0, X', hL, e1, e2, ⟨u, hp, hb, hF⟩, hce, hcv, hcl, st⟩
  · cases hv
    obtain ⟨k1, k2, k3⟩ := vx_keep h0 e1 hS hA hf hL hF
    obtain ⟨t2, a1, b1⟩ := kk u t T'.heap (locs ++ L) e1.symm (by rw [← e2]; exact X'.warmed.alike) hp hb k1 k2 k3 T' rfl X'
    exact ⟨t2, st t2 a1, b1⟩
  · obtain ⟨k1, k2, k3⟩ := vx_keep h0 e1 hS hAX hf hL hF
    obtain ⟨t2, a1, b1⟩ := kx E ce q u t T'.heap (locs ++ L) e1.symm (by rw [← e2]; exact X'.warmed.alike) hp hb k1 k2 k3 (by rw [e1]; exact hce) hcv hcl T' rfl X'
    exact ⟨t2, st.trans a1, b1⟩
/-- caught by the row x of this method's table; the rows ahead don't take it -/
theorem vx_catch {own name : String} {E : String} {ce : Cell} {q : Addr} (hown : s.vm.findClass own = some m.cls) (pre : List ExceptionTableEntry) (x : ExceptionTableEntry) (suf : List ExceptionTableEntry) (hsplit : c.exceptionTable.toList = pre ++ x :: suf)
    (hpass : ∀ z ∈ pre, covers z pc = false ∨ (z.catchType ≠ 0 ∧ ∃ nm : String, (Cond.classLink own z.catchType nm).before args s = true ∧ va_Nc E nm s)) (hx : covers x pc = true) (h0 : x.catchType ≠ 0)
    (hlink : (Cond.classLink own x.catchType name).before args s = true) (hcast : (Cond.castable E name).before args s = true) (hcell : H[q]? = some ce) (hv : ce.vm = .none) (hcl : s.vm.findClass E = some ce.cls)
    (kk : W p l e R s m args below meth c H locs cells slots Q (F0 m x.handlerPc ls [.ref q])) : vx_W p l e R s m args below meth c H locs cells slots Q (F0 m pc ls rest) q := by
  intro T hT X
  have hpl : e.platform.magicAccessors = ({} : Platform).magicAccessors := by rw [X.admits.platform]
  obtain ⟨c3, c4, hc3, hc4, hasg⟩ := Cond.castable_spec hcast
  cases Option.some.inj (hc3.symm.trans hcl)
  obtain ⟨c5, hc5, hcl5⟩ := Cond.classLink_spec hown hlink e.platform hpl
  cases Option.some.inj (hc4.symm.trans hc5)
  obtain ⟨vm', X', st⟩ := X.thenCaughtThrough q (g := F0 m pc ls rest) rfl (Steps.refl _) (by rw [hT]; exact hcell) (by rw [hv]; rfl) (by obtain ⟨k9, h9, -⟩ := Vm.findClass_spec hcl; exact ⟨k9, h9⟩) pre x suf hsplit
    (fun z hz => by
      rcases hpass z hz with h | ⟨hz0, nm, hl1, hn1⟩
      · exact Or.inl h
      · obtain ⟨c6, hc6, hcl6⟩ := Cond.classLink_spec hown hl1 e.platform hpl
        obtain ⟨a8, b8, h1, h2, h3⟩ := hn1
        cases Option.some.inj (h1.symm.trans hcl)
        cases Option.some.inj (h2.symm.trans hc6)
        exact Or.inr ⟨hz0, _, hcl6, h3⟩) hx (Or.inr ⟨h0, c4, hcl5, hasg⟩)
  obtain ⟨t, a1, b1⟩ := kk (T.setVm vm') hT X'
  exact ⟨t, st.trans a1, b1⟩
end Rows
section Ends
variable {p : Program} {l : Launch} {e : Env} {R : Room} {s : State} {m : MethodId} {args : Array Value} {below : List Frame} {meth : Method} {c : Code} {H : Heap} {locs : List Loc} {cells slots : Nat} {Q : State → Prop}
variable {mc ms : Nat} {free : Addr → Prop} {A0 A1 : Nat → Prop} {H0 : Heap} {a : Array Value} {ls : Array Slot} {st0 rest : List Value}
variable {Qc : Array Value → State → Outcome → State → Prop} {XC : String → State → State → Prop}
/-- what a body that may throw owes at its end -/
def vx_MQ (below : List Frame) (Qc : Array Value → State → Outcome → State → Prop) (XC : String → State → State → Prop) (a : Array Value) (s : State) (mc ms : Nat) (free : Addr → Prop) : State → Prop := fun t =>
  ∃ o, t.status = .running ∧ Ended t below o ∧ vx_Q Qc XC mc ms free a s o t
theorem vx_ret {g : JFrame} {mc ms : Nat} (k : W p l e R s m args below meth c H locs cells slots (MQ below Qc args s mc ms free) g) : W p l e R s m args below meth c H locs cells slots (vx_MQ below Qc XC args s mc ms free) g := by
  intro T hT X
  obtain ⟨t, a1, o, b1, b2, b3, b4⟩ := k T hT X
  exact ⟨t, a1, o, b1, b2, Or.inl ⟨b3, b4⟩⟩
/-- not caught here: it goes on to the caller -/
theorem vx_widen {g : JFrame} {q : Addr} {k n : Nat} (h1 : cells ≤ k) (h2 : slots ≤ n) (kk : vx_W p l e R s m args below meth c H locs k n Q g q) : vx_W p l e R s m args below meth c H locs cells slots Q g q := fun T hT X => kk T hT (stand_widen X h1 h2)
theorem vx_out {pc : Nat} {E : String} {ce : Cell} {q : Addr} {mc ms : Nat} (hout : ∀ x ∈ c.exceptionTable.toList, covers x pc = false) (hlocks : meth.locks = false) (hcell : H[q]? = some ce) (hv : ce.vm = .none) (hcl : s.vm.findClass E = some ce.cls)
    (hx : ∀ t : State, t.heap = H → s.vm.Alike t.vm → XC E s t) (hf : ∀ z ∈ locs, free z.base) (hc : cells ≤ mc) (hs : slots ≤ ms) :
    vx_W p l e R s m args below meth c H locs cells slots (vx_MQ below Qc XC args s mc ms free) (F0 m pc ls rest) q := by
  intro T hT X
  obtain ⟨st1, hrun, hend, hW, hsm⟩ := X.leaveThrown q (g := F0 m pc ls rest) rfl rfl rfl hout hlocks
  have hcell9 : (T.setFrames (.throwing q :: below)).heap[q]? = some ce := by
    show T.heap[q]? = some ce
    rw [hT]; exact hcell
  exact ⟨_, st1, .threw q, hrun, hend, Or.inr ⟨q, rfl, E, ce, locs, hx _ hT hW.alike, hcell9, hv, hcl, hW, hsm.mono hc hs, hf⟩⟩
theorem vx_frame {U : State} {k n : Nat} (h : s.sameButNew ({ U with vm := s.vm } : State) locs k n) : s.heap.size ≤ U.heap.size ∧ ∀ q : Nat, q < s.heap.size → (∀ z ∈ locs, z.base ≠ q) → U.heap[q]? = s.heap[q]? := by
  obtain ⟨-, h2, -, -, -, h6⟩ := h
  refine ⟨h2, fun q hq hz => ?_⟩
  obtain ⟨c9, e1, e2, e3, e4⟩ := h6 q _ (Array.getElem?_eq_getElem hq)
  have hs : c9.slots = (s.heap[q]).slots := Array.ext_getElem? fun i => e4 i fun hm => hz _ hm rfl
  have h9 : c9 = s.heap[q] := by
    rw [hs] at e2
    exact e2
  have e5 : U.heap[q]? = some c9 := e1
  rw [e5, h9, Array.getElem?_eq_getElem hq]
/-- the words of a throw but the four that speak of the heap -/
def vx_no (w : Cond) : Bool := decide (w ≠ .isRef (.static Bundle.tN "UNASSIGNED_STACK" Bundle.steD)) && decide (w ≠ .isRef (.static Bundle.tN "SUPPRESSED_SENTINEL" Bundle.listD)) && decide (w ≠ .laysStatic Bundle.tN "UNASSIGNED_STACK" Bundle.steD) && decide (w ≠ .laysStatic Bundle.tN "SUPPRESSED_SENTINEL" Bundle.listD)
def vx_at0 (own : String) (ic : Nat) (X : String) (names : List String) : List Cond := (Bundle.ownAtoms0 own ic X names).filter vx_no
def vx_atS (own : String) (ic : Nat) (X : String) (names : List String) : List Cond := (Bundle.ownAtoms own ic X names).filter vx_no
/-- a word that the tables alone decide, or a good one -/
def vx_ot (w : Cond) : Bool := w.onTables || goodWord w
theorem vx_ot_at {args a' : Array Value} {s U : State} {w : Cond} (hW : s.WarmedH U.vm) (hvm : s.vm = U.vm) (hg : vx_ot w = true) (h : w.before args s = true) : w.before a' U = true := by
  simp only [vx_ot, Bool.or_eq_true] at hg
  rcases hg with hg | hg
  · exact va_tabs hg hvm h
  · exact word_at hW (good_of_word hg) h
/-- a list's words: the good ones out of the method's own list, the others by premises of their own -/
theorem vx_hat {args : Array Value} {s : State} {L B : List Cond} (h1 : ∀ w ∈ L.filter goodWord, w.before args s = true) (h2 : ∀ w ∈ L.filter (fun w => !goodWord w), w ∈ B) (h3 : ∀ w ∈ B, w.before args s = true) : ∀ w ∈ L, w.before args s = true := by
  intro w hw
  by_cases g : goodWord w = true
  · exact h1 w (List.mem_filter.mpr ⟨hw, g⟩)
  · refine h3 w (h2 w (List.mem_filter.mpr ⟨hw, ?_⟩))
    show (!goodWord w) = true
    cases hgw : goodWord w
    · rfl
    · exact absurd hgw g
theorem vx_c {args : Array Value} {s : State} {w : Cond} {B : List Cond} (h : w.before args s = true) (t : ∀ w ∈ B, w.before args s = true) : ∀ w' ∈ w :: B, w'.before args s = true := fun w' h' => (List.mem_cons.mp h').elim (fun e => by rw [e]; exact h) (t w')
theorem vx_n {args : Array Value} {s : State} : ∀ w ∈ ([] : List Cond), w.before args s = true := fun _ h => nomatch h
theorem vx_own {args : Array Value} {s : State} {L : List Cond} (h1 : ∀ w ∈ L.filter vx_no, w.before args s = true)
    (hU : (Cond.isRef (.static Bundle.tN "UNASSIGNED_STACK" Bundle.steD)).before args s = true) (hN : (Cond.isRef (.static Bundle.tN "SUPPRESSED_SENTINEL" Bundle.listD)).before args s = true)
    (lU : (Cond.laysStatic Bundle.tN "UNASSIGNED_STACK" Bundle.steD).before args s = true) (lN : (Cond.laysStatic Bundle.tN "SUPPRESSED_SENTINEL" Bundle.listD).before args s = true) : ∀ w ∈ L, w.before args s = true := by
  intro w hw
  by_cases e1 : w = .isRef (.static Bundle.tN "UNASSIGNED_STACK" Bundle.steD)
  · rw [e1]; exact hU
  · by_cases e2 : w = .isRef (.static Bundle.tN "SUPPRESSED_SENTINEL" Bundle.listD)
    · rw [e2]; exact hN
    · by_cases e3 : w = .laysStatic Bundle.tN "UNASSIGNED_STACK" Bundle.steD
      · rw [e3]; exact lU
      · by_cases e4 : w = .laysStatic Bundle.tN "SUPPRESSED_SENTINEL" Bundle.listD
        · rw [e4]; exact lN
        · exact h1 w (List.mem_filter.mpr ⟨hw, by unfold vx_no; rw [decide_eq_true e1, decide_eq_true e2, decide_eq_true e3, decide_eq_true e4]; rfl⟩)
/-- where a static field lies, its class's statics cell in H -/
def vx_L (C n d : String) (A : Nat → Prop) (U : State) (H : Heap) : Prop := ∃ (c : ClassId) (k : Class) (i : Nat) (f : Field) (a : Nat) (cell : Cell), U.vm.findClass C = some c ∧ U.fieldFound? C n d = some (c, k, i, f) ∧ f.isStatic = true ∧ k.statics = some a ∧ H[a]? = some cell ∧ cell.vm.isStatics = true ∧ cell.cls = c ∧ f.slot < cell.slots.size ∧ k.staticTypes[f.slot]? = some f.type ∧ ¬ A a
theorem vx_L.moved {C n d : String} {A : Nat → Prop} {u U : State} {H : Heap} (hvm : u.vm.Alike U.vm) (h : vx_L C n d A u H) : vx_L C n d A U H := by
  obtain ⟨c, k, i, f, a, cell, h1, h2, h3, h4, h5, h6, h7, h8, h9, h10⟩ := h
  obtain ⟨k', hi', he⟩ := State.fieldFound?_setVm hvm h2
  exact ⟨c, k', i, f, a, cell, by rw [hvm.findClass]; exact h1, hi', h3, by rw [he]; exact h4, h5, h6, h7, h8, by rw [he]; exact h9, h10⟩
theorem vx_L.kept {C n d : String} {A : Nat → Prop} {U : State} {H H1 : Heap} (h : vx_L C n d A U H) (hq : ∀ a : Nat, a < H.size → ¬ A a → H1[a]? = H[a]?) : vx_L C n d A U H1 := by
  obtain ⟨c, k, i, f, a, cell, h1, h2, h3, h4, h5, h6, h7, h8, h9, h10⟩ := h
  exact ⟨c, k, i, f, a, cell, h1, h2, h3, h4, by rw [hq a (Array.getElem?_eq_some_iff.mp h5).1 h10]; exact h5, h6, h7, h8, h9, h10⟩
theorem vx_L.narrow {C n d : String} {A B : Nat → Prop} {U : State} {H : Heap} (h : vx_L C n d A U H) (hAB : ∀ q, B q → A q) : vx_L C n d B U H := by
  obtain ⟨c, k, i, f, a, cell, h1, h2, h3, h4, h5, h6, h7, h8, h9, h10⟩ := h
  exact ⟨c, k, i, f, a, cell, h1, h2, h3, h4, h5, h6, h7, h8, h9, fun z => h10 (hAB _ z)⟩
theorem vx_L.word {C n d : String} {A : Nat → Prop} {s : State} {args : Array Value} (h : vx_L C n d A s s.heap) : (Cond.laysStatic C n d).before args s = true := by
  obtain ⟨c, k, i, f, a, cell, h1, h2, h3, h4, h5, h6, h7, h8, h9, -⟩ := h
  show (Cond.laysStatic C n d).holds args s none s [] = true
  exact Cond.laysStatic_of h1 h2 h3 h4 h5 h6 h7 h8 h9
/-- .. and what it holds: null or some reference -/
def vx_Zq (C n d : String) (A : Nat → Prop) (U : State) (H : Heap) : Prop := va_Zq C n d A U H ∧ vx_L C n d A U H
theorem vx_Zq.moved {C n d : String} {A : Nat → Prop} {u U : State} {H : Heap} (hvm : u.vm.Alike U.vm) (h : vx_Zq C n d A u H) : vx_Zq C n d A U H := ⟨va_Zq.moved hvm h.1, vx_L.moved hvm h.2⟩
theorem vx_Zq.kept {C n d : String} {A : Nat → Prop} {U : State} {H H1 : Heap} (h : vx_Zq C n d A U H) (hq : ∀ a : Nat, a < H.size → ¬ A a → H1[a]? = H[a]?) : vx_Zq C n d A U H1 := ⟨va_Zq.kept h.1 hq, vx_L.kept h.2 hq⟩
theorem vx_Zq.narrow {C n d : String} {A B : Nat → Prop} {U : State} {H : Heap} (h : vx_Zq C n d A U H) (hAB : ∀ q, B q → A q) : vx_Zq C n d B U H := ⟨va_Zq.narrow h.1 hAB, vx_L.narrow h.2 hAB⟩
theorem vx_Zqof {args : Array Value} {s : State} {C n d : String} {A : Nat → Prop} (hl : (Cond.laysStatic C n d).before args s = true) (hini : (Cond.initialized C).before args s = true) (h : (Cond.isRef (.static C n d)).before args s = true) (hA : ∀ a : Nat, a < s.heap.size → ¬ A a) : vx_Zq C n d A s s.heap := by
  refine ⟨va_Zqof hl hini h hA, ?_⟩
  obtain ⟨c, k, i, f, a, cell, h1, h2, h3, h4, h5, h6, h7, h8, h9⟩ := Cond.laysStatic_spec hl
  exact ⟨c, k, i, f, a, cell, h1, h2, h3, h4, h5, h6, h7, h8, h9, hA a (Array.getElem?_eq_some_iff.mp h5).1⟩
theorem vx_isRef {C n d : String} {v : Value} {A : Nat → Prop} {s : State} {args : Array Value} (h : va_Z C n d v A s s.heap) (hv : v.isRef = true) : (Cond.isRef (.static C n d)).before args s = true := by
  obtain ⟨cf, kf, fi, f, a, cell, h1, h2, h3, h4, h5, h6, h7, -⟩ := h
  have he : (Term.static C n d).eval args s none [] s = some v := by
    simp [Term.eval, State.fieldNamed?, h1, h2, h4, h5, h6, h7]
  simp only [Cond.before, Cond.holds, Cond.value, he]
  cases v <;> simp_all [Value.isRef]
theorem vx_isRefq {C n d : String} {A : Nat → Prop} {s : State} {args : Array Value} (h : va_Zq C n d A s s.heap) : (Cond.isRef (.static C n d)).before args s = true := by
  rcases h with h | ⟨t, h⟩
  · exact vx_isRef h rfl
  · exact vx_isRef h rfl
/-- the same frame, seen from here: as if the method were called anew in this heap -/
theorem vx_rebase {T : State} (X : Stand p l e R s m args below meth c T locs cells slots) {R' : Room} (hf : R'.frames ≤ R.frames) (hl : R'.locals ≤ R.locals) (hc : cells + R'.cells ≤ R.cells) (hs : slots + R'.slots ≤ R.slots) :
    Stand p l e R' ((T.setVm s.vm).setFrames (.invoking m args :: below)) m args below meth c T [] 0 0 := by
  have htop : (T.setVm s.vm).topJava?.isSome := X.here.top
  have hF : ((T.setVm s.vm).setFrames (.invoking m args :: below)).frames = .invoking m args :: below := State.frames_setFrames _ (State.cur_lt_of_top htop)
  obtain ⟨g₀, hg0⟩ := Option.isSome_iff_exists.mp htop
  obtain ⟨r, hr⟩ := State.topJava?_eq_some.mp hg0
  have hl9 : e.platform.stackLimits (T.setVm s.vm).me = e.platform.stackLimits s.me := X.limits
  have hb9 : (T.setVm s.vm).me.stackBytes = s.me.stackBytes := X.bytes
  refine ⟨X.admits, X.cas, X.clock, hF, ?_, X.hears, X.method, X.code, X.here, X.tail, X.warmed, ?_, ?_, ?_⟩
  · have h := X.room
    have hU : ((T.setVm s.vm).setFrames (.invoking m args :: below)).localsInUse = s.localsInUse := by
      rw [State.localsInUse_invoking hF (meth := meth) (c := c) X.method X.code, State.localsInUse_invoking X.frames X.method X.code]
    simp only [State.hasRoom, Bool.and_eq_true, decide_eq_true_eq] at h ⊢
    obtain ⟨⟨⟨⟨h1, h2, h3, h4, h5, h6⟩, h7⟩, h8⟩, h9⟩ := h
    rw [X.frames, List.length_cons] at h2 h3
    have q1 := X.heapSize
    have q2 := X.used
    simp only [hF, hU, List.length_cons, State.stackLimits_setFrames, State.stackBytes_setFrames, hl9, hb9]
    refine ⟨⟨⟨⟨by omega, by omega, by omega, by omega, by omega, h6⟩, ?_⟩, ?_⟩, X.book⟩
    · show T.heap.size + R'.cells ≤ e.platform.maxCells
      omega
    · show T.slotsUsed + R'.slots ≤ e.platform.maxSlots
      omega
  · rw [State.stackLimits_setFrames]; rfl
  · rw [State.stackBytes_setFrames]; rfl
  · refine ⟨?_, Nat.le_refl _, Nat.le_refl _, ?_, ?_, fun a c9 h9 => ⟨c9, h9, rfl, rfl, fun _ _ => rfl⟩⟩
    · obtain ⟨t, ht, -⟩ := State.frames_cons hr
      show T.setVm s.vm = { ((T.setVm s.vm).setFrames (.invoking m args :: below)).setFrames (T.setVm s.vm).frames with heap := T.heap, slotsUsed := T.slotsUsed }
      rw [State.setFrames_setFrames, State.setFrames_self ht]
      rfl
    · show T.slotsUsed = T.slotsUsed + ((T.heap.toList.drop T.heap.size).map (·.slots.size)).sum
      rw [List.drop_eq_nil_of_le (Nat.le_of_eq Array.length_toList)]
      rfl
    · show ((T.heap.toList.drop T.heap.size).map (·.slots.size)).sum ≤ 0
      rw [List.drop_eq_nil_of_le (Nat.le_of_eq Array.length_toList)]
      exact Nat.le_refl _
/-- 'throw new E()': new; dup; invokespecial; athrow -/
theorem vx_throw0 {cc : ByteArray} {pc : Nat} (hexec : p.tables.exec = Jvm.exec) (hb : c.code = cc) (hl : l.stackTraces = false) {own cls : String} {names : List String} {ik ic mc ms : Nat} {A : Nat → Prop}
    (hown : s.vm.findClass own = some m.cls) (hcls : Bundle.fit cls = true) (hnames : ∀ n ∈ names, Bundle.fit n = true)
    (hk : (Cond.classLink own ik cls).before args s = true) (hini : (Cond.initialized cls).before args s = true) (hat : ∀ w ∈ vx_at0 own ic cls names, w.before args s = true)
    (hgood : ∀ w ∈ Cond.classLink own ik cls :: Cond.initialized cls :: vx_at0 own ic cls names, vx_ot w = true)
    (hU : vx_Zq Bundle.tN "UNASSIGNED_STACK" Bundle.steD A s s.heap) (hN : vx_Zq Bundle.tN "SUPPRESSED_SENTINEL" Bundle.listD A s s.heap) (hS : va_S A s.heap H locs) (hsize : ls.size = c.maxLocals)
    (d0 : decode cc pc = .ok (.new ik, 3)) (d3 : decode cc (pc + 3) = .ok (.dup, 1)) (d4 : decode cc (pc + 4) = .ok (.invokespecial ic, 3)) (d7 : decode cc (pc + 7) = .ok (.athrow, 1))
    (hout : ∀ x ∈ c.exceptionTable.toList, covers x (pc + 7) = false)
    (hRframes : names.length + 3 < R.frames) (hRlocals : (rest.map fun v => v.category).sum + (13 * (names.length + 1) + 42) ≤ R.locals) (hRcells : cells + 1 ≤ R.cells) (hRslots : slots + 6 ≤ R.slots) (hlocks : meth.locks = false)
    (hx : ∀ t : State, s.vm.Alike t.vm → H.size ≤ t.heap.size → (∀ q : Nat, q < H.size → t.heap[q]? = H[q]?) → XC cls s t)
    (hf : ∀ z ∈ locs, free z.base) (hc : cells + 1 ≤ mc) (hs : slots + 6 ≤ ms) :
    W p l e R s m args below meth c H locs cells slots (vx_MQ below Qc XC args s mc ms free) (F0 m pc ls rest) := by
  intro T hT X
  have htr : e.platform.stackTraces = false := (show e.platform.stackTraces = l.stackTraces by rw [X.admits.platform]).trans hl
  have Y := vx_rebase X (R' := { frames := R.frames, locals := R.locals, cells := 1, slots := 6 }) (Nat.le_refl _) (Nat.le_refl _) hRcells hRslots
  obtain ⟨s', hA⟩ : ∃ z, z = (T.setVm s.vm).setFrames (.invoking m args :: below) := ⟨_, rfl⟩
  rw [← hA] at Y
  have hvm : s'.vm = s.vm := by rw [hA]; rfl
  have hhp : s'.heap = H := by rw [hA]; exact hT
  have hW0 : s.WarmedH s'.vm := by rw [hvm]; exact State.WarmedH.refl s
  have hat' : ∀ w ∈ vx_at0 own ic cls names, w.before args s' = true := fun w hw => vx_ot_at hW0 hvm.symm (hgood w (List.mem_cons_of_mem _ (List.mem_cons_of_mem _ hw))) (hat w hw)
  have hk' : (Cond.classLink own ik cls).before args s' = true := vx_ot_at hW0 hvm.symm (hgood _ List.mem_cons_self) hk
  have hini' : (Cond.initialized cls).before args s' = true := vx_ot_at hW0 hvm.symm (hgood _ (List.mem_cons_of_mem _ List.mem_cons_self)) hini
  have hU' : vx_Zq Bundle.tN "UNASSIGNED_STACK" Bundle.steD A s' s'.heap := by rw [hhp]; exact vx_Zq.moved hW0.alike (hU.kept hS.2.1)
  have hN' : vx_Zq Bundle.tN "SUPPRESSED_SENTINEL" Bundle.listD A s' s'.heap := by rw [hhp]; exact vx_Zq.moved hW0.alike (hN.kept hS.2.1)
  have h : ∀ w ∈ Bundle.ownAtoms0 own ic cls names, w.before args s' = true := vx_own hat' (vx_isRefq hU'.1) (vx_isRefq hN'.1) hU'.2.word hN'.2.word
  have hown' : s'.vm.findClass own = some m.cls := by rw [hvm]; exact hown
  have hins : (Cond.instantiable cls 6).before args s' = true := h _ (by simp [Bundle.ownAtoms0])
  obtain ⟨vm₁, cX, kX, hfX, hkX, -, -, X₁, st1⟩ := Y.newCold hexec (own := own) (C := cls) (index := ik) (n := 6) hown' hk' hins hini'
    (g := F0 m pc ls rest) rfl (by rw [hb]; exact d0) (Nat.le_refl _) (Nat.le_refl _)
  generalize hT1 : (T.setVm vm₁).pushCell { cls := cX, slots := kX.instanceTypes.map defaultValue, vm := .none } = T1 at X₁ st1
  have hcat : (Value.ref T.heap.size).category = 1 := rfl
  have hcellA : T1.heap[T.heap.size]? = some (freshCell cX kX) := by rw [← hT1]; exact State.heap_pushCell_size _ _
  have d3' : decode c.code (pc + 3) = .ok (.dup, 1) := by rw [hb]; exact d3
  obtain ⟨U, hsteps, hrun, hend, hW, hsame, ce, hce, hO⟩ := X₁.ctorThrow0 hexec htr (own := own) (cls := cls) (names := names) (ic := ic) hown' hcls hnames h (fun x hx => nomatch hx) hfX hkX hcellA (by rw [hhp, hT]; exact Nat.le_refl _)
    (g := { method := m, pc := pc + 4, locals := ls, stack := .ref T.heap.size :: .ref T.heap.size :: rest, locked := none }) rfl hsize rfl rfl (rest := rest) rfl
    (by rw [hb]; exact d4) (by rw [hb]; exact d7) hout hRframes (by simp only [List.map_cons, List.sum_cons, hcat]; omega) hlocks
  obtain ⟨f1, f2⟩ := vx_frame hsame
  rw [hhp] at f1 f2
  have hWs : s.WarmedH U.vm := State.WarmedH.trans hW0 hW
  have hcl : s.vm.findClass cls = some ce.cls := by
    have h9 := hO.cls
    rw [hvm] at h9
    exact h9
  have hall : s.sameButNew ({ U with vm := s.vm } : State) locs mc ms := by
    subst hA
    obtain ⟨e1, e2⟩ := hsame
    rw [State.setFrames_setFrames] at e1
    have h2 : (T.setVm s.vm).sameButNew ({ U with vm := s.vm } : State) [] (0 + 1) (0 + 6) := ⟨e1, e2⟩
    have h3 := X.same.trans h2
    rw [List.append_nil] at h3
    exact h3.mono hc hs
  refine ⟨U, ?_, .threw T.heap.size, hrun, hend, Or.inr ⟨T.heap.size, rfl, cls, ce, locs, hx U hWs.alike f1 (fun q hq => f2 q hq (fun z hz => nomatch hz)), hce, hO.vm, hcl, hWs, hall, hf⟩⟩
  refine st1 _ ?_
  show Steps p.tables e below (T1.setTop { method := m, pc := pc + 3, locals := ls, stack := .ref T.heap.size :: rest, locked := none }) _
  jvm_step X₁.here [X₁.here.top, hexec, d3', Value.category]
  exact hsteps
/-- 'throw new E("text")': new; dup; ldc; invokespecial; athrow -/
theorem vx_throwS {cc : ByteArray} {pc : Nat} (hexec : p.tables.exec = Jvm.exec) (hb : c.code = cc) (hl : l.stackTraces = false) {own cls text : String} {names : List String} {ik is ic mc ms sa : Nat} {A : Nat → Prop}
    (hown : s.vm.findClass own = some m.cls) (hcls : Bundle.fit cls = true) (hnames : ∀ n ∈ names, Bundle.fit n = true)
    (hk : (Cond.classLink own ik cls).before args s = true) (hini : (Cond.initialized cls).before args s = true) (hstr : vk_R own is text sa s) (hat : ∀ w ∈ vx_atS own ic cls names, w.before args s = true)
    (hgood : ∀ w ∈ Cond.classLink own ik cls :: Cond.initialized cls :: vx_atS own ic cls names, vx_ot w = true)
    (hU : vx_Zq Bundle.tN "UNASSIGNED_STACK" Bundle.steD A s s.heap) (hN : vx_Zq Bundle.tN "SUPPRESSED_SENTINEL" Bundle.listD A s s.heap) (hS : va_S A s.heap H locs) (hsize : ls.size = c.maxLocals)
    (d0 : decode cc pc = .ok (.new ik, 3)) (d3 : decode cc (pc + 3) = .ok (.dup, 1)) (d4 : decode cc (pc + 4) = .ok (.ldc is, 2)) (d6 : decode cc (pc + 6) = .ok (.invokespecial ic, 3)) (d9 : decode cc (pc + 9) = .ok (.athrow, 1))
    (hout : ∀ x ∈ c.exceptionTable.toList, covers x (pc + 9) = false)
    (hRframes : names.length + 3 < R.frames) (hRlocals : (rest.map fun v => v.category).sum + (13 * (names.length + 1) + 43) ≤ R.locals) (hRcells : cells + 1 ≤ R.cells) (hRslots : slots + 6 ≤ R.slots) (hlocks : meth.locks = false)
    (hx : ∀ t : State, s.vm.Alike t.vm → H.size ≤ t.heap.size → (∀ q : Nat, q < H.size → t.heap[q]? = H[q]?) → XC cls s t)
    (hf : ∀ z ∈ locs, free z.base) (hc : cells + 1 ≤ mc) (hs : slots + 6 ≤ ms) :
    W p l e R s m args below meth c H locs cells slots (vx_MQ below Qc XC args s mc ms free) (F0 m pc ls rest) := by
  intro T hT X
  have htr : e.platform.stackTraces = false := (show e.platform.stackTraces = l.stackTraces by rw [X.admits.platform]).trans hl
  have Y := vx_rebase X (R' := { frames := R.frames, locals := R.locals, cells := 1, slots := 6 }) (Nat.le_refl _) (Nat.le_refl _) hRcells hRslots
  obtain ⟨s', hA⟩ : ∃ z, z = (T.setVm s.vm).setFrames (.invoking m args :: below) := ⟨_, rfl⟩
  rw [← hA] at Y
  have hvm : s'.vm = s.vm := by rw [hA]; rfl
  have hhp : s'.heap = H := by rw [hA]; exact hT
  have hW0 : s.WarmedH s'.vm := by rw [hvm]; exact State.WarmedH.refl s
  have hat' : ∀ w ∈ vx_atS own ic cls names, w.before args s' = true := fun w hw => vx_ot_at hW0 hvm.symm (hgood w (List.mem_cons_of_mem _ (List.mem_cons_of_mem _ hw))) (hat w hw)
  have hk' : (Cond.classLink own ik cls).before args s' = true := vx_ot_at hW0 hvm.symm (hgood _ List.mem_cons_self) hk
  have hini' : (Cond.initialized cls).before args s' = true := vx_ot_at hW0 hvm.symm (hgood _ (List.mem_cons_of_mem _ List.mem_cons_self)) hini
  have hU' : vx_Zq Bundle.tN "UNASSIGNED_STACK" Bundle.steD A s' s'.heap := by rw [hhp]; exact vx_Zq.moved hW0.alike (hU.kept hS.2.1)
  have hN' : vx_Zq Bundle.tN "SUPPRESSED_SENTINEL" Bundle.listD A s' s'.heap := by rw [hhp]; exact vx_Zq.moved hW0.alike (hN.kept hS.2.1)
  have h : ∀ w ∈ Bundle.ownAtoms own ic cls names, w.before args s' = true := vx_own hat' (vx_isRefq hU'.1) (vx_isRefq hN'.1) hU'.2.word hN'.2.word
  have hown' : s'.vm.findClass own = some m.cls := by rw [hvm]; exact hown
  have hins : (Cond.instantiable cls 6).before args s' = true := h _ (by simp [Bundle.ownAtoms])
  obtain ⟨vm₁, cX, kX, hfX, hkX, -, -, X₁, st1⟩ := Y.newCold hexec (own := own) (C := cls) (index := ik) (n := 6) hown' hk' hins hini'
    (g := F0 m pc ls rest) rfl (by rw [hb]; exact d0) (Nat.le_refl _) (Nat.le_refl _)
  generalize hT1 : (T.setVm vm₁).pushCell { cls := cX, slots := kX.instanceTypes.map defaultValue, vm := .none } = T1 at X₁ st1
  have hcat : (Value.ref T.heap.size).category = 1 := rfl
  have hcellA : T1.heap[T.heap.size]? = some (freshCell cX kX) := by rw [← hT1]; exact State.heap_pushCell_size _ _
  have d3' : decode c.code (pc + 3) = .ok (.dup, 1) := by rw [hb]; exact d3
  have d4' : decode c.code (pc + 4) = .ok (.ldc is, 2) := by rw [hb]; exact d4
  have hstr' : vk_R own is text sa s' := vk_R.warm hW0 hstr
  obtain ⟨U, hsteps, hrun, hend, hW, hsame, ce, hce, hO⟩ := X₁.ctorThrowS hexec htr (own := own) (cls := cls) (names := names) (ic := ic) hown' hcls hnames h (fun x hx => nomatch hx) hfX hkX hcellA (by rw [hhp, hT]; exact Nat.le_refl _) (msg := .ref sa) rfl
    (g := { method := m, pc := pc + 6, locals := ls, stack := .ref sa :: .ref T.heap.size :: .ref T.heap.size :: rest, locked := none }) rfl hsize rfl rfl (rest := rest) rfl
    (by rw [hb]; exact d6) (by rw [hb]; exact d9) hout hRframes (by simp only [List.map_cons, List.sum_cons, hcat]; omega) hlocks
  obtain ⟨f1, f2⟩ := vx_frame hsame
  rw [hhp] at f1 f2
  have hWs : s.WarmedH U.vm := State.WarmedH.trans hW0 hW
  have hcl : s.vm.findClass cls = some ce.cls := by
    have h9 := hO.cls
    rw [hvm] at h9
    exact h9
  have hall : s.sameButNew ({ U with vm := s.vm } : State) locs mc ms := by
    subst hA
    obtain ⟨e1, e2⟩ := hsame
    rw [State.setFrames_setFrames] at e1
    have h2 : (T.setVm s.vm).sameButNew ({ U with vm := s.vm } : State) [] (0 + 1) (0 + 6) := ⟨e1, e2⟩
    have h3 := X.same.trans h2
    rw [List.append_nil] at h3
    exact h3.mono hc hs
  refine ⟨U, ?_, .threw T.heap.size, hrun, hend, Or.inr ⟨T.heap.size, rfl, cls, ce, locs, hx U hWs.alike f1 (fun q hq => f2 q hq (fun z hz => nomatch hz)), hce, hO.vm, hcl, hWs, hall, hf⟩⟩
  refine st1 _ ?_
  show Steps p.tables e below (T1.setTop { method := m, pc := pc + 3, locals := ls, stack := .ref T.heap.size :: rest, locked := none }) _
  jvm_step X₁.here [X₁.here.top, hexec, d3', Value.category]
  exact X₁.ldcString hexec (own := own) (text := text) (index := is) (a := sa) hown' hstr'.1 hstr'.2
    (g := { method := m, pc := pc + 4, locals := ls, stack := .ref T.heap.size :: .ref T.heap.size :: rest, locked := none }) rfl d4' _ hsteps
/-- 'throw new E("text")', the text by a wide index -/
theorem vx_throwSW {cc : ByteArray} {pc : Nat} (hexec : p.tables.exec = Jvm.exec) (hb : c.code = cc) (hl : l.stackTraces = false) {own cls text : String} {names : List String} {ik is ic mc ms sa : Nat} {A : Nat → Prop}
    (hown : s.vm.findClass own = some m.cls) (hcls : Bundle.fit cls = true) (hnames : ∀ n ∈ names, Bundle.fit n = true)
    (hk : (Cond.classLink own ik cls).before args s = true) (hini : (Cond.initialized cls).before args s = true) (hstr : vk_R own is text sa s) (hat : ∀ w ∈ vx_atS own ic cls names, w.before args s = true)
    (hgood : ∀ w ∈ Cond.classLink own ik cls :: Cond.initialized cls :: vx_atS own ic cls names, vx_ot w = true)
    (hU : vx_Zq Bundle.tN "UNASSIGNED_STACK" Bundle.steD A s s.heap) (hN : vx_Zq Bundle.tN "SUPPRESSED_SENTINEL" Bundle.listD A s s.heap) (hS : va_S A s.heap H locs) (hsize : ls.size = c.maxLocals)
    (d0 : decode cc pc = .ok (.new ik, 3)) (d3 : decode cc (pc + 3) = .ok (.dup, 1)) (d4 : decode cc (pc + 4) = .ok (.ldc_w is, 3)) (d7 : decode cc (pc + 7) = .ok (.invokespecial ic, 3)) (d10 : decode cc (pc + 10) = .ok (.athrow, 1))
    (hout : ∀ x ∈ c.exceptionTable.toList, covers x (pc + 10) = false)
    (hRframes : names.length + 3 < R.frames) (hRlocals : (rest.map fun v => v.category).sum + (13 * (names.length + 1) + 43) ≤ R.locals) (hRcells : cells + 1 ≤ R.cells) (hRslots : slots + 6 ≤ R.slots) (hlocks : meth.locks = false)
    (hx : ∀ t : State, s.vm.Alike t.vm → H.size ≤ t.heap.size → (∀ q : Nat, q < H.size → t.heap[q]? = H[q]?) → XC cls s t)
    (hf : ∀ z ∈ locs, free z.base) (hc : cells + 1 ≤ mc) (hs : slots + 6 ≤ ms) :
    W p l e R s m args below meth c H locs cells slots (vx_MQ below Qc XC args s mc ms free) (F0 m pc ls rest) := by
  intro T hT X
  have htr : e.platform.stackTraces = false := (show e.platform.stackTraces = l.stackTraces by rw [X.admits.platform]).trans hl
  have Y := vx_rebase X (R' := { frames := R.frames, locals := R.locals, cells := 1, slots := 6 }) (Nat.le_refl _) (Nat.le_refl _) hRcells hRslots
  obtain ⟨s', hA⟩ : ∃ z, z = (T.setVm s.vm).setFrames (.invoking m args :: below) := ⟨_, rfl⟩
  rw [← hA] at Y
  have hvm : s'.vm = s.vm := by rw [hA]; rfl
  have hhp : s'.heap = H := by rw [hA]; exact hT
  have hW0 : s.WarmedH s'.vm := by rw [hvm]; exact State.WarmedH.refl s
  have hat' : ∀ w ∈ vx_atS own ic cls names, w.before args s' = true := fun w hw => vx_ot_at hW0 hvm.symm (hgood w (List.mem_cons_of_mem _ (List.mem_cons_of_mem _ hw))) (hat w hw)
  have hk' : (Cond.classLink own ik cls).before args s' = true := vx_ot_at hW0 hvm.symm (hgood _ List.mem_cons_self) hk
  have hini' : (Cond.initialized cls).before args s' = true := vx_ot_at hW0 hvm.symm (hgood _ (List.mem_cons_of_mem _ List.mem_cons_self)) hini
  have hU' : vx_Zq Bundle.tN "UNASSIGNED_STACK" Bundle.steD A s' s'.heap := by rw [hhp]; exact vx_Zq.moved hW0.alike (hU.kept hS.2.1)
  have hN' : vx_Zq Bundle.tN "SUPPRESSED_SENTINEL" Bundle.listD A s' s'.heap := by rw [hhp]; exact vx_Zq.moved hW0.alike (hN.kept hS.2.1)
  have h : ∀ w ∈ Bundle.ownAtoms own ic cls names, w.before args s' = true := vx_own hat' (vx_isRefq hU'.1) (vx_isRefq hN'.1) hU'.2.word hN'.2.word
  have hown' : s'.vm.findClass own = some m.cls := by rw [hvm]; exact hown
  have hins : (Cond.instantiable cls 6).before args s' = true := h _ (by simp [Bundle.ownAtoms])
  obtain ⟨vm₁, cX, kX, hfX, hkX, -, -, X₁, st1⟩ := Y.newCold hexec (own := own) (C := cls) (index := ik) (n := 6) hown' hk' hins hini'
    (g := F0 m pc ls rest) rfl (by rw [hb]; exact d0) (Nat.le_refl _) (Nat.le_refl _)
  generalize hT1 : (T.setVm vm₁).pushCell { cls := cX, slots := kX.instanceTypes.map defaultValue, vm := .none } = T1 at X₁ st1
  have hcat : (Value.ref T.heap.size).category = 1 := rfl
  have hcellA : T1.heap[T.heap.size]? = some (freshCell cX kX) := by rw [← hT1]; exact State.heap_pushCell_size _ _
  have d3' : decode c.code (pc + 3) = .ok (.dup, 1) := by rw [hb]; exact d3
  have d4' : decode c.code (pc + 4) = .ok (.ldc_w is, 3) := by rw [hb]; exact d4
  have hstr' : vk_R own is text sa s' := vk_R.warm hW0 hstr
  obtain ⟨U, hsteps, hrun, hend, hW, hsame, ce, hce, hO⟩ := X₁.ctorThrowS hexec htr (own := own) (cls := cls) (names := names) (ic := ic) hown' hcls hnames h (fun x hx => nomatch hx) hfX hkX hcellA (by rw [hhp, hT]; exact Nat.le_refl _) (msg := .ref sa) rfl
    (g := { method := m, pc := pc + 7, locals := ls, stack := .ref sa :: .ref T.heap.size :: .ref T.heap.size :: rest, locked := none }) rfl hsize rfl rfl (rest := rest) rfl
    (by rw [hb]; exact d7) (by rw [hb]; exact d10) hout hRframes (by simp only [List.map_cons, List.sum_cons, hcat]; omega) hlocks
  obtain ⟨f1, f2⟩ := vx_frame hsame
  rw [hhp] at f1 f2
  have hWs : s.WarmedH U.vm := State.WarmedH.trans hW0 hW
  have hcl : s.vm.findClass cls = some ce.cls := by
    have h9 := hO.cls
    rw [hvm] at h9
    exact h9
  have hall : s.sameButNew ({ U with vm := s.vm } : State) locs mc ms := by
    subst hA
    obtain ⟨e1, e2⟩ := hsame
    rw [State.setFrames_setFrames] at e1
    have h2 : (T.setVm s.vm).sameButNew ({ U with vm := s.vm } : State) [] (0 + 1) (0 + 6) := ⟨e1, e2⟩
    have h3 := X.same.trans h2
    rw [List.append_nil] at h3
    exact h3.mono hc hs
  refine ⟨U, ?_, .threw T.heap.size, hrun, hend, Or.inr ⟨T.heap.size, rfl, cls, ce, locs, hx U hWs.alike f1 (fun q hq => f2 q hq (fun z hz => nomatch hz)), hce, hO.vm, hcl, hWs, hall, hf⟩⟩
  refine st1 _ ?_
  show Steps p.tables e below (T1.setTop { method := m, pc := pc + 3, locals := ls, stack := .ref T.heap.size :: rest, locked := none }) _
  jvm_step X₁.here [X₁.here.top, hexec, d3', Value.category]
  exact X₁.ldcStringW hexec (own := own) (text := text) (index := is) (a := sa) hown' hstr'.1 hstr'.2
    (g := { method := m, pc := pc + 4, locals := ls, stack := .ref T.heap.size :: .ref T.heap.size :: rest, locked := none }) rfl d4' _ hsteps
end Ends
section Bodies
variable {l : Launch}
theorem vx_ofW {y : MethodName} {ws ws' : List Cond} {rm : Room} {Pc : Array Value → State → Prop} {Qc : Array Value → State → Outcome → State → Prop} {XC : String → State → State → Prop} {mc ms : Nat} {free : Addr → Prop} {cc : ByteArray} {maxL : Nat} {ret : Option FieldType}
    (hy : plainName y.cls = true) (hw : ws = Cond.code y cc maxL ret :: ws')
    (body : ∀ p e s m args below meth c s₁, BodyLoose p l y (headSpec ws rm) cc maxL ret e s m args below meth c s₁ → c.maxLocals = maxL → (∀ x ∈ c.exceptionTable.toList, False) → Pc args s →
      W p l e (headSpec ws rm).room s m args below meth c s.heap [] 0 0 (vx_MQ below Qc XC args s mc ms free) (entryFrame m args maxL)) : vx_Met l y ws rm Pc Qc XC mc ms free := by
  refine MetFree.of_bodyS (code := cc) (maxLocals := maxL) (ret := ret) hy ?_ ?_
  · intro args s m h hn
    obtain ⟨meth, c, h1, h2, h3, h4, h5, h6, -, -⟩ := Cond.code_spec hn (atoms_spec (ws := ws) h _ (by rw [hw]; exact List.mem_cons_self))
    exact ⟨meth, c, h1, h2, h3, h4, h5, h6⟩
  · intro p e s m args below meth c s₁ B hml hP _
    have hh0 : s₁.heap = s.heap := by rw [B.state]; rfl
    have ht : ∀ x ∈ c.exceptionTable.toList, False := by
      obtain ⟨meth9, c9, h1, h2, -, -, -, -, h7, -⟩ := Cond.code_spec B.named (atoms_spec (ws := ws) B.pre _ (by rw [hw]; exact List.mem_cons_self))
      cases Option.some.inj (h1.symm.trans B.method)
      cases Option.some.inj (h2.symm.trans (Stand.of_body B).code)
      intro x hx
      rw [Array.isEmpty_iff.mp h7] at hx
      cases hx
    obtain ⟨t, a1, o, b1, b2, b3⟩ := body p e s m args below meth c s₁ B hml ht hP s₁ hh0 (Stand.of_body B)
    exact ⟨t, o, a1, b1, b2, b3⟩
/-- the table of a body with handlers -/
theorem vx_table {p : Program} {x y : MethodName} {S : Spec} {cc bytes : ByteArray} {maxL maxL' : Nat} {ret ret' : Option FieldType} {e : Env} {s s₁ : State} {m : MethodId} {args : Array Value} {below : List Frame} {meth : Method} {c : Code} {hh : List (Nat × Nat × Nat × Nat)}
    (B : BodyLoose p l y S cc maxL ret e s m args below meth c s₁) (h : (Cond.codeWith y bytes maxL' ret' hh).before args s = true) : c.exceptionTable.toList = tableOf hh := by
  obtain ⟨m9, meth9, c9, hn9, h1, h2, -, -, h6, -⟩ := Cond.codeWith_spec h
  cases Option.some.inj (hn9.symm.trans B.named)
  cases Option.some.inj (h1.symm.trans B.method)
  cases Option.some.inj (h2.symm.trans (Stand.of_body B).code)
  rw [← h6, table_eq]
end Bodies
end VXA
/-! ===== END ===== -/
/-! ===== BEGIN a static call of a method with an exception table ===== -/
section VXS
variable {p : Program} {l : Launch} {e : Env} {R : Room} {s : State} {m : MethodId} {args : Array Value} {below : List Frame} {meth : Method} {c : Code} {T : State} {H : Heap} {locs : List Loc} {cells slots : Nat}
abbrev vx_CSW (R : Room) (s : State) (args : Array Value) (own : String) (index : Nat) (y : MethodName) (bytes : ByteArray) (maxL : Nat) (ret : Option FieldType) (hh : List (Nat × Nat × Nat × Nat)) (ws : List Cond) (rm : Room) (mc ms n : Nat) : Prop :=
  (rm.cells = mc ∧ rm.slots = ms ∧ rm.frames + 1 ≤ R.frames ∧ 8 + (maxL + 11) + rm.locals ≤ R.locals ∧ (∀ w ∈ ws, ∀ (a' : Array Value) (U : State), s.WarmedH U.vm → w.before a' U = true) ∧ Cond.codeWith y bytes maxL ret hh ∈ ws) ∧
  (Cond.codeWith y bytes maxL ret hh).before args s = true ∧ (Cond.initialized y.cls).before args s = true ∧ (y.cls ≠ "java/lang/invoke/MethodHandle" ∧ y.cls ≠ "java/lang/invoke/VarHandle") ∧
  (∀ sig, parseMethodDescriptor y.desc = some sig → n = sig.parameters.length) ∧ (Cond.methodLink own index y).before args s = true ∧ (Cond.static y).before args s = true
theorem vx_cwSW {own : String} {index maxL mc ms : Nat} {y : MethodName} {bytes : ByteArray} {ret : Option FieldType} {hh : List (Nat × Nat × Nat × Nat)} {Ts ws ws' : List Cond} {rm : Room} (n : Nat) (ht : ∀ w ∈ Ts, w.before args s = true) (hT : GoodIn Ts (va_wsS own index y ws)) (hw : ws = Cond.codeWith y bytes maxL ret hh :: ws') (hrc : rm.cells = mc) (hrs : rm.slots = ms)
    (hd : y.cls ≠ "java/lang/invoke/MethodHandle" ∧ y.cls ≠ "java/lang/invoke/VarHandle" ∧ (parseMethodDescriptor y.desc).map (fun d => d.parameters.length) = some n) (hR : rm.frames + 1 ≤ R.frames ∧ 8 + (maxL + 11) + rm.locals ≤ R.locals) :
    vx_CSW R s args own index y bytes maxL ret hh ws rm mc ms n := by
  have ok : ∀ w ∈ va_wsS own index y ws, w.before args s = true := fun w h => ht w (hT w h).1
  have hG : GoodIn Ts ws := fun w h => hT w (by unfold va_wsS; exact List.mem_append_right _ h)
  have hc : Cond.codeWith y bytes maxL ret hh ∈ ws := by rw [hw]; exact List.mem_cons_self
  refine ⟨⟨hrc, hrs, hR.1, hR.2, pay_in ht hG, hc⟩, ht _ (hG _ hc).1, ok _ (by simp [va_wsS]), ⟨hd.1, hd.2.1⟩, fun sig h => ?_, ok _ (by simp [va_wsS]), ok _ (by simp [va_wsS])⟩
  have h2 := hd.2.2
  rw [h] at h2
  exact (Option.some.inj h2).symm
theorem vx_callSW (X : Stand p l e R s m args below meth c T locs cells slots) (hexec : p.tables.exec = Jvm.exec) {own : String} {index : Nat} {y : MethodName} {bytes : ByteArray} {maxL : Nat} {ret : Option FieldType} {hh : List (Nat × Nat × Nat × Nat)}
    (hown : s.vm.findClass own = some m.cls) (hlink : (Cond.methodLink own index y).before args s = true) (hstat : (Cond.static y).before args s = true) (hinit : (Cond.initialized y.cls).before args s = true)
    (hcode : (Cond.codeWith y bytes maxL ret hh).before args s = true) (hy : y.cls ≠ "java/lang/invoke/MethodHandle" ∧ y.cls ≠ "java/lang/invoke/VarHandle")
    {W9 : Nat} {Pre : Pt → Array Value → Prop} {Post : Pt → Array Value → Option Value → Pt → Prop} (hK : Back l R p e below s args y 3 W9 Pre Post)
    {g : JFrame} (hg : g.method = m) (hsize : g.locals.size = c.maxLocals) {argsL rest : List Value} (hlen : ∀ sig, parseMethodDescriptor y.desc = some sig → argsL.length = sig.parameters.length)
    (hstack : g.stack = argsL.reverse ++ rest) (hW : 2 * g.monitorRoom + (rest.map fun v => v.category).sum ≤ W9) (hdg : decode c.code g.pc = .ok (.invokestatic index, 3))
    (hpre : ∀ vm₁, s.WarmedH vm₁ → Pre ⟨T.setVm vm₁, locs, cells, slots⟩ argsL.toArray) :
    ∃ (v : Option Value) (vm₁ : Vm) (B : Pt), s.WarmedH vm₁ ∧ Stand p l e R s m args below meth c B.U B.locs B.cells B.slots ∧ Post ⟨T.setVm vm₁, locs, cells, slots⟩ argsL.toArray v B ∧
      ∀ target, Steps p.tables e below (B.U.setTop { g with pc := g.pc + 3, stack := v.toList ++ rest }) target → Steps p.tables e below (T.setTop g) target := by
  obtain ⟨mk, methM, cM, hnamed, hmethM, -, -, -, -, -, -, hsigM⟩ := Cond.codeWith_spec hcode
  have hstatic : methM.isStatic = true := Cond.static_spec hnamed hmethM hstat
  obtain ⟨kP, hkP, -⟩ := className_of_methodNamed hnamed
  have hinitP : kP.init = .initialized := Cond.initialized_spec (findClass_of_methodNamed hnamed) hkP hinit
  obtain ⟨vm₁, X₁, hstep₁⟩ := X.invokestatic hexec hown hlink hnamed hmethM hstatic hkP hinitP hy (g := g) hg (argsL := argsL) (rest := rest) (hlen _ hsigM) hstack hdg
  obtain ⟨v, B, X', hpost, hsteps⟩ := hK m meth c ⟨T.setVm vm₁, locs, cells, slots⟩ { g with stack := rest } (.invokestatic index) mk argsL.toArray X₁ hg hsize hdg hW (X₁.named hnamed) (hpre vm₁ X₁.warmed)
  exact ⟨v, vm₁, B, X₁.warmed, X', hpost, fun target h => hstep₁ _ fun acts => by rw [doInvoke_state]; exact hsteps.trans h⟩
theorem vx_runSW {y : MethodName} {bytes cc : ByteArray} {maxL nL mc ms n index : Nat} {ret : Option FieldType} {hh : List (Nat × Nat × Nat × Nat)} {ws : List Cond} {rm : Room} {Pc : Array Value → State → Prop} {Qc : Array Value → State → Outcome → State → Prop} {free : Addr → Prop} {Ts : List Cond} {own : String} {As rest : List Value} {g : JFrame}
    (S : CallFix p m c cc nL s args Ts own) (hM : Met l y ws rm Pc Qc mc ms free) (cw : vx_CSW R s args own index y bytes maxL ret hh ws rm mc ms n) (hp : PreS s H Pc As)
    (hg : g.method = m) (hn : As.length = n) (hsize : g.locals.size = nL) (hstack : g.stack = As.reverse ++ rest) (hW : 2 * g.monitorRoom + (rest.map fun v => v.category).sum ≤ 8) (hdg : decode cc g.pc = .ok (.invokestatic index, 3)) (hf : cells + mc ≤ R.cells ∧ slots + ms ≤ R.slots) :
    va_Run p l e R s m args below meth c H locs cells slots mc ms g rest (Qc As.toArray) (free) := by
  obtain ⟨⟨hrc, hrs, hfr, hlo, hws, hcw⟩, hcode, hini, hy, hlen, hl, hstt⟩ := cw
  have hK : Back l R p e below s args y 3 8 (PreOf R mc ms Pc) (PostOf Qc mc ms free) := va_backW (hh := hh) (bytes := bytes) (maxL := maxL) (ret := ret) hM hp.1 hrc hrs hfr hlo hws hcw (fun a' U hW => word_at hW (Or.inl (by first | rfl | simp [Cond.onTables, Cond.keeps, Cond.steady])) hini)
  obtain ⟨hx, hb, hml, ho, -⟩ := S
  intro T hT X
  obtain ⟨v, vm₁, ⟨U', l2, c2, s2⟩, hW₁, X', ⟨g', mk, t, L, e1, e2, hq, h1, hL, h2, h3⟩, st⟩ := vx_callSW X hx (hh := hh) (bytes := bytes) (maxL := maxL) (ret := ret) ho hl hstt hini hcode hy hK hg (hsize.trans hml.symm) (argsL := As) (rest := rest) (fun sig h => hn.trans (hlen sig h)) hstack hW (by rw [hb]; exact hdg)
    (fun vm₁ hW₁ => ⟨hf.1, hf.2, hp.2 (T.setVm vm₁) hT hW₁⟩)
  dsimp only [Pt.U, Pt.locs, Pt.cells, Pt.slots] at X' e1 e2 h1 h2 h3 st
  subst h1; subst h2; subst h3
  exact ⟨v, (T.setVm vm₁).calling g' mk As.toArray, t, U', L, hT, X', hL, e1, e2, hq, st⟩
/-- not caught here, past rows that name other classes: it goes on to the caller -/
theorem vx_outP {p : Program} {l : Launch} {e : Env} {R : Room} {s : State} {m : MethodId} {args : Array Value} {below : List Frame} {meth : Method} {c : Code} {H : Heap} {locs : List Loc} {cells slots : Nat} {free : Addr → Prop} {ls : Array Slot} {rest : List Value} {Qc : Array Value → State → Outcome → State → Prop} {XC : String → State → State → Prop}
    {pc : Nat} {own E : String} {ce : Cell} {q : Addr} {mc ms : Nat} (hown : s.vm.findClass own = some m.cls) (hlocks : meth.locks = false)
    (hpass : ∀ z ∈ c.exceptionTable.toList, covers z pc = false ∨ (z.catchType ≠ 0 ∧ ∃ nm : String, (Cond.classLink own z.catchType nm).before args s = true ∧ va_Nc E nm s)) (hcell : H[q]? = some ce) (hv : ce.vm = .none) (hcl : s.vm.findClass E = some ce.cls)
    (hx : ∀ t : State, t.heap = H → s.vm.Alike t.vm → XC E s t) (hf : ∀ z ∈ locs, free z.base) (hc : cells ≤ mc) (hs : slots ≤ ms) :
    vx_W p l e R s m args below meth c H locs cells slots (vx_MQ below Qc XC args s mc ms free) (F0 m pc ls rest) q := by
  intro T hT X
  have hpl : e.platform.magicAccessors = ({} : Platform).magicAccessors := by rw [X.admits.platform]
  obtain ⟨vm', hW', X', st⟩ := X.outThrough hlocks q (g := F0 m pc ls rest) rfl rfl rfl (cell := ce) (by rw [hT]; exact hcell) (by rw [hv]; rfl)
    (by obtain ⟨k9, h9, -⟩ := Vm.findClass_spec hcl; exact ⟨k9, h9⟩) (fun z hz => by
      rcases hpass z hz with h | ⟨hz0, nm, hl1, hn1⟩
      · exact Or.inl h
      · obtain ⟨c6, hc6, hcl6⟩ := Cond.classLink_spec hown hl1 e.platform hpl
        obtain ⟨a8, b8, h1, h2, h3⟩ := hn1
        cases Option.some.inj (h1.symm.trans hcl)
        cases Option.some.inj (h2.symm.trans hc6)
        exact Or.inr ⟨hz0, _, hcl6, h3⟩)
  obtain ⟨g₀, hfr⟩ := X'.frames_eq
  have hcell9 : ((T.setVm vm').setFrames (.throwing q :: below)).heap[q]? = some ce := by
    show T.heap[q]? = some ce
    rw [hT]; exact hcell
  have hend : Ended ((T.setVm vm').setFrames (.throwing q :: below)) below (.threw q) := State.frames_setFrames _ (State.cur_lt_of_frames hfr)
  refine ⟨(T.setVm vm').setFrames (.throwing q :: below), ?_, .threw q, X'.here.running, hend, Or.inr ⟨q, rfl, E, ce, locs, hx _ hT (X'.ends _).1.alike, hcell9, hv, hcl, (X'.ends _).1, (X'.ends _).2.mono hc hs, hf⟩⟩
  rw [X.pushThrowing_eq]
  exact st
/-- a thing of a world lies in the heap -/
theorem vx_lt {D : va_G} {cl : List vw_C} {ws : va_W} {H1 : Heap} (h : va_P D cl ws H1) {k : Nat} {q : Nat × va_E} (hk : ws[k]? = some q) : q.1 < H1.size := (h k q hk).lt
end VXS
/-! ===== END ===== -/
/-! ===== BEGIN methods with a table of their own: called by a name, returning or throwing ===== -/
section VXH
/-! vx_backW, vx_callVX, vx_callSX, vx_callVW, vx_runVW, vx_runVX, vx_runSX, vx_ofWH follow the same proofs as their sisters above (Free/Laws.lean, Shelf42/LK1.lean); vx_outP calls Shelf42/NT130.lean (outThrough). -/
section
variable {l : Launch} {R : Room} {p : Program} {e : Env} {below : List Frame} {s : State} {sargs : Array Value} {y : MethodName} {len W9 : Nat}
theorem vx_backW {ws : List Cond} {rm : Room} {Pc : Array Value → State → Prop} {Qc : Array Value → State → Outcome → State → Prop} {XC : String → State → State → Prop} {mc ms : Nat} {free : Addr → Prop} {bytes : ByteArray} {maxL : Nat} {ret : Option FieldType} {hh : List (Nat × Nat × Nat × Nat)}
    (hM : vx_Met l y ws rm Pc Qc XC mc ms free) (hblind : FrameBlind Pc) (hrc : rm.cells = mc) (hrs : rm.slots = ms)
    (hframes : rm.frames + 1 ≤ R.frames) (hlocals : W9 + (maxL + 11) + rm.locals ≤ R.locals)
    (hws : ∀ w ∈ ws, ∀ a' U, s.WarmedH U.vm → w.before a' U = true) (hcode : Cond.codeWith y bytes maxL ret hh ∈ ws) (hinit : ∀ a' U, s.WarmedH U.vm → (Cond.initialized y.cls).before a' U = true) :
    vx_Back l R p e below s sargs y len W9 (PreOf R mc ms Pc) (PostOf Qc mc ms free) (vx_Post XC mc ms free) := by
  intro m meth c A g ig mk a X hg hsize hdg hW hn hp
  have h1 : (headSpec ws rm).pre.before a A.U = true := atoms_intro fun w hw => hws w hw _ _ X.warmed
  have h2 : (Cond.codeWith y bytes maxL ret hh).before a A.U = true := hws _ hcode _ _ X.warmed
  have h3 : (Cond.initialized y.cls).before a A.U = true := hinit _ _ X.warmed
  have h4 : A.cells + (headSpec ws rm).room.cells ≤ R.cells := by rw [show (headSpec ws rm).room.cells = mc from hrc]; exact hp.1
  have h5 : A.slots + (headSpec ws rm).room.slots ≤ R.slots := by rw [show (headSpec ws rm).room.slots = ms from hrs]; exact hp.2.1
  have hPc : Pc a (A.U.calling g mk a) := hblind _ _ _ _ hp.2.2
  obtain ⟨U, Ls, c0, s0⟩ := A
  dsimp only [Pt.U, Pt.locs, Pt.cells, Pt.slots] at h1 h2 h3 h4 h5 X hn hPc ⊢
  obtain ⟨m9, methY, cY, hn9, hmY, hcY, -, hlY, -⟩ := Cond.codeWith_spec h2
  cases Option.some.inj (hn9.symm.trans hn)
  obtain ⟨kY, hkY, -⟩ := className_of_methodNamed hn
  have hinitY : kY.init = .initialized := Cond.initialized_spec (findClass_of_methodNamed hn) hkY h3
  have h : At U g.method c below := by rw [hg]; exact X.here
  have hlocals9 : W9 + (maxL + 11) + (headSpec ws rm).room.locals ≤ R.locals := hlocals
  have happ : (headSpec ws rm).appliesLoose y e.platform (U.calling g mk a) = true :=
    Spec.appliesLoose_calling (g := g) h hdg hn hkY hinitY
      (X.room_calling (g := g) (R' := (headSpec ws rm).room) hsize hmY hcY hframes (by rw [hlY]; omega) h4 h5) h1
  obtain ⟨mid, hmid⟩ := h.above
  have hfr : (U.setTop g).frames = (.java g :: mid) ++ below := by rw [State.frames_setTop' g h.top, hmid]; rfl
  obtain ⟨o, s₂, hsteps, -, hend, hq⟩ := Steps.callFree hM p X.admits X.cas X.clock (acts := []) hfr happ hPc trivial
  have hq' : vx_Q Qc XC mc ms free a (U.calling g mk a) o s₂ := hq
  rw [State.frames_setTop' g h.top] at hend
  obtain ⟨g₀, hg0⟩ := Option.isSome_iff_exists.mp h.top
  obtain ⟨r, hr⟩ := State.topJava?_eq_some.mp hg0
  have hr' : (({ U with heap := s₂.heap, slotsUsed := s₂.slotsUsed } : State).setVm s₂.vm).frames = .java g₀ :: r := hr
  rcases hq' with ⟨hqc, L, hfe, hL⟩ | ⟨q, rfl, E, ce, L, hx, hce, hcv, hcl, hW₂, hsm, hL⟩
  · obtain ⟨⟨v, rfl⟩, hW₂, e2, q2, q3, q4, q5, q6⟩ := id hfe
    have e3 : s₂ = ({ (U.calling g mk a).setFrames s₂.frames with heap := s₂.heap, slotsUsed := s₂.slotsUsed } : State).setVm s₂.vm := by
      have : s₂ = ({ s₂ with vm := (U.calling g mk a).vm } : State).setVm s₂.vm := rfl
      rw [e2] at this
      exact this
    obtain ⟨c₂, i₂, len₂, hc₂, hd₂, hf₂⟩ := hend
    have hW' : U.WarmedH s₂.vm := hW₂
    have hcc : c₂ = c := by
      have h1 : s₂.code? g.method = U.code? g.method := by
        rw [State.code?_eq, State.code?_eq, hW'.alike.method?]
      exact Option.some.inj (hc₂.symm.trans (h1.trans h.code))
    subst hcc
    have hlen : len₂ = len := by rw [hdg] at hd₂; cases hd₂; rfl
    subst hlen
    have hs₂ : s₂ = (({ U with heap := s₂.heap, slotsUsed := s₂.slotsUsed } : State).setVm s₂.vm).setTop { g with pc := g.pc + len₂, stack := v.toList ++ g.stack } := by
      refine e3.trans ?_
      rw [hf₂, State.calling_eq h.top, State.setFrames_setFrames, State.setTop_of_frames _ hr', hr]
      rfl
    have hsame : U.sameButNew ({ U with heap := s₂.heap, slotsUsed := s₂.slotsUsed } : State) L mc ms := by
      refine ⟨?_, q2, q3, q4, q5, q6⟩
      obtain ⟨t, ht, -⟩ := State.frames_cons hr
      show ({ U with heap := s₂.heap, slotsUsed := s₂.slotsUsed } : State) = { U.setFrames U.frames with heap := s₂.heap, slotsUsed := s₂.slotsUsed }
      rw [State.setFrames_self ht]
    subst hg
    refine Or.inl ⟨v, ⟨(({ U with heap := s₂.heap, slotsUsed := s₂.slotsUsed } : State).setVm s₂.vm), Ls ++ L, c0 + mc, s0 + ms⟩,
      ⟨X.admits, X.cas, X.clock, X.frames, X.room, X.hears, X.method, X.code, (X.here.setHeapUsed s₂.heap s₂.slotsUsed).setVm hW'.alike, X.tail, State.WarmedH.trans X.warmed hW', X.limits, X.bytes, X.same.trans (hsame.setVm s.vm)⟩,
      ⟨g, mk, s₂, L, rfl, rfl, hqc, rfl, hL, rfl, rfl⟩, ?_⟩
    show Steps p.tables e below _ ((({ U with heap := s₂.heap, slotsUsed := s₂.slotsUsed } : State).setVm s₂.vm).setTop { g with pc := g.pc + len₂, stack := v.toList ++ g.stack })
    rw [← hs₂]
    exact hsteps
  · obtain ⟨e2, q2, q3, q4, q5, q6⟩ := id hsm
    have e3 : s₂ = ({ (U.calling g mk a).setFrames s₂.frames with heap := s₂.heap, slotsUsed := s₂.slotsUsed } : State).setVm s₂.vm := by
      have : s₂ = ({ s₂ with vm := (U.calling g mk a).vm } : State).setVm s₂.vm := rfl
      rw [e2] at this
      exact this
    have hf₂ : s₂.frames = .throwing q :: .java g :: U.frames.tail := hend
    have hW' : U.WarmedH s₂.vm := hW₂
    have hs₂ : s₂ = ((({ U with heap := s₂.heap, slotsUsed := s₂.slotsUsed } : State).setVm s₂.vm).setTop g).pushFrame (.throwing q) := by
      refine e3.trans ?_
      rw [hf₂, State.calling_eq h.top, State.setFrames_setFrames, State.pushFrame, State.frames_setTop _ hr', State.setTop_of_frames _ hr', State.setFrames_setFrames, hr]
      rfl
    have hsame : U.sameButNew ({ U with heap := s₂.heap, slotsUsed := s₂.slotsUsed } : State) L mc ms := by
      refine ⟨?_, q2, q3, q4, q5, q6⟩
      obtain ⟨t, ht, -⟩ := State.frames_cons hr
      show ({ U with heap := s₂.heap, slotsUsed := s₂.slotsUsed } : State) = { U.setFrames U.frames with heap := s₂.heap, slotsUsed := s₂.slotsUsed }
      rw [State.setFrames_self ht]
    subst hg
    refine Or.inr ⟨q, ⟨(({ U with heap := s₂.heap, slotsUsed := s₂.slotsUsed } : State).setVm s₂.vm), Ls ++ L, c0 + mc, s0 + ms⟩,
      ⟨X.admits, X.cas, X.clock, X.frames, X.room, X.hears, X.method, X.code, (X.here.setHeapUsed s₂.heap s₂.slotsUsed).setVm hW'.alike, X.tail, State.WarmedH.trans X.warmed hW', X.limits, X.bytes, X.same.trans (hsame.setVm s.vm)⟩,
      ⟨g, mk, s₂, L, E, ce, rfl, rfl, hx, hce, hcv, hcl, rfl, hL, rfl, rfl⟩, ?_⟩
    show Steps p.tables e below _ (((({ U with heap := s₂.heap, slotsUsed := s₂.slotsUsed } : State).setVm s₂.vm).setTop g).pushFrame (.throwing q))
    rw [← hs₂]
    exact hsteps
end
variable {p : Program} {l : Launch} {e : Env} {R : Room} {s : State} {m : MethodId} {args : Array Value} {below : List Frame} {meth : Method} {c : Code} {T : State} {H : Heap} {locs : List Loc} {cells slots : Nat}
theorem vx_callVX (X : Stand p l e R s m args below meth c T locs cells slots) (hexec : p.tables.exec = Jvm.exec) {own C : String} {index : Nat} {y : MethodName} {bytes : ByteArray} {maxL : Nat} {ret : Option FieldType} {hh : List (Nat × Nat × Nat × Nat)}
    (hown : s.vm.findClass own = some m.cls) (hlink : (Cond.methodLink own index y).before args s = true) (hinst : (Cond.instanceMethod y).before args s = true) (hsel : (Cond.selects C y y).before args s = true)
    (hcode : (Cond.codeWith y bytes maxL ret hh).before args s = true) (hy : y.cls ≠ "java/lang/invoke/MethodHandle" ∧ y.cls ≠ "java/lang/invoke/VarHandle")
    {W9 : Nat} {Pre : Pt → Array Value → Prop} {Post : Pt → Array Value → Option Value → Pt → Prop} {PostX : Pt → Array Value → Addr → Pt → Prop} (hK : vx_Back l R p e below s args y 3 W9 Pre Post PostX)
    {b : Addr} {cellB : Cell} (hcell : T.heap[b]? = some cellB) (hobj : cellB.vm.isStatics = false) (hcls : s.vm.findClass C = some cellB.cls)
    {g : JFrame} (hg : g.method = m) (hsize : g.locals.size = c.maxLocals) {argsL rest : List Value} (hlen : ∀ sig, parseMethodDescriptor y.desc = some sig → argsL.length = sig.parameters.length)
    (hstack : g.stack = argsL.reverse ++ .ref b :: rest) (hW : 2 * g.monitorRoom + (rest.map fun v => v.category).sum ≤ W9) (hdg : decode c.code g.pc = .ok (.invokevirtual index, 3))
    (hpre : ∀ vm₁, s.WarmedH vm₁ → Pre ⟨T.setVm vm₁, locs, cells, slots⟩ (Value.ref b :: argsL).toArray) :
    (∃ (v : Option Value) (vm₁ : Vm) (B : Pt), s.WarmedH vm₁ ∧ Stand p l e R s m args below meth c B.U B.locs B.cells B.slots ∧ Post ⟨T.setVm vm₁, locs, cells, slots⟩ (Value.ref b :: argsL).toArray v B ∧
      ∀ target, Steps p.tables e below (B.U.setTop { g with pc := g.pc + 3, stack := v.toList ++ rest }) target → Steps p.tables e below (T.setTop g) target) ∨
    (∃ (q : Addr) (vm₁ : Vm) (B : Pt), s.WarmedH vm₁ ∧ Stand p l e R s m args below meth c B.U B.locs B.cells B.slots ∧ PostX ⟨T.setVm vm₁, locs, cells, slots⟩ (Value.ref b :: argsL).toArray q B ∧
      Steps p.tables e below (T.setTop g) ((B.U.setTop { g with stack := rest }).pushFrame (.throwing q))) := by
  obtain ⟨mk, methM, hnamed, hmethM, hstM, habM⟩ := Cond.instanceMethod_spec hinst
  obtain ⟨m8, methM', cM, hn8, hmethM', -, -, -, -, -, -, hsigM⟩ := Cond.codeWith_spec hcode
  cases Option.some.inj (hn8.symm.trans hnamed)
  cases hmethM.symm.trans hmethM'
  obtain ⟨c2, r2, m2, q1, q2, q3, q4, kP, hkP, hkPi⟩ := Cond.selects_spec hsel
  cases hcls.symm.trans q1
  cases (State.methodFound?_of_named hnamed hy).symm.trans q2
  cases hnamed.symm.trans q3
  have hselP : selectMethod e.platform s.vm cellB.cls mk = .method mk := by rw [Launch.admits_selectMethod X.admits]; exact q4
  obtain ⟨vm₁, X₁, hstep₁⟩ := X.invokevirtual hexec hown hlink hnamed hmethM hstM hkP hkPi hy (a := b) (cell := cellB) hcell
    (fun z h => by rw [h] at hobj; cases hobj) hselP hmethM habM hkP hkPi (g := g) hg (argsL := argsL) (rest := rest) (hlen _ hsigM) hstack hdg
  rcases hK m meth c ⟨T.setVm vm₁, locs, cells, slots⟩ { g with stack := rest } (.invokevirtual index) mk (Value.ref b :: argsL).toArray X₁ hg hsize hdg hW (X₁.named hnamed) (hpre vm₁ X₁.warmed) with ⟨v, B, X', hpost, hsteps⟩ | ⟨q, B, X', hpost, hsteps⟩
  · exact Or.inl ⟨v, vm₁, B, X₁.warmed, X', hpost, fun target h => hstep₁ _ fun acts => by rw [doInvoke_state]; exact hsteps.trans h⟩
  · exact Or.inr ⟨q, vm₁, B, X₁.warmed, X', hpost, hstep₁ _ fun acts => by rw [doInvoke_state]; exact hsteps⟩
theorem vx_callSX (X : Stand p l e R s m args below meth c T locs cells slots) (hexec : p.tables.exec = Jvm.exec) {own : String} {index : Nat} {y : MethodName} {bytes : ByteArray} {maxL : Nat} {ret : Option FieldType} {hh : List (Nat × Nat × Nat × Nat)}
    (hown : s.vm.findClass own = some m.cls) (hlink : (Cond.methodLink own index y).before args s = true) (hstat : (Cond.static y).before args s = true) (hinit : (Cond.initialized y.cls).before args s = true)
    (hcode : (Cond.codeWith y bytes maxL ret hh).before args s = true) (hy : y.cls ≠ "java/lang/invoke/MethodHandle" ∧ y.cls ≠ "java/lang/invoke/VarHandle")
    {W9 : Nat} {Pre : Pt → Array Value → Prop} {Post : Pt → Array Value → Option Value → Pt → Prop} {PostX : Pt → Array Value → Addr → Pt → Prop} (hK : vx_Back l R p e below s args y 3 W9 Pre Post PostX)
    {g : JFrame} (hg : g.method = m) (hsize : g.locals.size = c.maxLocals) {argsL rest : List Value} (hlen : ∀ sig, parseMethodDescriptor y.desc = some sig → argsL.length = sig.parameters.length)
    (hstack : g.stack = argsL.reverse ++ rest) (hW : 2 * g.monitorRoom + (rest.map fun v => v.category).sum ≤ W9) (hdg : decode c.code g.pc = .ok (.invokestatic index, 3))
    (hpre : ∀ vm₁, s.WarmedH vm₁ → Pre ⟨T.setVm vm₁, locs, cells, slots⟩ argsL.toArray) :
    (∃ (v : Option Value) (vm₁ : Vm) (B : Pt), s.WarmedH vm₁ ∧ Stand p l e R s m args below meth c B.U B.locs B.cells B.slots ∧ Post ⟨T.setVm vm₁, locs, cells, slots⟩ argsL.toArray v B ∧
      ∀ target, Steps p.tables e below (B.U.setTop { g with pc := g.pc + 3, stack := v.toList ++ rest }) target → Steps p.tables e below (T.setTop g) target) ∨
    (∃ (q : Addr) (vm₁ : Vm) (B : Pt), s.WarmedH vm₁ ∧ Stand p l e R s m args below meth c B.U B.locs B.cells B.slots ∧ PostX ⟨T.setVm vm₁, locs, cells, slots⟩ argsL.toArray q B ∧
      Steps p.tables e below (T.setTop g) ((B.U.setTop { g with stack := rest }).pushFrame (.throwing q))) := by
  obtain ⟨mk, methM, cM, hnamed, hmethM, -, -, -, -, -, -, hsigM⟩ := Cond.codeWith_spec hcode
  have hstatic : methM.isStatic = true := Cond.static_spec hnamed hmethM hstat
  obtain ⟨kP, hkP, -⟩ := className_of_methodNamed hnamed
  have hinitP : kP.init = .initialized := Cond.initialized_spec (findClass_of_methodNamed hnamed) hkP hinit
  obtain ⟨vm₁, X₁, hstep₁⟩ := X.invokestatic hexec hown hlink hnamed hmethM hstatic hkP hinitP hy (g := g) hg (argsL := argsL) (rest := rest) (hlen _ hsigM) hstack hdg
  rcases hK m meth c ⟨T.setVm vm₁, locs, cells, slots⟩ { g with stack := rest } (.invokestatic index) mk argsL.toArray X₁ hg hsize hdg hW (X₁.named hnamed) (hpre vm₁ X₁.warmed) with ⟨v, B, X', hpost, hsteps⟩ | ⟨q, B, X', hpost, hsteps⟩
  · exact Or.inl ⟨v, vm₁, B, X₁.warmed, X', hpost, fun target h => hstep₁ _ fun acts => by rw [doInvoke_state]; exact hsteps.trans h⟩
  · exact Or.inr ⟨q, vm₁, B, X₁.warmed, X', hpost, hstep₁ _ fun acts => by rw [doInvoke_state]; exact hsteps⟩
theorem vx_callVW (X : Stand p l e R s m args below meth c T locs cells slots) (hexec : p.tables.exec = Jvm.exec) {own C : String} {index : Nat} {y : MethodName} {bytes : ByteArray} {maxL : Nat} {ret : Option FieldType} {hh : List (Nat × Nat × Nat × Nat)}
    (hown : s.vm.findClass own = some m.cls) (hlink : (Cond.methodLink own index y).before args s = true) (hinst : (Cond.instanceMethod y).before args s = true) (hsel : (Cond.selects C y y).before args s = true)
    (hcode : (Cond.codeWith y bytes maxL ret hh).before args s = true) (hy : y.cls ≠ "java/lang/invoke/MethodHandle" ∧ y.cls ≠ "java/lang/invoke/VarHandle")
    {W9 : Nat} {Pre : Pt → Array Value → Prop} {Post : Pt → Array Value → Option Value → Pt → Prop} (hK : Back l R p e below s args y 3 W9 Pre Post)
    {b : Addr} {cellB : Cell} (hcell : T.heap[b]? = some cellB) (hobj : cellB.vm.isStatics = false) (hcls : s.vm.findClass C = some cellB.cls)
    {g : JFrame} (hg : g.method = m) (hsize : g.locals.size = c.maxLocals) {argsL rest : List Value} (hlen : ∀ sig, parseMethodDescriptor y.desc = some sig → argsL.length = sig.parameters.length)
    (hstack : g.stack = argsL.reverse ++ .ref b :: rest) (hW : 2 * g.monitorRoom + (rest.map fun v => v.category).sum ≤ W9) (hdg : decode c.code g.pc = .ok (.invokevirtual index, 3))
    (hpre : ∀ vm₁, s.WarmedH vm₁ → Pre ⟨T.setVm vm₁, locs, cells, slots⟩ (Value.ref b :: argsL).toArray) :
    ∃ (v : Option Value) (vm₁ : Vm) (B : Pt), s.WarmedH vm₁ ∧ Stand p l e R s m args below meth c B.U B.locs B.cells B.slots ∧ Post ⟨T.setVm vm₁, locs, cells, slots⟩ (Value.ref b :: argsL).toArray v B ∧
      ∀ target, Steps p.tables e below (B.U.setTop { g with pc := g.pc + 3, stack := v.toList ++ rest }) target → Steps p.tables e below (T.setTop g) target := by
  obtain ⟨mk, methM, hnamed, hmethM, hstM, habM⟩ := Cond.instanceMethod_spec hinst
  obtain ⟨m8, methM', cM, hn8, hmethM', -, -, -, -, -, -, hsigM⟩ := Cond.codeWith_spec hcode
  cases Option.some.inj (hn8.symm.trans hnamed)
  cases hmethM.symm.trans hmethM'
  obtain ⟨c2, r2, m2, q1, q2, q3, q4, kP, hkP, hkPi⟩ := Cond.selects_spec hsel
  cases hcls.symm.trans q1
  cases (State.methodFound?_of_named hnamed hy).symm.trans q2
  cases hnamed.symm.trans q3
  have hselP : selectMethod e.platform s.vm cellB.cls mk = .method mk := by rw [Launch.admits_selectMethod X.admits]; exact q4
  obtain ⟨vm₁, X₁, hstep₁⟩ := X.invokevirtual hexec hown hlink hnamed hmethM hstM hkP hkPi hy (a := b) (cell := cellB) hcell
    (fun z h => by rw [h] at hobj; cases hobj) hselP hmethM habM hkP hkPi (g := g) hg (argsL := argsL) (rest := rest) (hlen _ hsigM) hstack hdg
  obtain ⟨v, B, X', hpost, hsteps⟩ := hK m meth c ⟨T.setVm vm₁, locs, cells, slots⟩ { g with stack := rest } (.invokevirtual index) mk (Value.ref b :: argsL).toArray X₁ hg hsize hdg hW (X₁.named hnamed) (hpre vm₁ X₁.warmed)
  exact ⟨v, vm₁, B, X₁.warmed, X', hpost, fun target h => hstep₁ _ fun acts => by rw [doInvoke_state]; exact hsteps.trans h⟩
abbrev vx_CVW (R : Room) (s : State) (args : Array Value) (own C : String) (index : Nat) (y : MethodName) (bytes : ByteArray) (maxL : Nat) (ret : Option FieldType) (hh : List (Nat × Nat × Nat × Nat)) (ws : List Cond) (rm : Room) (mc ms n : Nat) : Prop :=
  (rm.cells = mc ∧ rm.slots = ms ∧ rm.frames + 1 ≤ R.frames ∧ 8 + (maxL + 11) + rm.locals ≤ R.locals ∧ (∀ w ∈ ws, ∀ (a' : Array Value) (U : State), s.WarmedH U.vm → w.before a' U = true) ∧ Cond.codeWith y bytes maxL ret hh ∈ ws) ∧
  (Cond.codeWith y bytes maxL ret hh).before args s = true ∧ (Cond.initialized y.cls).before args s = true ∧ (y.cls ≠ "java/lang/invoke/MethodHandle" ∧ y.cls ≠ "java/lang/invoke/VarHandle") ∧
  (∀ sig, parseMethodDescriptor y.desc = some sig → n = sig.parameters.length) ∧ (Cond.methodLink own index y).before args s = true ∧ (Cond.instanceMethod y).before args s = true ∧ (Cond.selects C y y).before args s = true
theorem vx_cwVW {own C : String} {index maxL mc ms : Nat} {y : MethodName} {bytes : ByteArray} {ret : Option FieldType} {hh : List (Nat × Nat × Nat × Nat)} {Ts ws ws' : List Cond} {rm : Room} (n : Nat) (ht : ∀ w ∈ Ts, w.before args s = true) (hT : GoodIn Ts (wsV own index C y ws)) (hw : ws = Cond.codeWith y bytes maxL ret hh :: ws') (hrc : rm.cells = mc) (hrs : rm.slots = ms)
    (hd : y.cls = C ∧ y.cls ≠ "java/lang/invoke/MethodHandle" ∧ y.cls ≠ "java/lang/invoke/VarHandle" ∧ (parseMethodDescriptor y.desc).map (fun d => d.parameters.length) = some n) (hR : rm.frames + 1 ≤ R.frames ∧ 8 + (maxL + 11) + rm.locals ≤ R.locals) :
    vx_CVW R s args own C index y bytes maxL ret hh ws rm mc ms n := by
  obtain ⟨hC, hd⟩ := hd
  subst hC
  have ok : ∀ w ∈ wsV own index y.cls y ws, w.before args s = true := fun w h => ht w (hT w h).1
  have hG : GoodIn Ts ws := fun w h => hT w (by unfold wsV; exact List.mem_append_right _ h)
  have hc : Cond.codeWith y bytes maxL ret hh ∈ ws := by rw [hw]; exact List.mem_cons_self
  refine ⟨⟨hrc, hrs, hR.1, hR.2, pay_in ht hG, hc⟩, ht _ (hG _ hc).1, ok _ (by simp [wsV]), ⟨hd.1, hd.2.1⟩, fun sig h => ?_, ok _ (by simp [wsV]), ok _ (by simp [wsV]), ok _ (by simp [wsV])⟩
  have h2 := hd.2.2
  rw [h] at h2
  exact (Option.some.inj h2).symm
theorem vx_runVW {y : MethodName} {bytes cc : ByteArray} {maxL nL mc ms n index : Nat} {ret : Option FieldType} {hh : List (Nat × Nat × Nat × Nat)} {ws : List Cond} {rm : Room} {Pc : Array Value → State → Prop} {Qc : Array Value → State → Outcome → State → Prop} {free : Addr → Prop} {Ts : List Cond} {own C : String} {b : Addr} {As rest : List Value} {g : JFrame}
    (S : CallFix p m c cc nL s args Ts own) (hM : Met l y ws rm Pc Qc mc ms free) (cw : vx_CVW R s args own C index y bytes maxL ret hh ws rm mc ms n) (hp : PreV s H C b Pc As)
    (hg : g.method = m) (hn : As.length = n) (hsize : g.locals.size = nL) (hstack : g.stack = As.reverse ++ .ref b :: rest) (hW : 2 * g.monitorRoom + (rest.map fun v => v.category).sum ≤ 8) (hdg : decode cc g.pc = .ok (.invokevirtual index, 3)) (hf : cells + mc ≤ R.cells ∧ slots + ms ≤ R.slots) :
    va_Run p l e R s m args below meth c H locs cells slots mc ms g rest (Qc (Value.ref b :: As).toArray) free := by
  obtain ⟨⟨hrc, hrs, hfr, hlo, hws, hcw⟩, hcode, hini, hy, hlen, hl, hin, hse⟩ := cw
  have hK : Back l R p e below s args y 3 8 (PreOf R mc ms Pc) (PostOf Qc mc ms free) := va_backW (hh := hh) (bytes := bytes) (maxL := maxL) (ret := ret) hM hp.1 hrc hrs hfr hlo hws hcw (fun a' U hW => word_at hW (Or.inl (by first | rfl | simp [Cond.onTables, Cond.keeps, Cond.steady])) hini)
  obtain ⟨hx, hb, hml, ho, -⟩ := S
  obtain ⟨-, ⟨cellB, hcB, hoB, hclB⟩, hPc⟩ := hp
  intro T hT X
  obtain ⟨v, vm₁, ⟨U', l2, c2, s2⟩, hW₁, X', ⟨g', mk, t, L, e1, e2, hq, h1, hL, h2, h3⟩, st⟩ := vx_callVW X hx (C := C) (hh := hh) (bytes := bytes) (maxL := maxL) (ret := ret) ho hl hin hse hcode hy hK (by rw [hT]; exact hcB) hoB hclB hg (hsize.trans hml.symm) (argsL := As) (rest := rest) (fun sig h => hn.trans (hlen sig h)) hstack hW (by rw [hb]; exact hdg)
    (fun vm₁ hW₁ => ⟨hf.1, hf.2, hPc (T.setVm vm₁) hT hW₁⟩)
  dsimp only [Pt.U, Pt.locs, Pt.cells, Pt.slots] at X' e1 e2 h1 h2 h3 st
  subst h1; subst h2; subst h3
  exact ⟨v, (T.setVm vm₁).calling g' mk (Value.ref b :: As).toArray, t, U', L, hT, X', hL, e1, e2, hq, st⟩
section
variable {y : MethodName} {bytes cc : ByteArray} {maxL nL mc ms n index : Nat} {ret : Option FieldType} {ws : List Cond} {rm : Room} {Pc : Array Value → State → Prop} {Qc : Array Value → State → Outcome → State → Prop} {XC : String → State → State → Prop} {free : Addr → Prop} {Ts : List Cond} {own C : String} {b : Addr} {As rest : List Value} {g : JFrame}
theorem vx_runVX {hh : List (Nat × Nat × Nat × Nat)} (S : CallFix p m c cc nL s args Ts own) (hM : vx_Met l y ws rm Pc Qc XC mc ms free) (cw : vx_CVW R s args own C index y bytes maxL ret hh ws rm mc ms n) (hp : PreV s H C b Pc As)
    (hg : g.method = m) (hn : As.length = n) (hsize : g.locals.size = nL) (hstack : g.stack = As.reverse ++ .ref b :: rest) (hW : 2 * g.monitorRoom + (rest.map fun v => v.category).sum ≤ 8) (hdg : decode cc g.pc = .ok (.invokevirtual index, 3)) (hf : cells + mc ≤ R.cells ∧ slots + ms ≤ R.slots) :
    vx_Run p l e R s m args below meth c H locs cells slots mc ms g rest (Qc (Value.ref b :: As).toArray) XC free := by
  obtain ⟨⟨hrc, hrs, hfr, hlo, hws, hcw⟩, hcode, hini, hy, hlen, hl, hin, hse⟩ := cw
  have hK : vx_Back l R p e below s args y 3 8 (PreOf R mc ms Pc) (PostOf Qc mc ms free) (vx_Post XC mc ms free) := vx_backW (hh := hh) (bytes := bytes) (maxL := maxL) (ret := ret) hM hp.1 hrc hrs hfr hlo hws hcw (fun a' U hW => word_at hW (Or.inl (by first | rfl | simp [Cond.onTables, Cond.keeps, Cond.steady])) hini)
  obtain ⟨hx, hb, hml, ho, -⟩ := S
  obtain ⟨-, ⟨cellB, hcB, hoB, hclB⟩, hPc⟩ := hp
  intro T hT X
  rcases vx_callVX X hx (C := C) (hh := hh) (bytes := bytes) (maxL := maxL) (ret := ret) ho hl hin hse hcode hy hK (by rw [hT]; exact hcB) hoB hclB hg (hsize.trans hml.symm) (argsL := As) (rest := rest) (fun sig h => hn.trans (hlen sig h)) hstack hW (by rw [hb]; exact hdg)
    (fun vm₁ hW₁ => ⟨hf.1, hf.2, hPc (T.setVm vm₁) hT hW₁⟩) with ⟨v, vm₁, ⟨U', l2, c2, s2⟩, hW₁, X', ⟨g', mk, t, L, e1, e2, hq, h1, hL, h2, h3⟩, st⟩ | ⟨q, vm₁, ⟨U', l2, c2, s2⟩, hW₁, X', ⟨g', mk, t, L, E, ce, e1, e2, hq, hce, hcv, hcl, h1, hL, h2, h3⟩, st⟩
  · dsimp only [Pt.U, Pt.locs, Pt.cells, Pt.slots] at X' e1 e2 h1 h2 h3 st
    subst h1; subst h2; subst h3
    exact Or.inl ⟨v, (T.setVm vm₁).calling g' mk (Value.ref b :: As).toArray, t, U', L, hT, X', hL, e1, e2, hq, st⟩
  · dsimp only [Pt.U, Pt.locs, Pt.cells, Pt.slots] at X' e1 e2 h1 h2 h3 st hcl
    subst h1; subst h2; subst h3
    exact Or.inr ⟨q, (T.setVm vm₁).calling g' mk (Value.ref b :: As).toArray, t, U', L, E, ce, hT, X', hL, e1, e2, hq, hce, hcv, vx_cls hW₁ hcl, st⟩
theorem vx_runSX {hh : List (Nat × Nat × Nat × Nat)} (S : CallFix p m c cc nL s args Ts own) (hM : vx_Met l y ws rm Pc Qc XC mc ms free) (cw : vx_CSW R s args own index y bytes maxL ret hh ws rm mc ms n) (hp : PreS s H Pc As)
    (hg : g.method = m) (hn : As.length = n) (hsize : g.locals.size = nL) (hstack : g.stack = As.reverse ++ rest) (hW : 2 * g.monitorRoom + (rest.map fun v => v.category).sum ≤ 8) (hdg : decode cc g.pc = .ok (.invokestatic index, 3)) (hf : cells + mc ≤ R.cells ∧ slots + ms ≤ R.slots) :
    vx_Run p l e R s m args below meth c H locs cells slots mc ms g rest (Qc As.toArray) XC free := by
  obtain ⟨⟨hrc, hrs, hfr, hlo, hws, hcw⟩, hcode, hini, hy, hlen, hl, hstt⟩ := cw
  have hK : vx_Back l R p e below s args y 3 8 (PreOf R mc ms Pc) (PostOf Qc mc ms free) (vx_Post XC mc ms free) := vx_backW (hh := hh) (bytes := bytes) (maxL := maxL) (ret := ret) hM hp.1 hrc hrs hfr hlo hws hcw (fun a' U hW => word_at hW (Or.inl (by first | rfl | simp [Cond.onTables, Cond.keeps, Cond.steady])) hini)
  obtain ⟨hx, hb, hml, ho, -⟩ := S
  intro T hT X
  rcases vx_callSX X hx (hh := hh) (bytes := bytes) (maxL := maxL) (ret := ret) ho hl hstt hini hcode hy hK hg (hsize.trans hml.symm) (argsL := As) (rest := rest) (fun sig h => hn.trans (hlen sig h)) hstack hW (by rw [hb]; exact hdg)
    (fun vm₁ hW₁ => ⟨hf.1, hf.2, hp.2 (T.setVm vm₁) hT hW₁⟩) with ⟨v, vm₁, ⟨U', l2, c2, s2⟩, hW₁, X', ⟨g', mk, t, L, e1, e2, hq, h1, hL, h2, h3⟩, st⟩ | ⟨q, vm₁, ⟨U', l2, c2, s2⟩, hW₁, X', ⟨g', mk, t, L, E, ce, e1, e2, hq, hce, hcv, hcl, h1, hL, h2, h3⟩, st⟩
  · dsimp only [Pt.U, Pt.locs, Pt.cells, Pt.slots] at X' e1 e2 h1 h2 h3 st
    subst h1; subst h2; subst h3
    exact Or.inl ⟨v, (T.setVm vm₁).calling g' mk As.toArray, t, U', L, hT, X', hL, e1, e2, hq, st⟩
  · dsimp only [Pt.U, Pt.locs, Pt.cells, Pt.slots] at X' e1 e2 h1 h2 h3 st hcl
    subst h1; subst h2; subst h3
    exact Or.inr ⟨q, (T.setVm vm₁).calling g' mk As.toArray, t, U', L, E, ce, hT, X', hL, e1, e2, hq, hce, hcv, vx_cls hW₁ hcl, st⟩
end
end VXH
theorem vx_ofWH {l : Launch} {y : MethodName} {ws ws' : List Cond} {rm : Room} {Pc : Array Value → State → Prop} {Qc : Array Value → State → Outcome → State → Prop} {XC : String → State → State → Prop} {mc ms : Nat} {free : Addr → Prop} {cc : ByteArray} {maxL : Nat} {ret : Option FieldType} {hh : List (Nat × Nat × Nat × Nat)}
    (hy : plainName y.cls = true) (hw : ws = Cond.codeWith y cc maxL ret hh :: ws')
    (body : ∀ p e s m args below meth c s₁, BodyLoose p l y (headSpec ws rm) cc maxL ret e s m args below meth c s₁ → c.maxLocals = maxL → Pc args s →
      W p l e (headSpec ws rm).room s m args below meth c s.heap [] 0 0 (vx_MQ below Qc XC args s mc ms free) (entryFrame m args maxL)) : vx_Met l y ws rm Pc Qc XC mc ms free := by
  refine MetFree.of_bodyS (code := cc) (maxLocals := maxL) (ret := ret) hy ?_ ?_
  · intro args s m h hn
    obtain ⟨m9, meth, c, hn9, h1, h2, h3, h4, -, h5, h6, -⟩ := Cond.codeWith_spec (atoms_spec (ws := ws) h _ (by rw [hw]; exact List.mem_cons_self))
    cases hn.symm.trans hn9
    exact ⟨meth, c, h1, h2, h3, h4, h5, h6⟩
  · intro p e s m args below meth c s₁ B hml hP _
    have hh0 : s₁.heap = s.heap := by rw [B.state]; rfl
    obtain ⟨t, a1, o, b1, b2, b3⟩ := body p e s m args below meth c s₁ B hml hP s₁ hh0 (Stand.of_body B)
    exact ⟨t, o, a1, b1, b2, b3⟩
/-! ===== END ===== -/
end
section
/-! kinds of things (wip/whole/kinds.py writes this): a kind's fields: (tag: 0 int, 1 long, 2 the same number, 3 a fixed number, 4 a number that is stored, 5 the number and so many more; the kind referred to; the number) -/
def xfd (k : Nat) : List (Nat × Nat × Nat) := match k with
  | 1 => [(3, 2, 9), (3, 2, 0), (3, 17, 0), (3, 25, 0), (3, 26, 0), (3, 21, 0), (3, 22, 0), (3, 15, 0), (4, 46, 0)]
  | 2 => [(0, 0, 0), (0, 0, 0), (0, 0, 0), (2, 3, 0), (2, 4, 0), (2, 5, 0), (2, 6, 0), (2, 7, 0), (2, 8, 0), (2, 9, 0)]
  | 10 => [(2, 11, 0), (2, 12, 0), (2, 13, 0), (2, 14, 0), (0, 0, 0)]
  | 15 => [(2, 10, 0), (2, 16, 0), (0, 0, 0), (0, 0, 0)]
  | 17 => [(2, 18, 0), (0, 0, 0), (0, 0, 0)]
  | 19 => [(2, 20, 0), (0, 0, 0)]
  | 21 => [(2, 19, 0), (0, 0, 0), (0, 0, 0), (4, 42, 0), (1, 0, 0), (0, 0, 0), (1, 0, 0), (0, 0, 0), (0, 0, 0), (0, 0, 0)]
  | 22 => [(2, 23, 0), (0, 0, 0)]
  | 24 => [(4, 43, 0), (1, 0, 0), (1, 0, 0), (1, 0, 0), (0, 0, 0)]
  | 27 => [(2, 28, 0), (2, 29, 0), (0, 0, 0), (2, 30, 0), (0, 0, 0), (0, 0, 0), (0, 0, 0), (2, 31, 0), (0, 0, 0), (0, 0, 0), (2, 32, 0), (2, 33, 0), (2, 34, 0), (0, 0, 0), (2, 35, 0), (2, 36, 0), (2, 37, 0), (0, 0, 0), (0, 0, 0), (0, 0, 0), (0, 0, 0), (2, 38, 0)]
  | 43 => [(0, 0, 0), (5, 46, 0), (0, 0, 0), (0, 0, 0), (0, 0, 0)]
  | 46 => [(2, 47, 0), (0, 0, 0)]
  | 50 => [(4, 49, 0), (0, 0, 0), (0, 0, 0)]
  | _ => []
/-- arrays of references: the kind of their elements, the number of the first -/
def xae (k : Nat) : Option (Nat × Nat) := match k with
  | 18 => some (2, 1)
  | 23 => some (24, 0)
  | 25 => some (2, 7)
  | 44 => some (43, 0)
  | _ => none
def xra (k : Nat) : Bool := match k with
  | 18 => true
  | 23 => true
  | 25 => true
  | 44 => true
  | _ => false
def xsl (i : Nat) : List (Nat × Nat) := match i with
  | 0 => [(1, 0), (2, 0), (2, 1), (2, 2), (2, 3), (2, 4), (2, 5), (2, 6), (2, 7), (2, 8), (2, 9), (10, 0), (15, 0), (17, 0), (19, 0), (21, 0), (22, 0), (24, 0), (24, 1), (24, 2), (24, 3), (24, 4), (24, 5), (24, 6), (24, 7), (24, 8), (24, 9), (24, 10), (24, 11), (24, 12), (24, 13), (24, 14), (24, 15), (24, 16), (24, 17), (24, 18), (24, 19), (24, 20), (24, 21), (24, 22), (24, 23), (24, 24), (24, 25), (24, 26), (24, 27), (24, 28), (24, 29), (27, 0), (18, 0), (23, 0), (25, 0), (44, 0)]
  | 1 => [(19, 1)]
  | 2 => [(21, 1), (19, 1), (2, 9)]
  | 3 => [(27, 0)]
  | _ => []
end
section
/-! THE PURE MACHINE: an interpreter of resolved bytecode over a store of typed places (kind, owner, slot). -/
/-- a value with the kind of the thing that it refers to (0: no reference) -/
abbrev xV : Type := Nat × Value
abbrev xM : Type := Nat → Nat → Nat → Value
/-- an entry: pc, instruction, resolved numbers, constant -/
abbrev xE : Type := Nat × Instr × List Nat × Int32
abbrev xR : Type := Option ((Option xV ⊕ Nat) × xM)
def gi (M : xM) (k o s : Nat) : Int32 := match M k o s with
  | .int x => x
  | _ => 0
def gl (M : xM) (k o s : Nat) : Int64 := match M k o s with
  | .long x => x
  | _ => 0
def gd (M : xM) (k o s : Nat) : UInt64 := match M k o s with
  | .double x => x
  | _ => 0
def gn (M : xM) (k o s : Nat) : Nat := match M k o s with
  | .ref x => x
  | _ => 0
def xst (M : xM) (k o s : Nat) (v : Value) : xM := fun k' o' s' => if k' = k ∧ o' = o ∧ s' = s then v else M k' o' s'
def xcpy (M : xM) (ks os kd od sp dp n : Nat) : xM := fun k' o' s' => if k' = kd ∧ o' = od ∧ dp ≤ s' ∧ s' < dp + n then M ks os (sp + (s' - dp)) else M k' o' s'
/-- an index -/
abbrev ix (i : Int32) : Nat := i.toNatClampNeg
def xJ : xV := (0, .retAddr 0)
def xg (ls : List xV) (i : Nat) : xV := match ls, i with
  | [], _ => xJ
  | v :: _, 0 => v
  | _ :: r, i + 1 => xg r i
def xs (ls : List xV) (i : Nat) (v : xV) : List xV := match ls, i with
  | [], _ => []
  | _ :: r, 0 => v :: r
  | a :: r, i + 1 => a :: xs r i v
/-- the entry holds two words -/
def xwide (v : xV) : Bool := match v.2 with
  | .long _ => true
  | .double _ => true
  | _ => false
/-- a store into a local: the entry ahead falls if it held two words -/
def xsw1 (ls : List xV) (i : Nat) (v : xV) : List xV := match i with
  | 0 => xs ls 0 v
  | j + 1 => match xwide (xg ls j) with
    | true => xs (xs ls j xJ) (j + 1) v
    | false => xs ls (j + 1) v
def xkill (ls : List xV) (ks : List Nat) : List xV := match ks with
  | [] => ls
  | k :: r => xkill (xs ls k xJ) r
/-- a method's arguments in its locals -/
def xarg (n : Nat) (as : List xV) : List xV := match as with
  | [] => List.replicate n xJ
  | a :: r => match a.2 with
    | .long _ => a :: xJ :: xarg (n - 2) r
    | .double _ => a :: xJ :: xarg (n - 2) r
    | _ => a :: xarg (n - 1) r
def xcat (v : xV) : Nat := v.2.category
/-- an index that is looked at -/
def xck (i : Int32) (n : Nat) (k : xR) : xR := if i < 0 ∨ n ≤ ix i then none else k
/-- behind a call: by what the callee answers -/
def xbI (r : xR) (f : Int32 → xM → xR) : xR := match r with
  | some (.inl (some (_, .int x)), M) => f x M
  | some (.inr E, M) => some (.inr E, M)
  | _ => none
def xbL (r : xR) (f : Int64 → xM → xR) : xR := match r with
  | some (.inl (some (_, .long x)), M) => f x M
  | some (.inr E, M) => some (.inr E, M)
  | _ => none
def xbF (r : xR) (f : UInt32 → xM → xR) : xR := match r with
  | some (.inl (some (_, .float x)), M) => f x M
  | some (.inr E, M) => some (.inr E, M)
  | _ => none
def xbD (r : xR) (f : UInt64 → xM → xR) : xR := match r with
  | some (.inl (some (_, .double x)), M) => f x M
  | some (.inr E, M) => some (.inr E, M)
  | _ => none
def xbR (r : xR) (kx : Nat) (f : Nat → xM → xR) : xR := match r with
  | some (.inl (some (k, .ref x)), M) => if k = kx then f x M else none
  | some (.inr E, M) => some (.inr E, M)
  | _ => none
def xbV (r : xR) (f : xM → xR) : xR := match r with
  | some (.inl none, M) => f M
  | some (.inr E, M) => some (.inr E, M)
  | _ => none
/-- .. where the caller has rows that catch -/
def xhI (r : xR) (f : Int32 → xM → xR) (h : Nat → xM → xR) : xR := match r with
  | some (.inl (some (_, .int x)), M) => f x M
  | some (.inr E, M) => h E M
  | _ => none
def xhF (r : xR) (f : UInt32 → xM → xR) (h : Nat → xM → xR) : xR := match r with
  | some (.inl (some (_, .float x)), M) => f x M
  | some (.inr E, M) => h E M
  | _ => none
def xhand (hs : List Nat) (E : Nat) (M : xM) (f : Nat → xR) : xR := match hs with
  | h :: t :: r => if E = h then f t else xhand r E M f
  | _ => some (.inr E, M)
/-- the length of an array of kind k -/
def xlens : List Nat := [0, 0, 0, 3, 3, 12, 12, 12, 12, 36, 0, 12, 12, 12, 12, 0, 12, 0, 6, 0, 600, 0, 0, 30, 0, 2, 2, 0, 3160, 2, 600, 220, 12, 12, 12, 12, 1440, 12, 180, 1, 1, 0, 0, 0, 8, 8, 0, 0, 100, 0, 0, 0, 100, 0, 0, 0, 0, 0, 0, 0]
def xnth (l : List Nat) (i : Nat) : Nat := match l, i with
  | [], _ => 0
  | a :: _, 0 => a
  | _ :: r, i + 1 => xnth r i
def xdyn (k : Nat) : Bool := (Nat.beq k 41 || Nat.beq k 47) || Nat.beq k 49
def xlen (k o : Nat) (M : xM) : Nat := match xdyn k with
  | true => gn M (110 + k) o 0
  | false => xnth xlens k
/-- a switch -/
def xsw (f : Nat → xR) (x : Int32) (d : Nat) (k : Nat) (ts : List Nat) : xR := match ts with
  | [] => f d
  | t :: r => if x = Int32.ofNat k then f t else xsw f x d (k + 1) r
/-- n values off the stack, the deepest first -/
def xtake (n : Nat) (st : List xV) (acc : List xV) : Option (List xV × List xV) := match n, st with
  | 0, st => some (acc, st)
  | n + 1, v :: st => xtake n st (v :: acc)
  | _ + 1, [] => none
def xget (kx tag tk tw f : Nat) (o : Nat) (M : xM) : Option xV := match tag with
  | 0 => some (0, .int (gi M kx o f))
  | 1 => some (0, .long (gl M kx o f))
  | 2 => some (tk, .ref o)
  | 3 => some (tk, .ref tw)
  | 4 => some (tk, .ref (gn M kx o f))
  | 5 => some (tk, .ref (o + tw))
  | _ => none
def xput (kx tag tk f : Nat) (o : Nat) (v : xV) (M : xM) : Option xM := match Nat.blt kx 60 with
  | true => (match tag, v with
    | 0, (_, .int x) => some (xst M kx o f (.int x))
    | 1, (_, .long x) => some (xst M kx o f (.long x))
    | 4, (k, .ref q) => if k = tk then some (xst M kx o f (.ref q)) else none
    | _, _ => none)
  | false => none
/-- a throw makes one cell of n slots -/
def xbump (M : xM) (c n : Nat) : xM := xst (xst M 100 0 0 (.ref (gn M 100 0 0 + c))) 100 0 1 (.ref (gn M 100 0 1 + n))
/-- a new object: its number is the count of its kind -/
def xclr (M : xM) (k o : Nat) : xM := fun k' o' s' => if (k' = k ∨ k' = 200 + k) ∧ o' = o then .retAddr 0 else M k' o' s'
def xnew (M : xM) (k n : Nat) : xM := xbump (xst (xclr M k (gn M 101 k 0)) 101 k 0 (.ref (gn M 101 k 0 + 1))) 1 n
def xnewD (M : xM) (k n : Nat) : xM := xst (xnew M k n) (110 + k) (gn M 101 k 0) 0 (.ref n)
def xnar (t : Nat) (x : Int32) : Int32 := match t with
  | 1 => x &&& 1
  | 2 => (x.toUInt32 % 65536).toInt32
  | 3 => x.toInt8.toInt32
  | _ => x
/-- the instructions that only move values: the new locals, stack, store -/
def xpure (i : Instr) (aux : List Nat) (kc : Int32) (ls st : List xV) (M : xM) : Option (List xV × List xV × xM) := match i with
    | .nop => some ((xkill ls aux), st, M)
    | .iconst _ | .bipush _ | .sipush _ => some (ls, ((0, .int kc) :: st), M)
    | .aconst_null => some (ls, ((0, .null) :: st), M)
    | .checkcast _ => match st, aux with
      | v :: st, [1] => some (ls, (v :: st), M)
      | _, _ => none
    | .lconst n => some (ls, ((0, .long (Int64.ofNat n)) :: st), M)
    | .fconst n => some (ls, ((0, .float (if n = 0 then 0 else if n = 1 then 0x3f800000 else 0x40000000)) :: st), M)
    | .dconst n => some (ls, ((0, .double (if n = 0 then 0 else 0x3ff0000000000000)) :: st), M)
    | .ldc _ | .ldc_w _ => match aux with
      | [] => some (ls, ((0, .int kc) :: st), M)
      | k :: o :: _ => some (ls, ((k, .ref o) :: st), M)
      | _ => none
    | .ldc2_w _ => match aux with
      | [n] => some (ls, ((0, .long (Int64.ofNat n)) :: st), M)
      | _ => none
    | .iload n | .lload n | .fload n | .dload n | .aload n => some (ls, (xg ls n :: st), M)
    | .iload_n n | .lload_n n | .fload_n n | .dload_n n | .aload_n n => some (ls, (xg ls n :: st), M)
    | .istore n | .fstore n | .astore n => match st with
      | v :: st => some ((xsw1 ls n v), st, M)
      | _ => none
    | .istore_n n | .fstore_n n | .astore_n n => match st with
      | v :: st => some ((xsw1 ls n v), st, M)
      | _ => none
    | .lstore n | .dstore n => match st with
      | v :: st => some ((xs (xsw1 ls n v) (n + 1) xJ), st, M)
      | _ => none
    | .lstore_n n | .dstore_n n => match st with
      | v :: st => some ((xs (xsw1 ls n v) (n + 1) xJ), st, M)
      | _ => none
    | .iinc n _ => match xg ls n with
      | (_, .int x) => some ((xsw1 ls n (0, .int (x + kc))), st, M)
      | _ => none
    | .pop => match st with
      | _ :: st => some (ls, st, M)
      | _ => none
    | .dup => match st with
      | v :: st => some (ls, (v :: v :: st), M)
      | _ => none
    | .dup_x1 => match st with
      | v :: w :: st => some (ls, (v :: w :: v :: st), M)
      | _ => none
    | .dup2 => match st with
      | v :: w :: st => some (ls, (v :: w :: v :: w :: st), M)
      | _ => none
    | .iadd => match st with
      | (_, .int y) :: (_, .int x) :: st => some (ls, ((0, .int (x + y)) :: st), M)
      | _ => none
    | .isub => match st with
      | (_, .int y) :: (_, .int x) :: st => some (ls, ((0, .int (x - y)) :: st), M)
      | _ => none
    | .imul => match st with
      | (_, .int y) :: (_, .int x) :: st => some (ls, ((0, .int (x * y)) :: st), M)
      | _ => none
    | .ineg => match st with
      | (_, .int x) :: st => some (ls, ((0, .int (-x)) :: st), M)
      | _ => none
    | .iand => match st with
      | (_, .int y) :: (_, .int x) :: st => some (ls, ((0, .int (x &&& y)) :: st), M)
      | _ => none
    | .ior => match st with
      | (_, .int y) :: (_, .int x) :: st => some (ls, ((0, .int (x ||| y)) :: st), M)
      | _ => none
    | .ixor => match st with
      | (_, .int y) :: (_, .int x) :: st => some (ls, ((0, .int (x ^^^ y)) :: st), M)
      | _ => none
    | .ishl => match st with
      | (_, .int y) :: (_, .int x) :: st => some (ls, ((0, .int (x <<< (y &&& 31))) :: st), M)
      | _ => none
    | .ishr => match st with
      | (_, .int y) :: (_, .int x) :: st => some (ls, ((0, .int (x >>> (y &&& 31))) :: st), M)
      | _ => none
    | .iushr => match st with
      | (_, .int y) :: (_, .int x) :: st => some (ls, ((0, .int (x.toUInt32 >>> (y.toUInt32 &&& Int32.toUInt32 31)).toInt32) :: st), M)
      | _ => none
    | .land => match st with
      | (_, .long y) :: (_, .long x) :: st => some (ls, ((0, .long (x &&& y)) :: st), M)
      | _ => none
    | .lor => match st with
      | (_, .long y) :: (_, .long x) :: st => some (ls, ((0, .long (x ||| y)) :: st), M)
      | _ => none
    | .lshl => match st with
      | (_, .int y) :: (_, .long x) :: st => some (ls, ((0, .long (x <<< (y.toInt64 &&& 63))) :: st), M)
      | _ => none
    | .lshr => match st with
      | (_, .int y) :: (_, .long x) :: st => some (ls, ((0, .long (x >>> (y.toInt64 &&& 63))) :: st), M)
      | _ => none
    | .lcmp => match st with
      | (_, .long y) :: (_, .long x) :: st => some (ls, ((0, .int (lg_cmp x y)) :: st), M)
      | _ => none
    | .i2l => match st with
      | (_, .int x) :: st => some (ls, ((0, .long x.toInt64) :: st), M)
      | _ => none
    | .l2i => match st with
      | (_, .long x) :: st => some (ls, ((0, .int x.toInt32) :: st), M)
      | _ => none
    | .i2b => match st with
      | (_, .int x) :: st => some (ls, ((0, .int x.toInt8.toInt32) :: st), M)
      | _ => none
    | .i2c => match st with
      | (_, .int x) :: st => some (ls, ((0, .int (x.toUInt32 % 65536).toInt32) :: st), M)
      | _ => none
    | .i2f => match st with
      | (_, .int x) :: st => some (ls, ((0, .float (FP.i2f x)) :: st), M)
      | _ => none
    | .i2d => match st with
      | (_, .int x) :: st => some (ls, ((0, .double (FP.i2d x)) :: st), M)
      | _ => none
    | .fcmp op => match st with
      | (_, .float y) :: (_, .float x) :: st => some (ls, ((0, .int (Op.cmpValue (FP.fcmp x y) op)) :: st), M)
      | _ => none
    | .dcmp op => match st with
      | (_, .double y) :: (_, .double x) :: st => some (ls, ((0, .int (Op.cmpValue (FP.dcmp x y) op)) :: st), M)
      | _ => none
    | .getfield _ => match st, aux with
      | (k, .ref o) :: st, [kx, f, tag, tk, tw] => if k = kx then (match xget kx tag tk tw f o M with
        | some v => some (ls, (v :: st), M)
        | none => none) else none
      | _, _ => none
    | .putfield _ => match st, aux with
      | v :: (k, .ref o) :: st, [kx, f, tag, tk, _] => if k = kx then (match xput kx tag tk f o v M with
        | some M => some (ls, st, M)
        | none => none) else none
      | _, _ => none
    | .getstatic _ => match aux with
      | [] => some (ls, ((0, .int kc) :: st), M)
      | [k, o] => some (ls, ((k, .ref o) :: st), M)
      | _ => none
    | .arraylength => match st with
      | (k, .ref o) :: st => some (ls, ((0, .int (Int32.ofNat (xlen k o M))) :: st), M)
      | _ => none
    | _ => none
/-- only what returns -/
def xret (r : xR) : xR := match r with
  | some (.inl v, M) => some (.inl v, M)
  | _ => none
/-- the places of a list are there, with all that they refer to -/
def xgdF (M : xM) (k o : Nat) : List (Nat × Nat × Nat) → Nat → Bool
  | [], _ => true
  | (t, _) :: r, f => (match t with
    | 0 => true
    | 1 => true
    | _ => Nat.beq (gn M (200 + k) o f) 1) && xgdF M k o r (f + 1)
def xgdA (M : xM) (k o : Nat) : Nat → Bool
  | 0 => true
  | n + 1 => Nat.beq (gn M (200 + k) o n) 1 && xgdA M k o n
def xgood (L : List (Nat × Nat)) (M : xM) : Bool := L.all (fun q => Nat.blt q.2 (gn M 101 q.1 0) && (match xra q.1 with
  | true => xgdA M q.1 q.2 (xnth xlens q.1)
  | false => xgdF M q.1 q.2 (xfd q.1) 0))
def xgd (b : Bool) (k : xR) : xR := match b with
  | true => k
  | false => none
/-- a call's answer, by its tag (0 none, 1 int, 2 long, 3 reference, 4 float, 5 double) -/
def xcall (t kx : Nat) (r : xR) (En : List xV → xM → xR) (st : List xV) : xR := match t with
  | 0 => xbV r (fun M => En st M)
  | 1 => xbI r (fun x M => En ((0, .int x) :: st) M)
  | 2 => xbL r (fun x M => En ((0, .long x) :: st) M)
  | 3 => xbR r kx (fun x M => En ((kx, .ref x) :: st) M)
  | 4 => xbF r (fun x M => En ((0, .float x) :: st) M)
  | 5 => xbD r (fun x M => En ((0, .double x) :: st) M)
  | _ => none
/-- a call. aux: method, arguments, answer's tag, its kind, and the manner: none; [0]: a callee that returns; [1, i]: of a list of places; [2, rows that catch ..] -/
def xinvoke (tab : Nat → List xE) (ml : Nat → Nat) (Ec En : List xE → List xE → List xV → List xV → xM → xR) (aux : List Nat) (C cs : List xE) (ls st : List xV) (M : xM) : xR := match aux with
  | y :: n :: t :: kx :: hs => match xtake n st [] with
    | some (as, st) => match Nat.ble st.length 4 with
      | true => match hs with
        | [] => xcall t kx (Ec (tab y) (tab y) (xarg (ml y) as) [] M) (fun st M => En C cs ls st M) st
        | 0 :: _ => xcall t kx (xret (Ec (tab y) (tab y) (xarg (ml y) as) [] M)) (fun st M => En C cs ls st M) st
        | 1 :: i :: _ => xgd (xgood (xsl i) M) (xcall t kx (xret (Ec (tab y) (tab y) (xarg (ml y) as) [] M)) (fun st M => En C cs ls st M) st)
        | 2 :: hs => match t with
          | 1 => xhI (Ec (tab y) (tab y) (xarg (ml y) as) [] M) (fun x M => En C cs ls ((0, .int x) :: st) M) (fun E M => xhand hs E M (fun t => En C (C.drop t) ls [(51, .ref 0)] M))
          | 4 => xhF (Ec (tab y) (tab y) (xarg (ml y) as) [] M) (fun x M => En C cs ls ((0, .float x) :: st) M) (fun E M => xhand hs E M (fun t => En C (C.drop t) ls [(51, .ref 0)] M))
          | _ => none
        | 3 :: _ => match as with
          | [(ks, .ref os), (_, .int sp), (kd, .ref od), (_, .int dp), (_, .int l)] => match Nat.blt kd 60 with
            | true => if sp < 0 ∨ dp < 0 ∨ l < 0 ∨ xlen ks os M < ix sp + ix l ∨ xlen kd od M < ix dp + ix l then none else En C cs ls st (xcpy M ks os kd od (ix sp) (ix dp) (ix l))
            | false => none
          | _ => none
        | 4 :: kd :: _ => match as, Nat.blt kd 60 with
          | [(ks, .ref os)], true => En C cs ls ((kd, .ref (gn M 101 kd 0)) :: st) (xcpy (xnewD M kd (xlen ks os M)) ks os kd (gn M 101 kd 0) 0 0 (xlen ks os M))
          | _, _ => none
        | 5 :: _ => En C cs ls st M
        | _ => none
      | false => none
    | none => none
  | _ => none
/-- the others. aux: jumps: [target]; invoke: method, arguments, answer's tag, its kind, handlers .. -/
def xctl (tab : Nat → List xE) (ml : Nat → Nat) (Ec En : List xE → List xE → List xV → List xV → xM → xR) (i : Instr) (aux : List Nat) (kc : Int32) (C cs : List xE) (ls st : List xV) (M : xM) : xR := match i with
    | .idiv => match st with
      | (_, .int y) :: (_, .int x) :: st => if y = 0 then none else En C cs ls ((0, .int (x / y)) :: st) M
      | _ => none
    | .irem => match st with
      | (_, .int y) :: (_, .int x) :: st => if y = 0 then none else En C cs ls ((0, .int (x - x / y * y)) :: st) M
      | _ => none
    | .f2d => match st with
      | (_, .float x) :: st => if FP.f2d x &&& 0x7fffffffffffffff ≤ 0x7ff0000000000000 then En C cs ls ((0, .double (FP.f2d x)) :: st) M else none
      | _ => none
    | .fdiv => match st with
      | (_, .float y) :: (_, .float x) :: st => if FP.fdiv x y &&& 0x7fffffff ≤ 0x7f800000 then En C cs ls ((0, .float (FP.fdiv x y)) :: st) M else none
      | _ => none
    | .ddiv => match st with
      | (_, .double y) :: (_, .double x) :: st => if FP.ddiv x y &&& 0x7fffffffffffffff ≤ 0x7ff0000000000000 then En C cs ls ((0, .double (FP.ddiv x y)) :: st) M else none
      | _ => none
    | .goto _ => En C (C.drop (aux.headD 0)) ls st M
    | .ifCond c _ => match st with
      | (_, .int x) :: st => match c with
        | .eq => if x = 0 then En C (C.drop (aux.headD 0)) ls st M else En C cs ls st M
        | .ne => if x = 0 then En C cs ls st M else En C (C.drop (aux.headD 0)) ls st M
        | .lt => if x < 0 then En C (C.drop (aux.headD 0)) ls st M else En C cs ls st M
        | .ge => if x < 0 then En C cs ls st M else En C (C.drop (aux.headD 0)) ls st M
        | .gt => if 0 < x then En C (C.drop (aux.headD 0)) ls st M else En C cs ls st M
        | .le => if 0 < x then En C cs ls st M else En C (C.drop (aux.headD 0)) ls st M
      | _ => none
    | .if_icmp c _ => match st with
      | (_, .int y) :: (_, .int x) :: st => match c with
        | .eq => if x = y then En C (C.drop (aux.headD 0)) ls st M else En C cs ls st M
        | .ne => if x = y then En C cs ls st M else En C (C.drop (aux.headD 0)) ls st M
        | .lt => if x < y then En C (C.drop (aux.headD 0)) ls st M else En C cs ls st M
        | .ge => if x < y then En C cs ls st M else En C (C.drop (aux.headD 0)) ls st M
        | .gt => if y < x then En C (C.drop (aux.headD 0)) ls st M else En C cs ls st M
        | .le => if y < x then En C cs ls st M else En C (C.drop (aux.headD 0)) ls st M
      | _ => none
    | .if_acmp c _ => match st with
      | (ky, .ref y) :: (kx, .ref x) :: st => if kx = ky then (match c with
        | .eq => if x = y then En C (C.drop (aux.headD 0)) ls st M else En C cs ls st M
        | .ne => if x = y then En C cs ls st M else En C (C.drop (aux.headD 0)) ls st M) else none
      | _ => none
    | .tableswitch _ _ _ _ => match st, aux with
      | (_, .int x) :: st, d :: lo :: ts => xsw (fun t => En C (C.drop t) ls st M) x d lo ts
      | _, _ => none
    | .iaload | .baload => match st with
      | (_, .int i) :: (k, .ref o) :: st => xck i (xlen k o M) (En C cs ls ((0, .int (gi M k o (ix i))) :: st) M)
      | _ => none
    | .laload => match st with
      | (_, .int i) :: (k, .ref o) :: st => xck i (xlen k o M) (En C cs ls ((0, .long (gl M k o (ix i))) :: st) M)
      | _ => none
    | .daload => match st with
      | (_, .int i) :: (k, .ref o) :: st => xck i (xlen k o M) (En C cs ls ((0, .double (gd M k o (ix i))) :: st) M)
      | _ => none
    | .getfield _ => match st, aux with
      | (k, .ref o) :: st, [kx, f, tag, tk, tw] => if k = kx then (match tag with
        | 12 => if gn M (200 + kx) o f = 1 then En C cs ls ((tk, .ref o) :: st) M else none
        | 13 => if gn M (200 + kx) o f = 1 then En C cs ls ((tk, .ref tw) :: st) M else none
        | 14 => if gn M (200 + kx) o f = 1 then En C cs ls ((tk, .ref (gn M kx o f)) :: st) M else none
        | 15 => if gn M (200 + kx) o f = 1 then En C cs ls ((tk, .ref (o + tw)) :: st) M else none
        | _ => none) else none
      | _, _ => none
    | .putfield _ => match st, aux with
      | (k2, .ref q) :: (k, .ref o) :: st, [kx, f, tag, tk, tw] => if k = kx then (if k2 = tk then (match Nat.blt kx 60 with
        | true => (match tag with
          | 12 => if q = o then En C cs ls st (xst M (200 + kx) o f (.ref 1)) else none
          | 13 => if q = tw then En C cs ls st (xst M (200 + kx) o f (.ref 1)) else none
          | 14 => En C cs ls st (xst (xst M kx o f (.ref q)) (200 + kx) o f (.ref 1))
          | _ => none)
        | false => none) else none) else none
      | _, _ => none
    | .newarray _ | .anewarray _ => match st, aux with
      | (_, .int x) :: st, [k] => match Nat.blt k 60, xdyn k with
        | true, true => if x < 0 ∨ 65536 < ix x then none else En C cs ls ((k, .ref (gn M 101 k 0)) :: st) (xnewD M k (ix x))
        | true, false => if x = Int32.ofNat (xnth xlens k) then En C cs ls ((k, .ref (gn M 101 k 0)) :: st) (xnew M k (xnth xlens k)) else none
        | _, _ => none
      | _, _ => none
    | .aastore => match st, aux with
      | (k2, .ref q) :: (_, .int i) :: (k, .ref o) :: st, [kx, tk, tw] => if k = kx then (if k2 = tk then (match Nat.blt kx 60 with
        | true => xck i (xnth xlens kx) (if q = ix i + tw then En C cs ls st (xst M (200 + kx) o (ix i) (.ref 1)) else none)
        | false => none) else none) else none
      | _, _ => none
    | .aaload => match st, aux with
      | (_, .int i) :: (k, .ref _) :: st, [kx, tk, tw] => if k = kx then xck i (xnth xlens kx) (En C cs ls ((tk, .ref (ix i + tw)) :: st) M) else none
      | _, _ => none
    | .iastore => match st with
      | (_, .int x) :: (_, .int i) :: (k, .ref o) :: st => match Nat.blt k 60 with
        | true => xck i (xlen k o M) (En C cs ls st (xst M k o (ix i) (.int x)))
        | false => none
      | _ => none
    | .bastore => match st, aux with
      | (_, .int x) :: (_, .int i) :: (k, .ref o) :: st, [t] => match Nat.blt k 60 with
        | true => xck i (xlen k o M) (En C cs ls st (xst M k o (ix i) (.int (xnar t x))))
        | false => none
      | _, _ => none
    | .lastore => match st with
      | (_, .long x) :: (_, .int i) :: (k, .ref o) :: st => match Nat.blt k 60 with
        | true => xck i (xlen k o M) (En C cs ls st (xst M k o (ix i) (.long x)))
        | false => none
      | _ => none
    | .dastore => match st with
      | (_, .double x) :: (_, .int i) :: (k, .ref o) :: st => match Nat.blt k 60 with
        | true => xck i (xlen k o M) (En C cs ls st (xst M k o (ix i) (.double x)))
        | false => none
      | _ => none
    | .new _ => match aux with
      | [E, n] => some (.inr E, xbump M 1 n)
      | [k, n, _] => match Nat.blt k 60 with
        | true => En C cs ls ((k, .ref (gn M 101 k 0)) :: st) (xnew M k n)
        | false => none
      | _ => none
    | .invokevirtual _ | .invokestatic _ | .invokespecial _ => xinvoke tab ml Ec En aux C cs ls st M
    | .ireturn => match st, aux with
      | (_, .int x) :: _, [] => some (.inl (some (0, .int x)), M)
      | (_, .int x) :: _, [t] => some (.inl (some (0, .int (xnar t x))), M)
      | _, _ => none
    | .lreturn | .freturn | .dreturn | .areturn => match st with
      | v :: _ => some (.inl (some v), M)
      | _ => none
    | .return_ => some (.inl none, M)
    | _ => none
/-- one step -/
def xstep (tab : Nat → List xE) (ml : Nat → Nat) (Ec En : List xE → List xE → List xV → List xV → xM → xR) (C cs : List xE) (ls st : List xV) (M : xM) : xR := match cs with
  | [] => none
  | (_, i, aux, kc) :: cs => match xpure i aux kc ls st M with
    | some (ls, st, M) => En C cs ls st M
    | none => xctl tab ml Ec En i aux kc C cs ls st M
/-- the machine with fuel -/
def xexec (tab : Nat → List xE) (ml : Nat → Nat) : Nat → List xE → List xE → List xV → List xV → xM → xR
  | 0, _, _, _, _, _ => none
  | n + 1, C, cs, ls, st, M => xstep tab ml (xexec tab ml n) (xexec tab ml n) C cs ls st M
/-- what a step asks of the machine below it: at most one call and one going on -/
abbrev xP : Type := List xE → List xE → List xV → List xV → xM → xR
/-- what a machine never takes back: objects, references that are set, lengths, room -/
def xmon (M M' : xM) : Prop := (∀ k, gn M 101 k 0 ≤ gn M' 101 k 0) ∧ (∀ k o f, k < 60 → o < gn M 101 k 0 → gn M (200 + k) o f = 1 → gn M' (200 + k) o f = 1) ∧ (∀ k o, k < 60 → o < gn M 101 k 0 → gn M' (110 + k) o 0 = gn M (110 + k) o 0) ∧ gn M 100 0 0 ≤ gn M' 100 0 0 ∧ gn M 100 0 1 ≤ gn M' 100 0 1
theorem xmon_refl (M : xM) : xmon M M := ⟨fun _ => Nat.le_refl _, fun _ _ _ _ _ h => h, fun _ _ _ _ => rfl, Nat.le_refl _, Nat.le_refl _⟩
theorem xmon_trans {M M1 M2 : xM} (h1 : xmon M M1) (h2 : xmon M1 M2) : xmon M M2 :=
  ⟨fun k => Nat.le_trans (h1.1 k) (h2.1 k), fun k o f hk ho h => h2.2.1 k o f hk (Nat.lt_of_lt_of_le ho (h1.1 k)) (h1.2.1 k o f hk ho h), fun k o hk ho => (h2.2.2.1 k o hk (Nat.lt_of_lt_of_le ho (h1.1 k))).trans (h1.2.2.1 k o hk ho), Nat.le_trans h1.2.2.2.1 h2.2.2.2.1, Nat.le_trans h1.2.2.2.2 h2.2.2.2.2⟩
theorem gn_xst (M : xM) (k o s : Nat) (v : Value) (k' o' s' : Nat) : gn (xst M k o s v) k' o' s' = if k' = k ∧ o' = o ∧ s' = s then (match v with
  | .ref x => x
  | _ => 0) else gn M k' o' s' := by
  unfold gn xst
  by_cases h : k' = k ∧ o' = o ∧ s' = s
  · rw [if_pos h, if_pos h]
  · rw [if_neg h, if_neg h]
theorem gn_xst_ne {M : xM} {k o s : Nat} {v : Value} {k' o' s' : Nat} (h : k' ≠ k) : gn (xst M k o s v) k' o' s' = gn M k' o' s' := by
  rw [gn_xst, if_neg (fun q => h q.1)]
theorem gn_xcpy_ne {M : xM} {ks os kd od sp dp n : Nat} {k' o' s' : Nat} (h : k' ≠ kd) : gn (xcpy M ks os kd od sp dp n) k' o' s' = gn M k' o' s' := by
  unfold gn xcpy
  rw [if_neg (fun q => h q.1)]
theorem gn_xclr_ne {M : xM} {k o : Nat} {k' o' s' : Nat} (h : k' ≠ k) (h2 : k' ≠ 200 + k ∨ o' ≠ o) : gn (xclr M k o) k' o' s' = gn M k' o' s' := by
  unfold gn xclr
  rw [if_neg (fun q => q.1.elim h (fun e => h2.elim (fun z => z e) (fun z => z q.2)))]
theorem xmon_st {M : xM} {k o s : Nat} {v : Value} (h : Nat.blt k 60 = true) : xmon M (xst M k o s v) := by
  have hk : k < 60 := Nat.le_of_ble_eq_true h
  refine ⟨fun k' => ?_, fun k' o' f h1 h2 h3 => ?_, fun k' o' h1 h2 => ?_, ?_, ?_⟩
  · rw [gn_xst_ne (by omega)]; exact Nat.le_refl _
  · rw [gn_xst_ne (by omega)]; exact h3
  · rw [gn_xst_ne (by omega)]
  · rw [gn_xst_ne (by omega)]; exact Nat.le_refl _
  · rw [gn_xst_ne (by omega)]; exact Nat.le_refl _
theorem xmon_cpy {M : xM} {ks os kd od sp dp n : Nat} (h : Nat.blt kd 60 = true) : xmon M (xcpy M ks os kd od sp dp n) := by
  have hk : kd < 60 := Nat.le_of_ble_eq_true h
  refine ⟨fun k' => ?_, fun k' o' f h1 h2 h3 => ?_, fun k' o' h1 h2 => ?_, ?_, ?_⟩
  · rw [gn_xcpy_ne (by omega)]; exact Nat.le_refl _
  · rw [gn_xcpy_ne (by omega)]; exact h3
  · rw [gn_xcpy_ne (by omega)]
  · rw [gn_xcpy_ne (by omega)]; exact Nat.le_refl _
  · rw [gn_xcpy_ne (by omega)]; exact Nat.le_refl _
theorem xmon_fl {M : xM} {k o s : Nat} (h : Nat.blt k 60 = true) : xmon M (xst M (200 + k) o s (.ref 1)) := by
  have hk : k < 60 := Nat.le_of_ble_eq_true h
  refine ⟨fun k' => ?_, fun k' o' f h1 h2 h3 => ?_, fun k' o' h1 h2 => ?_, ?_, ?_⟩
  · rw [gn_xst]
    split
    · omega
    · exact Nat.le_refl _
  · rw [gn_xst]
    split
    · rfl
    · exact h3
  · rw [gn_xst_ne (by omega)]
  · rw [gn_xst_ne (by omega)]; exact Nat.le_refl _
  · rw [gn_xst_ne (by omega)]; exact Nat.le_refl _
theorem xmon_bump (M : xM) (c n : Nat) : xmon M (xbump M c n) := by
  refine ⟨fun k' => ?_, fun k' o' f h1 h2 h3 => ?_, fun k' o' h1 h2 => ?_, ?_, ?_⟩ <;> unfold xbump
  · rw [gn_xst_ne (by omega), gn_xst_ne (by omega)]; exact Nat.le_refl _
  · rw [gn_xst_ne (by omega), gn_xst_ne (by omega)]; exact h3
  · rw [gn_xst_ne (by omega), gn_xst_ne (by omega)]
  · rw [gn_xst, if_neg (by omega), gn_xst, if_pos ⟨rfl, rfl, rfl⟩]; exact Nat.le_add_right _ _
  · rw [gn_xst, if_pos ⟨rfl, rfl, rfl⟩]; exact Nat.le_add_right _ _
theorem xmon_new {M : xM} {k n : Nat} (h : Nat.blt k 60 = true) : xmon M (xnew M k n) := by
  have hk : k < 60 := Nat.le_of_ble_eq_true h
  unfold xnew
  refine xmon_trans ?_ (xmon_bump _ _ _)
  refine ⟨fun k' => ?_, fun k' o' f h1 h2 h3 => ?_, fun k' o' h1 h2 => ?_, ?_, ?_⟩
  · rw [gn_xst]
    split
    · rename_i q
      obtain ⟨-, rfl, -⟩ := q
      exact Nat.le_add_right _ _
    · rw [gn_xclr_ne (by omega) (Or.inl (by omega))]; exact Nat.le_refl _
  · rw [gn_xst_ne (by omega), gn_xclr_ne (by omega)]
    · exact h3
    · by_cases e : k' = k
      · subst e; exact Or.inr (by omega)
      · exact Or.inl (by omega)
  · rw [gn_xst_ne (by omega), gn_xclr_ne (by omega) (Or.inl (by omega))]
  · rw [gn_xst_ne (by omega), gn_xclr_ne (by omega) (Or.inl (by omega))]; exact Nat.le_refl _
  · rw [gn_xst_ne (by omega), gn_xclr_ne (by omega) (Or.inl (by omega))]; exact Nat.le_refl _
theorem gn_xnew_cnt {M : xM} {k n : Nat} (h : Nat.blt k 60 = true) (k' : Nat) : gn (xnew M k n) 101 k' 0 = if k' = k then gn M 101 k 0 + 1 else gn M 101 k' 0 := by
  have hk : k < 60 := Nat.le_of_ble_eq_true h
  unfold xnew xbump
  rw [gn_xst_ne (by omega), gn_xst_ne (by omega), gn_xst]
  by_cases e : k' = k
  · subst e; rw [if_pos ⟨rfl, rfl, rfl⟩, if_pos rfl]
  · rw [if_neg (fun q => e q.2.1), if_neg e, gn_xclr_ne (by omega) (Or.inl (by omega))]
theorem xmon_newD {M : xM} {k n : Nat} (h : Nat.blt k 60 = true) : xmon M (xnewD M k n) := by
  have hk : k < 60 := Nat.le_of_ble_eq_true h
  have h0 := xmon_new (M := M) (n := n) h
  unfold xnewD
  refine ⟨fun k' => ?_, fun k' o' f h1 h2 h3 => ?_, fun k' o' h1 h2 => ?_, ?_, ?_⟩
  · rw [gn_xst_ne (by omega)]; exact h0.1 k'
  · rw [gn_xst_ne (by omega)]; exact h0.2.1 k' o' f h1 h2 h3
  · rw [gn_xst, if_neg (fun q => by have e : k' = k := by omega
                                    subst e; omega)]
    exact h0.2.2.1 k' o' h1 h2
  · rw [gn_xst_ne (by omega)]; exact h0.2.2.2.1
  · rw [gn_xst_ne (by omega)]; exact h0.2.2.2.2
def xneeds (F : xP → xP → xR) (Ec En : xP) (M : xM) (r : (Option xV ⊕ Nat) × xM) : Prop :=
  ∃ (c : Option ((List xE × List xE × List xV × List xV × xM) × ((Option xV ⊕ Nat) × xM))) (n : Option (List xE × List xE × List xV × List xV × xM)),
    (∀ q, c = some q → Ec q.1.1 q.1.2.1 q.1.2.2.1 q.1.2.2.2.1 q.1.2.2.2.2 = some q.2) ∧ (∀ q, n = some q → En q.1 q.2.1 q.2.2.1 q.2.2.2.1 q.2.2.2.2 = some r) ∧
    (∀ Ec' En' : xP, (∀ q, c = some q → Ec' q.1.1 q.1.2.1 q.1.2.2.1 q.1.2.2.2.1 q.1.2.2.2.2 = some q.2) → (∀ q, n = some q → En' q.1 q.2.1 q.2.2.1 q.2.2.2.1 q.2.2.2.2 = some r) → F Ec' En' = some r) ∧
    (∀ q, c = some q → q.1.2.2.2.2 = M) ∧ xmon ((c.map fun q => q.2.2).getD M) ((n.map fun q => q.2.2.2.2).getD r.2)
theorem xneeds_c {F : xP → xP → xR} {Ec En : xP} {M : xM} {r} (hm : xmon M r.2) (h : ∀ Ec' En', F Ec' En' = some r) : xneeds F Ec En M r :=
  ⟨none, none, fun _ h => (nomatch h), fun _ h => (nomatch h), fun Ec' En' _ _ => h Ec' En', fun _ h => (nomatch h), hm⟩
theorem xneeds_n {F : xP → xP → xR} {Ec En : xP} {M0 : xM} {r} (C cs : List xE) (ls st : List xV) (M : xM) (hm : xmon M0 M) (h : En C cs ls st M = some r) (hF : ∀ Ec' En', En' C cs ls st M = some r → F Ec' En' = some r) : xneeds F Ec En M0 r :=
  ⟨none, some (C, cs, ls, st, M), fun _ h => (nomatch h), fun q hq => by cases hq; exact h, fun Ec' En' _ h2 => hF Ec' En' (h2 _ rfl), fun _ h => (nomatch h), hm⟩
theorem xneeds_cn {F : xP → xP → xR} {Ec En : xP} {r r1} (C1 cs1 : List xE) (ls1 st1 : List xV) (M1 : xM) (C cs : List xE) (ls st : List xV) (M : xM) (hm : xmon r1.2 M) (h1 : Ec C1 cs1 ls1 st1 M1 = some r1) (h : En C cs ls st M = some r) (hF : ∀ Ec' En', Ec' C1 cs1 ls1 st1 M1 = some r1 → En' C cs ls st M = some r → F Ec' En' = some r) : xneeds F Ec En M1 r :=
  ⟨some ((C1, cs1, ls1, st1, M1), r1), some (C, cs, ls, st, M), fun q hq => by cases hq; exact h1, fun q hq => by cases hq; exact h, fun Ec' En' h2 h3 => hF Ec' En' (h2 _ rfl) (h3 _ rfl), fun q hq => by cases hq; rfl, hm⟩
theorem xneeds_d {F : xP → xP → xR} {Ec En : xP} {r r1} (C1 cs1 : List xE) (ls1 st1 : List xV) (M1 : xM) (hm : xmon r1.2 r.2) (h1 : Ec C1 cs1 ls1 st1 M1 = some r1) (hF : ∀ Ec' En', Ec' C1 cs1 ls1 st1 M1 = some r1 → F Ec' En' = some r) : xneeds F Ec En M1 r :=
  ⟨some ((C1, cs1, ls1, st1, M1), r1), none, fun q hq => by cases hq; exact h1, fun _ h => (nomatch h), fun Ec' En' h2 _ => hF Ec' En' (h2 _ rfl), fun q hq => by cases hq; rfl, hm⟩
end
section
theorem xck_some {i : Int32} {n : Nat} {k : xR} {r} (h : xck i n k = some r) : ¬ (i < 0 ∨ n ≤ ix i) ∧ k = some r := by
  unfold xck at h
  split at h
  · cases h
  · exact ⟨‹_›, h⟩
theorem xck_ok {i : Int32} {n : Nat} {k : xR} (h : ¬ (i < 0 ∨ n ≤ ix i)) : xck i n k = k := if_neg h
theorem xbI_some {r : xR} {f} {q} (h : xbI r f = some q) : (∃ k x M, r = some (.inl (some (k, .int x)), M) ∧ f x M = some q) ∨ ∃ E M, r = some (.inr E, M) ∧ q = (.inr E, M) := by
  unfold xbI at h
  split at h
  · exact Or.inl ⟨_, _, _, rfl, h⟩
  · exact Or.inr ⟨_, _, rfl, (Option.some.inj h).symm⟩
  · cases h
theorem xbL_some {r : xR} {f} {q} (h : xbL r f = some q) : (∃ k x M, r = some (.inl (some (k, .long x)), M) ∧ f x M = some q) ∨ ∃ E M, r = some (.inr E, M) ∧ q = (.inr E, M) := by
  unfold xbL at h
  split at h
  · exact Or.inl ⟨_, _, _, rfl, h⟩
  · exact Or.inr ⟨_, _, rfl, (Option.some.inj h).symm⟩
  · cases h
theorem xbF_some {r : xR} {f} {q} (h : xbF r f = some q) : (∃ k x M, r = some (.inl (some (k, .float x)), M) ∧ f x M = some q) ∨ ∃ E M, r = some (.inr E, M) ∧ q = (.inr E, M) := by
  unfold xbF at h
  split at h
  · exact Or.inl ⟨_, _, _, rfl, h⟩
  · exact Or.inr ⟨_, _, rfl, (Option.some.inj h).symm⟩
  · cases h
theorem xbD_some {r : xR} {f} {q} (h : xbD r f = some q) : (∃ k x M, r = some (.inl (some (k, .double x)), M) ∧ f x M = some q) ∨ ∃ E M, r = some (.inr E, M) ∧ q = (.inr E, M) := by
  unfold xbD at h
  split at h
  · exact Or.inl ⟨_, _, _, rfl, h⟩
  · exact Or.inr ⟨_, _, rfl, (Option.some.inj h).symm⟩
  · cases h
theorem xbR_some {r : xR} {kx : Nat} {f} {q} (h : xbR r kx f = some q) : (∃ x M, r = some (.inl (some (kx, .ref x)), M) ∧ f x M = some q) ∨ ∃ E M, r = some (.inr E, M) ∧ q = (.inr E, M) := by
  unfold xbR at h
  split at h
  · split at h
    · rename_i e
      subst e
      exact Or.inl ⟨_, _, rfl, h⟩
    · cases h
  · exact Or.inr ⟨_, _, rfl, (Option.some.inj h).symm⟩
  · cases h
theorem xbV_some {r : xR} {f} {q} (h : xbV r f = some q) : (∃ M, r = some (.inl none, M) ∧ f M = some q) ∨ ∃ E M, r = some (.inr E, M) ∧ q = (.inr E, M) := by
  unfold xbV at h
  split at h
  · exact Or.inl ⟨_, rfl, h⟩
  · exact Or.inr ⟨_, _, rfl, (Option.some.inj h).symm⟩
  · cases h
theorem xhI_some {r : xR} {f h} {q} (hh : xhI r f h = some q) : (∃ k x M, r = some (.inl (some (k, .int x)), M) ∧ f x M = some q) ∨ ∃ E M, r = some (.inr E, M) ∧ h E M = some q := by
  unfold xhI at hh
  split at hh
  · exact Or.inl ⟨_, _, _, rfl, hh⟩
  · exact Or.inr ⟨_, _, rfl, hh⟩
  · cases hh
theorem xhF_some {r : xR} {f h} {q} (hh : xhF r f h = some q) : (∃ k x M, r = some (.inl (some (k, .float x)), M) ∧ f x M = some q) ∨ ∃ E M, r = some (.inr E, M) ∧ h E M = some q := by
  unfold xhF at hh
  split at hh
  · exact Or.inl ⟨_, _, _, rfl, hh⟩
  · exact Or.inr ⟨_, _, rfl, hh⟩
  · cases hh
theorem xsw_some {x : Int32} {d : Nat} : ∀ (ts : List Nat) (k : Nat), ∃ t, ∀ f : Nat → xR, xsw f x d k ts = f t
  | [], _ => ⟨d, fun _ => rfl⟩
  | t :: r, k => by
    by_cases h : x = Int32.ofNat k
    · exact ⟨t, fun f => if_pos h⟩
    · obtain ⟨t', ht⟩ := xsw_some (x := x) (d := d) r (k + 1)
      exact ⟨t', fun f => (if_neg h).trans (ht f)⟩
theorem xhand_some (E : Nat) (M : xM) : ∀ (n : Nat) (hs : List Nat), hs.length ≤ n → (∀ f : Nat → xR, xhand hs E M f = some (.inr E, M)) ∨ ∃ t, ∀ f : Nat → xR, xhand hs E M f = f t
  | _, [], _ => Or.inl fun _ => rfl
  | _, [_], _ => Or.inl fun _ => rfl
  | 0, _ :: _ :: _, h => by simp at h
  | n + 1, a :: t :: r, hl => by
    by_cases h : E = a
    · exact Or.inr ⟨t, fun f => if_pos h⟩
    · rcases xhand_some E M n r (by simp at hl; omega) with q | ⟨t', q⟩
      · exact Or.inl fun f => (if_neg h).trans (q f)
      · exact Or.inr ⟨t', fun f => (if_neg h).trans (q f)⟩
theorem xgd_some {b : Bool} {k : xR} {q} (h : xgd b k = some q) : b = true ∧ k = some q := by
  cases b
  · cases h
  · exact ⟨rfl, h⟩
theorem xret_some {r : xR} {q} (h : xret r = some q) : ∃ v M, r = some (.inl v, M) ∧ q = (.inl v, M) := by
  unfold xret at h
  split at h
  · exact ⟨_, _, rfl, (Option.some.inj h).symm⟩
  · cases h
theorem xcall_some {t kx : Nat} {r : xR} {En : List xV → xM → xR} {st : List xV} {q} (h : xcall t kx r En st = some q) : (∃ v M st', r = some (.inl v, M) ∧ En st' M = some q ∧ ∀ En' : List xV → xM → xR, En' st' M = some q → xcall t kx (some (.inl v, M)) En' st = some q) ∨ ∃ E M, r = some (.inr E, M) ∧ q = (.inr E, M) ∧ ∀ En' : List xV → xM → xR, xcall t kx (some (.inr E, M)) En' st = some q := by
  unfold xcall at h
  split at h
  · rcases xbV_some h with ⟨M1, e, h⟩ | ⟨E, M1, e, rfl⟩
    · exact Or.inl ⟨_, _, _, e, h, fun _ h' => h'⟩
    · exact Or.inr ⟨_, _, e, rfl, fun _ => rfl⟩
  · rcases xbI_some h with ⟨k, x, M1, e, h⟩ | ⟨E, M1, e, rfl⟩
    · exact Or.inl ⟨_, _, _, e, h, fun _ h' => h'⟩
    · exact Or.inr ⟨_, _, e, rfl, fun _ => rfl⟩
  · rcases xbL_some h with ⟨k, x, M1, e, h⟩ | ⟨E, M1, e, rfl⟩
    · exact Or.inl ⟨_, _, _, e, h, fun _ h' => h'⟩
    · exact Or.inr ⟨_, _, e, rfl, fun _ => rfl⟩
  · rcases xbR_some h with ⟨x, M1, e, h⟩ | ⟨E, M1, e, rfl⟩
    · exact Or.inl ⟨_, _, _, e, h, fun _ h' => (if_pos rfl).trans h'⟩
    · exact Or.inr ⟨_, _, e, rfl, fun _ => rfl⟩
  · rcases xbF_some h with ⟨k, x, M1, e, h⟩ | ⟨E, M1, e, rfl⟩
    · exact Or.inl ⟨_, _, _, e, h, fun _ h' => h'⟩
    · exact Or.inr ⟨_, _, e, rfl, fun _ => rfl⟩
  · rcases xbD_some h with ⟨k, x, M1, e, h⟩ | ⟨E, M1, e, rfl⟩
    · exact Or.inl ⟨_, _, _, e, h, fun _ h' => h'⟩
    · exact Or.inr ⟨_, _, e, rfl, fun _ => rfl⟩
  · cases h
theorem xinvoke_needs {tab : Nat → List xE} {ml : Nat → Nat} {Ec En : xP} {aux : List Nat} {C cs : List xE} {ls st : List xV} {M : xM} {r} (h : xinvoke tab ml Ec En aux C cs ls st M = some r) : xneeds (fun Ec En => xinvoke tab ml Ec En aux C cs ls st M) Ec En M r := by
  unfold xinvoke at h ⊢
  split at h
  · rename_i y n t kx hs
    split at h
    · rename_i as st1 hst
      split at h
      · rename_i hlen
        split at h
        · rcases xcall_some h with ⟨v, M1, st', e, h, hh⟩ | ⟨E, M1, e, rfl, hh⟩
          · exact xneeds_cn _ _ _ _ _ _ _ _ _ _ (xmon_refl _) e h (fun _ _ e' h' => by simp only [e']; exact hh _ h')
          · exact xneeds_d _ _ _ _ _ (xmon_refl _) e (fun _ _ e' => by simp only [e']; exact hh _)
        · rcases xcall_some h with ⟨v, M1, st', e, h, hh⟩ | ⟨E, M1, e, rfl, hh⟩
          · obtain ⟨v', M1', e1, e2⟩ := xret_some e
            cases e2
            exact xneeds_cn _ _ _ _ _ _ _ _ _ _ (xmon_refl _) e1 h (fun _ _ e' h' => by simp only [e']; exact hh _ h')
          · obtain ⟨v', M1', e1, e2⟩ := xret_some e
            cases e2
        · obtain ⟨hg, h⟩ := xgd_some h
          rcases xcall_some h with ⟨v, M1, st', e, h, hh⟩ | ⟨E, M1, e, rfl, hh⟩
          · obtain ⟨v', M1', e1, e2⟩ := xret_some e
            cases e2
            exact xneeds_cn _ _ _ _ _ _ _ _ _ _ (xmon_refl _) e1 h (fun _ _ e' h' => by simp only [e', hg]; exact hh _ h')
          · obtain ⟨v', M1', e1, e2⟩ := xret_some e
            cases e2
        · split at h
          · rcases xhI_some h with ⟨k, x, M1, e, h⟩ | ⟨E, M1, e, h⟩
            · exact xneeds_cn _ _ _ _ _ _ _ _ _ _ (xmon_refl _) e h (fun _ _ e' h' => by simp only [e']; exact h')
            · rename_i hs1 _ _
              rcases xhand_some E M1 _ hs1 (Nat.le_refl _) with q | ⟨t, q⟩
              · rw [q] at h
                cases h
                exact xneeds_d _ _ _ _ _ (xmon_refl _) e (fun _ _ e' => by simp only [e']; exact (q _).trans rfl)
              · rw [q] at h
                exact xneeds_cn _ _ _ _ _ _ _ _ _ _ (xmon_refl _) e h (fun _ _ e' h' => by simp only [e']; exact (q _).trans h')
          · rcases xhF_some h with ⟨k, x, M1, e, h⟩ | ⟨E, M1, e, h⟩
            · exact xneeds_cn _ _ _ _ _ _ _ _ _ _ (xmon_refl _) e h (fun _ _ e' h' => by simp only [e']; exact h')
            · rename_i hs1 _ _
              rcases xhand_some E M1 _ hs1 (Nat.le_refl _) with q | ⟨t, q⟩
              · rw [q] at h
                cases h
                exact xneeds_d _ _ _ _ _ (xmon_refl _) e (fun _ _ e' => by simp only [e']; exact (q _).trans rfl)
              · rw [q] at h
                exact xneeds_cn _ _ _ _ _ _ _ _ _ _ (xmon_refl _) e h (fun _ _ e' h' => by simp only [e']; exact (q _).trans h')
          · cases h
        · split at h
          · split at h
            · split at h
              · cases h
              · exact xneeds_n _ _ _ _ _ (xmon_cpy (by assumption)) h (fun _ _ h' => (if_neg ‹_›).trans h')
            · cases h
          · cases h
        · split at h
          · exact xneeds_n _ _ _ _ _ (xmon_trans (xmon_newD (by assumption)) (xmon_cpy (by assumption))) h (fun _ _ h' => h')
          · cases h
        · exact xneeds_n _ _ _ _ _ (xmon_refl _) h (fun _ _ h' => h')
        · cases h
      · cases h
    · cases h
  · cases h
set_option maxHeartbeats 4000000 in
theorem xctl_needs {tab : Nat → List xE} {ml : Nat → Nat} {Ec En : xP} {i : Instr} {aux : List Nat} {kc : Int32} {C cs : List xE} {ls st : List xV} {M : xM} {r} (h : xctl tab ml Ec En i aux kc C cs ls st M = some r) : xneeds (fun Ec En => xctl tab ml Ec En i aux kc C cs ls st M) Ec En M r := by
  cases i with
  | invokevirtual n => exact xinvoke_needs h
  | invokestatic n => exact xinvoke_needs h
  | invokespecial n => exact xinvoke_needs h
  | tableswitch a b c d => 
    simp only [xctl] at h ⊢
    split at h
    · rename_i x st d lo ts
      obtain ⟨t, ht⟩ := xsw_some (x := x) (d := d) ts lo
      rw [ht] at h
      exact xneeds_n _ _ _ _ _ (xmon_refl _) h (fun Ec' En' h' => by simp only [ht]; exact h')
    · cases h
  | new n =>
    simp only [xctl] at h ⊢
    split at h
    · cases h
      exact xneeds_c (xmon_bump _ _ _) (fun _ _ => rfl)
    · split at h
      · exact xneeds_n _ _ _ _ _ (xmon_new (by assumption)) h (fun _ _ h' => h')
      · cases h
    · cases h
  | newarray n =>
    simp only [xctl] at h ⊢
    split at h
    · split at h
      · split at h
        · cases h
        · exact xneeds_n _ _ _ _ _ (xmon_newD (by assumption)) h (fun _ _ h' => (if_neg ‹_›).trans h')
      · split at h
        · exact xneeds_n _ _ _ _ _ (xmon_new (by assumption)) h (fun _ _ h' => (if_pos ‹_›).trans h')
        · cases h
      · cases h
    · cases h
  | anewarray n =>
    simp only [xctl] at h ⊢
    split at h
    · split at h
      · split at h
        · cases h
        · exact xneeds_n _ _ _ _ _ (xmon_newD (by assumption)) h (fun _ _ h' => (if_neg ‹_›).trans h')
      · split at h
        · exact xneeds_n _ _ _ _ _ (xmon_new (by assumption)) h (fun _ _ h' => (if_pos ‹_›).trans h')
        · cases h
      · cases h
    · cases h
  | aastore =>
    simp only [xctl] at h ⊢
    split at h
    · split at h
      · split at h
        · split at h
          · obtain ⟨h1, h⟩ := xck_some h
            split at h
            · exact xneeds_n _ _ _ _ _ (xmon_fl (by assumption)) h (fun _ _ h' => (if_pos ‹_›).trans ((if_pos ‹_›).trans ((xck_ok h1).trans ((if_pos ‹_›).trans h'))))
            · cases h
          · cases h
        · cases h
      · cases h
    · cases h
  | putfield n =>
    simp only [xctl] at h ⊢
    split at h
    · split at h
      · split at h
        · split at h
          · split at h
            · split at h
              · exact xneeds_n _ _ _ _ _ (xmon_fl (by assumption)) h (fun _ _ h' => (if_pos ‹_›).trans ((if_pos ‹_›).trans ((if_pos ‹_›).trans h')))
              · cases h
            · split at h
              · exact xneeds_n _ _ _ _ _ (xmon_fl (by assumption)) h (fun _ _ h' => (if_pos ‹_›).trans ((if_pos ‹_›).trans ((if_pos ‹_›).trans h')))
              · cases h
            · exact xneeds_n _ _ _ _ _ (xmon_trans (xmon_st (by assumption)) (xmon_fl (by assumption))) h (fun _ _ h' => (if_pos ‹_›).trans ((if_pos ‹_›).trans h'))
            · cases h
          · cases h
        · cases h
      · cases h
    · cases h
  | _ =>
    first
    | (simp [xctl] at h; done)
    | (simp only [xctl] at h ⊢
       repeat' split at h
       all_goals first
         | (simp at h; done)
         | (cases h; exact xneeds_c (xmon_refl _) (fun _ _ => rfl))
         | exact xneeds_n _ _ _ _ _ (xmon_refl _) h (fun _ _ h' => h')
         | exact xneeds_n _ _ _ _ _ (xmon_refl _) h (fun _ _ h' => (if_pos ‹_›).trans h')
         | exact xneeds_n _ _ _ _ _ (xmon_refl _) h (fun _ _ h' => (if_neg ‹_›).trans h')
         | exact xneeds_n _ _ _ _ _ (xmon_refl _) h (fun _ _ h' => (if_pos ‹_›).trans ((if_pos ‹_›).trans h'))
         | exact xneeds_n _ _ _ _ _ (xmon_refl _) h (fun _ _ h' => (if_pos ‹_›).trans ((if_neg ‹_›).trans h'))
         | exact xneeds_n _ _ _ _ _ (xmon_refl _) (xck_some h).2 (fun _ _ h' => (xck_ok (xck_some h).1).trans h')
         | exact xneeds_n _ _ _ _ _ (xmon_st (by assumption)) (xck_some h).2 (fun _ _ h' => (xck_ok (xck_some h).1).trans h')
         | exact xneeds_n _ _ _ _ _ (xmon_refl _) (xck_some h).2 (fun _ _ h' => (if_pos ‹_›).trans ((xck_ok (xck_some h).1).trans h')))
theorem xput_mon {kx tag tk f o : Nat} {v : xV} {M M' : xM} (h : xput kx tag tk f o v M = some M') : xmon M M' := by
  unfold xput at h
  split at h
  · split at h
    · cases h; exact xmon_st (by assumption)
    · cases h; exact xmon_st (by assumption)
    · split at h
      · cases h; exact xmon_st (by assumption)
      · cases h
    · cases h
  · cases h
set_option maxHeartbeats 4000000 in
theorem xpure_mon {i : Instr} {aux : List Nat} {kc : Int32} {ls st ls' st' : List xV} {M M' : xM} (h : xpure i aux kc ls st M = some (ls', st', M')) : xmon M M' := by
  cases i with
  | putfield n =>
    simp only [xpure] at h
    split at h
    · split at h
      · split at h
        · rename_i e
          cases h
          exact xput_mon e
        · cases h
      · cases h
    · cases h
  | _ =>
    first
    | (simp [xpure] at h; done)
    | (simp only [xpure] at h
       repeat' split at h
       all_goals first
         | (simp at h; done)
         | (cases h; exact xmon_refl _))
theorem xstep_needs {tab : Nat → List xE} {ml : Nat → Nat} {Ec En : xP} {C cs : List xE} {ls st : List xV} {M : xM} {r} (h : xstep tab ml Ec En C cs ls st M = some r) : xneeds (fun Ec En => xstep tab ml Ec En C cs ls st M) Ec En M r := by
  unfold xstep at h ⊢
  split at h
  · cases h
  · split at h
    · rename_i e
      exact xneeds_n _ _ _ _ _ (xpure_mon e) h (fun _ _ h' => h')
    · rename_i e
      exact xctl_needs h
/-- the machine takes nothing back -/
theorem xexec_mon {tab : Nat → List xE} {ml : Nat → Nat} : ∀ (n : Nat) {C cs : List xE} {ls st : List xV} {M : xM} {r}, xexec tab ml n C cs ls st M = some r → xmon M r.2
  | 0, _, _, _, _, _, _, h => nomatch h
  | k + 1, C, cs, ls, st, M, r, h => by
    obtain ⟨c, n, h1, h2, -, h4, h5⟩ := xstep_needs h
    have e1 : xmon M ((c.map fun q => q.2.2).getD M) := by
      cases c with
      | none => exact xmon_refl _
      | some q =>
        have e := xexec_mon k (h1 q rfl)
        rw [h4 q rfl] at e
        exact e
    refine xmon_trans e1 (xmon_trans h5 ?_)
    cases n with
    | none => exact xmon_refl _
    | some q => exact xexec_mon k (h2 q rfl)
theorem xstep_mono {tab : Nat → List xE} {ml : Nat → Nat} {Ec En Ec' En' : xP} (hc : ∀ C cs ls st M r, Ec C cs ls st M = some r → Ec' C cs ls st M = some r) (hn : ∀ C cs ls st M r, En C cs ls st M = some r → En' C cs ls st M = some r) {C cs : List xE} {ls st : List xV} {M : xM} {r} (h : xstep tab ml Ec En C cs ls st M = some r) : xstep tab ml Ec' En' C cs ls st M = some r := by
  obtain ⟨c, n, h1, h2, h3, -, -⟩ := xstep_needs h
  exact h3 Ec' En' (fun q hq => hc _ _ _ _ _ _ (h1 q hq)) (fun q hq => hn _ _ _ _ _ _ (h2 q hq))
theorem xexec_succ {tab : Nat → List xE} {ml : Nat → Nat} : ∀ (n : Nat) {C cs : List xE} {ls st : List xV} {M : xM} {r}, xexec tab ml n C cs ls st M = some r → xexec tab ml (n + 1) C cs ls st M = some r
  | 0, _, _, _, _, _, _, h => nomatch h
  | n + 1, _, _, _, _, _, _, h => xstep_mono (fun _ _ _ _ _ _ => xexec_succ n) (fun _ _ _ _ _ _ => xexec_succ n) h
theorem xexec_le {tab : Nat → List xE} {ml : Nat → Nat} {n k : Nat} (hk : n ≤ k) {C cs : List xE} {ls st : List xV} {M : xM} {r} (h : xexec tab ml n C cs ls st M = some r) : xexec tab ml k C cs ls st M = some r := by
  induction hk with
  | refl => exact h
  | step _ ih => exact xexec_succ _ ih
/-- the machine without fuel -/
noncomputable def xEv (tab : Nat → List xE) (ml : Nat → Nat) : xP := fun C cs ls st M => haveI := Classical.propDecidable; if h : ∃ n r, xexec tab ml n C cs ls st M = some r then xexec tab ml h.choose C cs ls st M else none
theorem xEv_of {tab : Nat → List xE} {ml : Nat → Nat} {n : Nat} {C cs : List xE} {ls st : List xV} {M : xM} {r} (h : xexec tab ml n C cs ls st M = some r) : xEv tab ml C cs ls st M = some r := by
  have h1 : ∃ n r, xexec tab ml n C cs ls st M = some r := ⟨n, r, h⟩
  unfold xEv
  rw [dif_pos h1]
  obtain ⟨r', h2⟩ := h1.choose_spec
  rw [h2, ← xexec_le (Nat.le_max_left h1.choose n) h2, xexec_le (Nat.le_max_right h1.choose n) h]
theorem xEv_ex {tab : Nat → List xE} {ml : Nat → Nat} {C cs : List xE} {ls st : List xV} {M : xM} {r} (h : xEv tab ml C cs ls st M = some r) : ∃ n, xexec tab ml n C cs ls st M = some r := by
  unfold xEv at h
  split at h
  · exact ⟨_, h⟩
  · cases h
theorem xEv_eq (tab : Nat → List xE) (ml : Nat → Nat) (C cs : List xE) (ls st : List xV) (M : xM) : xEv tab ml C cs ls st M = xstep tab ml (xEv tab ml) (xEv tab ml) C cs ls st M := by
  have key : ∀ r, xEv tab ml C cs ls st M = some r ↔ xstep tab ml (xEv tab ml) (xEv tab ml) C cs ls st M = some r := by
    intro r
    constructor
    · intro h
      obtain ⟨n, h⟩ := xEv_ex h
      cases n with
      | zero => cases h
      | succ n => exact xstep_mono (fun _ _ _ _ _ _ h => xEv_of h) (fun _ _ _ _ _ _ h => xEv_of h) h
    · intro h
      obtain ⟨c, n, h1, h2, h3, -, -⟩ := xstep_needs h
      have hc : ∃ k, ∀ q, c = some q → xexec tab ml k q.1.1 q.1.2.1 q.1.2.2.1 q.1.2.2.2.1 q.1.2.2.2.2 = some q.2 := by
        cases c with
        | none => exact ⟨0, fun _ h => nomatch h⟩
        | some q =>
          obtain ⟨k, hk⟩ := xEv_ex (h1 q rfl)
          exact ⟨k, fun q' e => by cases e; exact hk⟩
      have hn : ∃ k, ∀ q, n = some q → xexec tab ml k q.1 q.2.1 q.2.2.1 q.2.2.2.1 q.2.2.2.2 = some r := by
        cases n with
        | none => exact ⟨0, fun _ h => nomatch h⟩
        | some q =>
          obtain ⟨k, hk⟩ := xEv_ex (h2 q rfl)
          exact ⟨k, fun q' e => by cases e; exact hk⟩
      obtain ⟨k1, hk1⟩ := hc
      obtain ⟨k2, hk2⟩ := hn
      exact xEv_of (n := max k1 k2 + 1) (h3 _ _ (fun q hq => xexec_le (Nat.le_max_left _ _) (hk1 q hq)) (fun q hq => xexec_le (Nat.le_max_right _ _) (hk2 q hq)))
  cases h : xEv tab ml C cs ls st M with
  | none =>
    cases h2 : xstep tab ml (xEv tab ml) (xEv tab ml) C cs ls st M with
    | none => rfl
    | some r => rw [(key r).mpr h2] at h; cases h
  | some r => exact ((key r).mp h).symm
/-- up to k steps, as far as the next entry with a mark (nop), where the machine goes on -/
noncomputable def xrun (tab : Nat → List xE) (ml : Nat → Nat) : Nat → xP
  | 0 => xEv tab ml
  | k + 1 => fun C cs ls st M => match cs with
    | (_, .nop, _, kc) :: _ => if kc = 0 then xstep tab ml (xEv tab ml) (xEv tab ml) C cs ls st M else xstep tab ml (xEv tab ml) (xrun tab ml k) C cs ls st M
    | _ => xstep tab ml (xEv tab ml) (xrun tab ml k) C cs ls st M
theorem xrun_eq (tab : Nat → List xE) (ml : Nat → Nat) : ∀ k, xrun tab ml k = xEv tab ml
  | 0 => rfl
  | k + 1 => by
    funext C cs ls st M
    have ih := xrun_eq tab ml k
    unfold xrun
    split
    · rw [ih, ite_self]
      exact (xEv_eq ..).symm
    · rw [ih]
      exact (xEv_eq ..).symm
theorem xEv_unf (k : Nat) (tab : Nat → List xE) (ml : Nat → Nat) (C cs : List xE) (ls st : List xV) (M : xM) : xEv tab ml C cs ls st M = xstep tab ml (xEv tab ml) (xrun tab ml k) C cs ls st M := by
  rw [xrun_eq]
  exact xEv_eq ..
end
