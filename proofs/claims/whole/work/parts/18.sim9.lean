/-! THROWS: 'throw new E("text")' of the class's own methods (wip/whole/gen18.py writes this). -/
def xnm : List String := ["java/lang/RuntimeException", "java/lang/Exception"]
/-- by the exception's number: the index of its class, of its constructor -/
def xthk (E : Nat) : Nat := match E with
  | 0 => 87
  | 1 => 97
  | 2 => 137
  | _ => 150
def xthc (E : Nat) : Nat := match E with
  | 0 => 91
  | 1 => 101
  | 2 => 141
  | _ => 154
/-- the sites: method, pc, exception, the text's index, wide -/
def xthL : List (Nat × Nat × Nat × Nat × Bool) := [(66, 23, 0, 89, false), (72, 18, 1, 99, false), (76, 27, 1, 102, false), (92, 11, 2, 372, true), (94, 23, 2, 139, false), (100, 23, 3, 152, false), (103, 23, 3, 158, false), (107, 11, 2, 377, true), (153, 15, 2, 210, false), (216, 11, 1, 381, true), (255, 9, 1, 385, true), (271, 11, 1, 383, true), (284, 27, 1, 297, true), (288, 15, 1, 302, true), (293, 22, 0, 310, true), (298, 22, 0, 315, true), (303, 16, 1, 320, true), (303, 39, 0, 325, true), (314, 16, 0, 334, true), (327, 31, 1, 340, true), (340, 10, 0, 345, true), (343, 9, 2, 379, true), (347, 13, 0, 353, true), (380, 15, 2, 363, true)]
/-- the texts -/
def xths : List (Nat × String) := [(89, "the input buffer holds at most 600 bytes"), (99, "the input buffer can only become shorter"), (102, "the setup text has an error"), (139, "the name has no such letter"), (152, "no task has this name"), (158, "no resource has this name"), (210, "the order has no such position"), (297, "a demand is 0 to the capacity of the resource"), (302, "a release day is 0 to 99"), (310, "there is this link, or it would close a cycle"), (315, "there is no such link"), (320, "a capacity is 1 to 9"), (325, "a task has a greater demand for the resource"), (334, "the only task cannot be dropped"), (340, "the script has an error"), (345, "there is no change to undo"), (353, "nothing is saved in the slot"), (363, "the output text has no such byte"), (372, "the task does not exist"), (377, "the resource does not exist"), (379, "the slot does not exist"), (381, "a day is 0 to 999"), (383, "a duration is 1 to 30 days"), (385, "a rule is 0 to 3")]
set_option maxRecDepth 100000 in
theorem xthk_ok : ∀ q ∈ [0, 1, 2, 3], Cond.classLink "ProjectPlanner" (xthk q) (xEn q) ∈ xwA := xwA_map [1086, 1114, 1141, 1173] _ rfl (fun _ => rfl)
set_option maxRecDepth 100000 in
theorem xthi_ok : ∀ q ∈ [0, 1, 2, 3], Cond.initialized (xEn q) ∈ xwA := xwA_map [112, 113, 115, 116] _ rfl (fun _ => rfl)
theorem xtha_all : ([0, 1, 2, 3] : List Nat).all (fun q => (vx_atS "ProjectPlanner" (xthc q) (xEn q) xnm).all (fun w => xTb.contains w && goodWord w)) = true := by decide +kernel
theorem xtha_ok {q : Nat} (hq : q ∈ ([0, 1, 2, 3] : List Nat)) : ∀ w ∈ vx_atS "ProjectPlanner" (xthc q) (xEn q) xnm, w ∈ xwA := fun w hw => by
  have h := List.all_eq_true.mp (List.all_eq_true.mp xtha_all q hq) w hw
  exact List.mem_filter.mpr ⟨List.contains_iff_mem.mp (and_l h), and_r h⟩
theorem xths_all : xthL.all (fun q => Nat.beq (xoc q.1) 11 && (Nat.blt q.2.2.1 4 && ((xhh q.1).isEmpty && (xths.map (·.1)).contains q.2.2.2.1))) = true := by decide +kernel
theorem xthd_all : xthL.all (fun q => match q with
  | (y, pc, E, is, w) => (xdec y pc (.new (xthk E)) 3 && xdec y (pc + 3) .dup 1) && (match w with
    | true => (xdec y (pc + 4) (.ldc_w is) 3 && xdec y (pc + 7) (.invokespecial (xthc E)) 3) && xdec y (pc + 10) .athrow 1
    | false => (xdec y (pc + 4) (.ldc is) 2 && xdec y (pc + 6) (.invokespecial (xthc E)) 3) && xdec y (pc + 9) .athrow 1)) = true := by decide +kernel
/-- what a start gives of the exceptions -/
def xCt (A : Nat → Prop) (s : State) : Prop :=
  (∀ q ∈ xths, ∃ sa, vk_R "ProjectPlanner" q.1 q.2 sa s) ∧ vx_Zq Bundle.tN "UNASSIGNED_STACK" Bundle.steD A s s.heap ∧ vx_Zq Bundle.tN "SUPPRESSED_SENTINEL" Bundle.listD A s s.heap ∧
  ∀ E E', E < 4 → E' < 4 → E ≠ E' → va_Nc (xEn E) (xEn E') s
theorem xbump_at {M : xM} {c n k o f : Nat} (h : k ≠ 100) : xbump M c n k o f = M k o f := by
  unfold xbump
  rw [xst_ne (by omega), xst_ne (by omega)]
theorem gn_xbump {M : xM} {c n k o f : Nat} (h : k ≠ 100) : gn (xbump M c n) k o f = gn M k o f := by
  unfold gn
  rw [xbump_at h]
theorem xbump_0 {M : xM} {c n : Nat} : gn (xbump M c n) 100 0 0 = gn M 100 0 0 + c := by
  unfold xbump
  rw [gn_xst, if_neg (by omega), gn_xst, if_pos ⟨rfl, rfl, rfl⟩]
theorem xbump_1 {M : xM} {c n : Nat} : gn (xbump M c n) 100 0 1 = gn M 100 0 1 + n := by
  unfold xbump
  rw [gn_xst, if_pos ⟨rfl, rfl, rfl⟩]
/-- the same things in another store, in a larger heap -/
theorem xWd_ext {s : State} {A : Nat → Prop} {ad : xA} {M M' : xM} {H H' : Heap} (hW : xWd s A ad M H) (hc : ∀ k, xc M' k = xc M k) (hv : ∀ k o f, k < 60 → M' k o f = M k o f ∧ gn M' (200 + k) o f = gn M (200 + k) o f) (hl : ∀ k o, k < 60 → gn M' (110 + k) o 0 = gn M (110 + k) o 0) (hH : ∀ q, q < H.size → H'[q]? = H[q]?) : xWd s A ad M' H' := fun k o hk ho => by
  rw [hc] at ho
  exact ⟨fun hf => ((hW k o hk ho).1 hf).same rfl (hH _ (hW.lt hk ho (Or.inl hf))) (fun f d hd => xfv_eq (hv k o f hk).1 (hv k o f hk).2), fun ty ht => ((hW k o hk ho).2 ty ht).same rfl (hH _ (hW.lt hk ho (Or.inr (by rw [ht]; exact fun h => nomatch h)))) (xlen_eq (hl k o hk)) (fun j hj => xav_eq (hv k o j hk).1 (hv k o j hk).2)⟩
theorem xrest_ext {M M' : xM} (hc : ∀ k, xc M' k = xc M k) (hv : ∀ k o f, k < 60 → M' k o f = M k o f ∧ gn M' (200 + k) o f = gn M (200 + k) o f) (hl : ∀ k o, k < 60 → gn M' (110 + k) o 0 = gn M (110 + k) o 0) (hT : xWT M) (hB : xBt M) (hK : xK M) : xWT M' ∧ xBt M' ∧ xK M' := by
  refine ⟨⟨fun k o f t tk tw hk ho hd ht hf => ?_, fun k o tk tw j hk ho hae hj hf => ?_⟩, ⟨fun k o j ht ho => ?_, fun k o hy hk ho => ?_⟩, ?_⟩
  · rw [hc] at ho ⊢
    have e3 : gn M' k o f = gn M k o f := by unfold gn; rw [(hv k o f hk).1]
    rw [e3]
    exact hT.1 k o f t tk tw hk ho hd ht (by show gn M (200 + k) o f = 1; rw [← (hv k o f hk).2]; exact hf)
  · rw [hc] at ho ⊢
    exact hT.2 k o tk tw j hk ho hae hj (by show gn M (200 + k) o j = 1; rw [← (hv k o j hk).2]; exact hf)
  · rw [hc] at ho
    have e3 : gi M' k o j = gi M k o j := by unfold gi; rw [(hv k o j (xtc_lt k (by rw [ht]; decide))).1]
    rw [e3]
    exact hB.1 k o j ht ho
  · rw [hc] at ho
    rw [hl k o hk]
    exact hB.2 k o hy hk ho
  · obtain ⟨a, b, c, e1, e2, e3, e4, e5⟩ := hK
    exact ⟨by rw [hc]; exact a, by rw [hc]; exact b, by rw [hc]; exact c, by rw [hc]; exact e1, by rw [hc]; exact e2, by rw [hc]; exact e3, by rw [hc]; exact e4, by rw [hc]; exact e5⟩
theorem xEn_fit : ([0, 1, 2, 3] : List Nat).all (fun q => Bundle.fit (xEn q)) = true := by decide +kernel
theorem xnm_fit : ∀ n ∈ xnm, Bundle.fit n = true := List.all_eq_true.mp (by decide +kernel : xnm.all Bundle.fit = true)
set_option maxHeartbeats 4000000 in
theorem xthr_W {p : Program} {l : Launch} {e : Env} {R : Room} {s : State} {m : MethodId} {args : Array Value} {below : List Frame} {meth : Method} {c : Code} {H : Heap} {locs : List Loc} {cells slots : Nat} {A : Nat → Prop} {ad ad0 : xA}
    {y pc fc fs E is : Nat} {w : Bool} {M M0 : xM} {la : Array Slot} {rg : Option (List (Nat × Nat))}
    (F : xFx y p l s m args meth c) (Zt : xCt A s) (I : xInv s A ad M s.heap H locs) (hb : ∀ k o, k < 60 → k ≠ 51 → o < xc M0 k → ad k o = ad0 k o)
    (hET : c.exceptionTable.toList = tableOf (xhh y)) (hz : (y, pc, E, is, w) ∈ xthL) (hla : la.size = xml y) (hRf : 8 ≤ R.frames) (hRl : 200 ≤ R.locals)
    (hc : cells + gn (xbump M 1 6) 100 0 0 ≤ fc + gn M 100 0 0) (hs : slots + gn (xbump M 1 6) 100 0 1 ≤ fs + gn M 100 0 1) (hfc : fc ≤ R.cells) (hfs : fs ≤ R.slots) :
    W p l e R s m args below meth c H locs cells slots (vx_MQ below (xQc A ad0 M0 rg (.inr E, xbump M 1 6)) (xXC A ad0 M0 (.inr E, xbump M 1 6)) args s fc fs A) (F0 m pc la []) := by
  obtain ⟨hx, hbc, hml, hown, hts, hlk, hrt, hnm, htr⟩ := F
  obtain ⟨hW, hP, hT, hB, hK, hS⟩ := I
  obtain ⟨z1, z2, z3, -⟩ := Zt
  have h1 := List.all_eq_true.mp xths_all _ hz
  simp only at h1
  have hoc := Nat.eq_of_beq_eq_true (and_l h1)
  have hE : E < 4 := Nat.le_of_ble_eq_true (and_l (and_r h1))
  have hhh : xhh y = [] := List.isEmpty_iff.mp (and_l (and_r (and_r h1)))
  have hE4 : E ∈ ([0, 1, 2, 3] : List Nat) := by
    have : E = 0 ∨ E = 1 ∨ E = 2 ∨ E = 3 := by omega
    rcases this with rfl | rfl | rfl | rfl <;> simp
  obtain ⟨q, hq, hq2⟩ := List.mem_map.mp (List.contains_iff_mem.mp (and_r (and_r (and_r h1))))
  obtain ⟨sa, hsa⟩ := z1 q hq
  rw [hq2] at hsa
  have hd := List.all_eq_true.mp xthd_all _ hz
  simp only at hd
  rw [hoc] at hown
  rw [hhh] at hET
  have hout : ∀ (z : Nat), ∀ x ∈ c.exceptionTable.toList, covers x z = false := fun z x hx => by rw [hET] at hx; cases hx
  have ha := xtha_ok hE4
  have hat : ∀ w ∈ vx_atS "ProjectPlanner" (xthc E) (xEn E) xnm, w.before args s = true := fun w hw => hts w (ha w hw)
  have hgood : ∀ w ∈ Cond.classLink "ProjectPlanner" (xthk E) (xEn E) :: Cond.initialized (xEn E) :: vx_atS "ProjectPlanner" (xthc E) (xEn E) xnm, vx_ot w = true := fun w hw => by
    have hg : goodWord w = true := by
      rcases List.mem_cons.mp hw with h | h
      · rw [h]; exact xwA_good (xthk_ok E hE4)
      · rcases List.mem_cons.mp h with h | h
        · rw [h]; exact xwA_good (xthi_ok E hE4)
        · exact xwA_good (ha w h)
    unfold vx_ot
    rw [hg, Bool.or_true]
  have hxx : ∀ t : State, s.vm.Alike t.vm → H.size ≤ t.heap.size → (∀ q : Nat, q < H.size → t.heap[q]? = H[q]?) → xXC A ad0 M0 (.inr E, xbump M 1 6) (xEn E) s t := fun t hv hz hq => by
    have hc9 : ∀ k, xc (xbump M 1 6) k = xc M k := fun k => gn_xbump (by omega)
    have hv9 : ∀ k o f, k < 60 → xbump M 1 6 k o f = M k o f ∧ gn (xbump M 1 6) (200 + k) o f = gn M (200 + k) o f := fun k o f hk => ⟨xbump_at (by omega), gn_xbump (by omega)⟩
    have hl9 : ∀ k o, k < 60 → gn (xbump M 1 6) (110 + k) o 0 = gn M (110 + k) o 0 := fun k o hk => gn_xbump (by omega)
    have r3 := xrest_ext hc9 hv9 hl9 hT hB hK
    exact ⟨E, ad, rfl, rfl, hE, hb, (xWd_ext hW hc9 hv9 hl9 hq).moved hv, hP.ch hc9, r3.1, r3.2.1, Nat.le_trans hS.1 hz, fun q h1 h2 => (hq q (Nat.lt_of_lt_of_le h1 hS.1)).trans (hS.2.1 q h1 h2)⟩
  have e0 := xbump_0 (M := M) (c := 1) (n := 6)
  have e1 := xbump_1 (M := M) (c := 1) (n := 6)
  have hlen : xnm.length = 2 := rfl
  cases w with
  | false =>
    simp only at hd
    exact vx_throwS hx hbc htr hown (List.all_eq_true.mp xEn_fit E hE4) xnm_fit (hts _ (xthk_ok E hE4)) (hts _ (xthi_ok E hE4)) hsa hat hgood z2 z3 hS (hla.trans hml.symm) (of_decide_eq_true (and_l (and_l hd))) (of_decide_eq_true (and_r (and_l hd))) (of_decide_eq_true (and_l (and_l (and_r hd)))) (of_decide_eq_true (and_r (and_l (and_r hd)))) (of_decide_eq_true (and_r (and_r hd))) (hout _) (by omega) (by rw [hlen]; simp; omega) (by omega) (by omega) hlk hxx hS.2.2 (by omega) (by omega)
  | true =>
    simp only at hd
    exact vx_throwSW hx hbc htr hown (List.all_eq_true.mp xEn_fit E hE4) xnm_fit (hts _ (xthk_ok E hE4)) (hts _ (xthi_ok E hE4)) hsa hat hgood z2 z3 hS (hla.trans hml.symm) (of_decide_eq_true (and_l (and_l hd))) (of_decide_eq_true (and_r (and_l hd))) (of_decide_eq_true (and_l (and_l (and_r hd)))) (of_decide_eq_true (and_r (and_l (and_r hd)))) (of_decide_eq_true (and_r (and_r hd))) (hout _) (by omega) (by rw [hlen]; simp; omega) (by omega) (by omega) hlk hxx hS.2.2 (by omega) (by omega)

