/-! the law's table (wip/whole/gen20.py writes this) -/
noncomputable def xjmpJ (J : Nat → Nat) (pc : Nat) (off : Int) (aux : List Nat) : Bool := match aux with
  | t :: _ => decide ((pc : Int) + off = (J t : Int))
  | [] => false
noncomputable def xokXJ (y : Nat) (J : Nat → Nat) (pc : Nat) (i : Instr) (aux : List Nat) (kc : Int32) : Bool := match i with
  | .iconst n => decide (Int32.ofInt n = kc)
  | .bipush n => decide ((Int8.ofInt n).toInt32 = kc)
  | .sipush n => decide ((Int16.ofInt n).toInt32 = kc)
  | .fconst n => decide (n = 0)
  | .dconst n => decide (n = 0)
  | .iinc n d => Nat.blt n (xml y) && decide (Int32.ofInt d = kc)
  | .istore n => Nat.blt n (xml y)
  | .fstore n => Nat.blt n (xml y)
  | .astore n => Nat.blt n (xml y)
  | .lstore n => Nat.blt (n + 1) (xml y)
  | .dstore n => Nat.blt (n + 1) (xml y)
  | .istore_n n => Nat.blt n.val (xml y)
  | .fstore_n n => Nat.blt n.val (xml y)
  | .astore_n n => Nat.blt n.val (xml y)
  | .lstore_n n => Nat.blt (n.val + 1) (xml y)
  | .dstore_n n => Nat.blt (n.val + 1) (xml y)
  | .ldc ix => (match aux with
    | [] => xldi.contains ((xoc y, ix), kc)
    | [46, sid] => xlds.contains ((xoc y, ix), sid) && Nat.blt sid 18
    | [_] => true
    | _ => false)
  | .ldc_w ix => (match aux with
    | [] => xldi.contains ((xoc y, ix), kc)
    | [_] => true
    | _ => false)
  | .ldc2_w ix => (match aux with
    | [n] => xldl.contains ((xoc y, ix), n)
    | _ => false)
  | .getstatic ix => (match aux with
    | [] => xsv y ix (0, .int kc)
    | [k, o] => xsv y ix (k, .ref o) && ((Nat.beq k 51 && Nat.beq o 0) || (Nat.blt k 60 && !xstrk k))
    | _ => false)
  | .getfield ix => (match aux with
    | [kx, f, tag, tk, tw] => xfl.contains ((xoc y, ix), kx, f) && (Nat.blt kx 60 && (decide ((xfd kx)[f]? = some (tag % 10, tk, tw)) && (match tag with
      | 0 => true
      | 1 => true
      | 12 => !xstrk tk || xreg y
      | 13 => !xstrk tk || xreg y
      | 14 => !xstrk tk || xreg y
      | 15 => !xstrk tk || xreg y
      | _ => Nat.blt tag 6 && (!xreg y && (xstrk kx && !xra kx)))))
    | _ => true)
  | .putfield ix => (match aux with
    | [kx, f, tag, tk, tw] => xfl.contains ((xoc y, ix), kx, f) && (Nat.blt kx 60 && (decide ((xfd kx)[f]? = some (tag % 10, tk, tw)) && (!Nat.beq kx 43 && ((!(xTf kx f).2.2.2 || ((xTf kx f).1 == xcn (xoc y) && (xY y).name == "<init>")) && (match tag with
      | 0 => (xTf kx f).2.2.1 == "I"
      | 1 => (xTf kx f).2.2.1 == "J"
      | 4 => !xreg y && (xstrk kx && !xra kx)
      | 10 => (xTf kx f).2.2.1 == "B"
      | 12 => true
      | 13 => true
      | 14 => true
      | _ => false)))))
    | _ => true)
  | .iaload => (match aux with
    | [] => true
    | _ => false)
  | .baload => (match aux with
    | [] => false
    | _ => true)
  | .goto off => xjmpJ J pc off aux
  | .ifCond _ off => xjmpJ J pc off aux
  | .if_icmp _ off => xjmpJ J pc off aux
  | .if_acmp _ off => xjmpJ J pc off aux
  | .aaload => (match aux with
    | [kx, tk, tw] => decide (xae kx = some (tk, tw)) && (!xreg y && xstrk kx)
    | [kx, tk, tw, _] => decide (xae kx = some (tk, tw)) && !xstrk tk
    | _ => true)
  | .aastore => (match aux with
    | [kx, tk, tw] => decide (xae kx = some (tk, tw)) && !Nat.beq tk 43
    | _ => true)
  | .new ix => (match aux with
    | [_, _] => true
    | [k, n, z] => xnewL.contains ((xoc y, ix), k, n) && (xmut k 18 && ((!xstrk k || xreg y) && Nat.beq z 0))
    | _ => true)
  | .newarray a => (match aux with
    | [k] => decide (xat k = some (newarray.typeOf a)) && (xmut k 18 && (!xstrk k || xreg y))
    | _ => true)
  | .anewarray ix => (match aux with
    | [k] => xarr.contains ((xoc y, ix), k) && (xmut k 18 && xreg y)
    | _ => true)
  | .checkcast ix => Nat.beq (xoc y) 21 && Nat.beq ix 311
  | .ireturn => (match aux with
    | [] => decide (xRet y = some .int)
    | [1] => decide (xRet y = some .boolean)
    | [2] => decide (xRet y = some .char)
    | [3] => decide (xRet y = some .byte)
    | _ => false)
  | .lreturn => decide (xRet y = some .long)
  | .freturn => decide (xRet y = some .float)
  | .dreturn => decide (xRet y = some .double)
  | .areturn => (match xRet y with
    | some t => t.isReference
    | none => false)
  | .return_ => decide (xRet y = none)
  | _ => true
noncomputable def xokJ (y : Nat) (J : Nat → Nat) (q : xE) (nx : Nat) : Bool := match q with
  | (pc, i, aux, kc) => match i with
    | .nop => Nat.beq nx pc
    | .tableswitch dflt lo hi offs => (match aux with
      | d :: l :: ts => (match decode (xCode y) pc with
        | .ok (i', _) => decide (i' = i)
        | _ => false) && (decide (lo = (l : Int)) && (decide (hi = (l : Int) + ts.length - 1) && (Nat.beq offs.size ts.length && (Nat.blt (l + ts.length) 1000 && (decide ((pc : Int) + dflt = (J d : Int)) && (List.range ts.length).all (fun j => match offs[j]?, ts[j]? with
          | some off, some t => decide ((pc : Int) + off = (J t : Int))
          | _, _ => false))))))
      | _ => false)
    | _ => xdec y pc i (xil i) && ((xend i aux || Nat.beq nx (pc + xil i)) && xokXJ y J pc i aux kc)
theorem xok_J (y : Nat) (C : List xE) (q : xE) (nx : Nat) : xok y C q nx = xokJ y (fun t => xpc (C.drop t)) q nx := rfl
/-- the tables in pieces, with their lengths -/
noncomputable def xpS : List (Nat × List xE) → Nat → Nat
  | [], _ => 0
  | (n, a) :: r, t => match Nat.blt t n with
    | true => xpc (a.drop t)
    | false => xpS r (t - n)
noncomputable def xpApp : List (Nat × List xE) → List xE
  | [] => []
  | (_, a) :: r => a ++ xpApp r
theorem xpc_drop_app (a b : List xE) (t : Nat) : xpc ((a ++ b).drop t) = if t < a.length then xpc (a.drop t) else xpc (b.drop (t - a.length)) := by
  rw [List.drop_append]
  by_cases h : t < a.length
  · rw [if_pos h]
    cases hd : a.drop t with
    | nil => have := List.drop_eq_nil_iff.mp hd; omega
    | cons q r => rfl
  · rw [if_neg h, List.drop_eq_nil_of_le (by omega), List.nil_append]
theorem xpS_ok : ∀ (L : List (Nat × List xE)), (∀ q ∈ L, q.2.length = q.1) → ∀ t, xpc ((xpApp L).drop t) = xpS L t
  | [], _, t => by simp [xpApp, xpS, xpc]
  | (n, a) :: r, h, t => by
    have h1 : a.length = n := h _ List.mem_cons_self
    unfold xpApp xpS
    rw [xpc_drop_app, h1]
    cases hb : Nat.blt t n with
    | true => rw [if_pos (show t < n from Nat.le_of_ble_eq_true hb)]
    | false => rw [if_neg (fun h9 => by rw [show Nat.blt t n = true from Nat.ble_eq_true_of_le h9] at hb; cases hb)]; exact xpS_ok r (fun q hq => h q (List.mem_cons_of_mem _ hq)) _
noncomputable def xokAJ (y : Nat) (C : List xE) (J : Nat → Nat) : List xE → Nat → Bool
  | [], _ => true
  | [q], n => xokJ y J q n && xokC y C q.1 q.2.1 q.2.2.1
  | q :: q2 :: r, n => (xokJ y J q q2.1 && xokC y C q.1 q.2.1 q.2.2.1) && xokAJ y C J (q2 :: r) n
theorem xokA_J {y : Nat} {C : List xE} {J : Nat → Nat} (h : ∀ t, xpc (C.drop t) = J t) : ∀ (a : List xE) (n : Nat), xokAJ y C J a n = true → xokA y C a n = true
  | [], _, _ => rfl
  | [q], n, h2 => by
    unfold xokA
    rw [xok_J, funext h]
    exact h2
  | q :: q2 :: r, n, h2 => by
    unfold xokAJ at h2
    unfold xokA
    rw [xok_J, funext h, Bool.and_eq_true, xokA_J h (q2 :: r) n (and_r h2)]
    exact ⟨and_l h2, rfl⟩
noncomputable def xpLL : List (Nat × List xE) := [(150, T_L_law_0), (150, T_L_law_1), (150, T_L_law_2), (150, T_L_law_3), (150, T_L_law_4), (150, T_L_law_5), (150, T_L_law_6), (150, T_L_law_7), (150, T_L_law_8), (150, T_L_law_9), (150, T_L_law_10), (150, T_L_law_11), (150, T_L_law_12), (71, T_L_law_13)]
theorem xpLL_len : ∀ q ∈ xpLL, q.2.length = q.1 := by
  have h : xpLL.all (fun q => Nat.beq q.2.length q.1) = true := by decide +kernel
  exact fun q hq => Nat.eq_of_beq_eq_true (List.all_eq_true.mp h q hq)
theorem xpLL_law : xpApp xpLL = T_L_law := by
  unfold T_L_law xpLL
  simp only [xpApp, List.append_nil]
theorem xpLL_J (t : Nat) : xpc (T_L_law.drop t) = xpS xpLL t := by rw [← xpLL_law]; exact xpS_ok _ xpLL_len t
noncomputable def xnx (b : List xE) (n : Nat) : Nat := match b with
  | [] => n
  | q :: _ => q.1
theorem xokA_cut {y : Nat} {C : List xE} {J : Nat → Nat} (h : ∀ t, xpc (C.drop t) = J t) (n : Nat) : ∀ (k : Nat) (b : List xE), xokAJ y C J (b.take k) (xnx (b.drop k) n) = true → xokA y C (b.drop k) n = true → xokA y C b n = true
  | _, [], _, _ => rfl
  | 0, _ :: _, _, h2 => h2
  | k + 1, [q], h1, _ => by
    have h1 : xokAJ y C J [q] n = true := by
      have e1 : ([q] : List xE).take (k + 1) = [q] := by simp
      have e2 : ([q] : List xE).drop (k + 1) = [] := by simp
      rw [e1, e2] at h1
      exact h1
    exact xokA_J h [q] n h1
  | 1, q :: q2 :: r, h1, h2 => by
    have h1 : (xokJ y J q q2.1 && xokC y C q.1 q.2.1 q.2.2.1) = true := h1
    show ((xok y C q q2.1 && xokC y C q.1 q.2.1 q.2.2.1) && xokA y C (q2 :: r) n) = true
    rw [xok_J, funext h, h1]
    exact h2
  | k + 2, q :: q2 :: r, h1, h2 => by
    have h1 : ((xokJ y J q q2.1 && xokC y C q.1 q.2.1 q.2.2.1) && xokAJ y C J ((q2 :: r).take (k + 1)) (xnx ((q2 :: r).drop (k + 1)) n)) = true := h1
    show ((xok y C q q2.1 && xokC y C q.1 q.2.1 q.2.2.1) && xokA y C (q2 :: r) n) = true
    rw [xok_J, funext h, and_l h1]
    exact xokA_cut h n (k + 1) (q2 :: r) (and_r h1) h2
theorem xokA_cut2 {y : Nat} {C : List xE} {J : Nat → Nat} (h : ∀ t, xpc (C.drop t) = J t) (n : Nat) (a : List xE) (j k : Nat) (h1 : xokAJ y C J ((a.drop j).take k) (xnx (a.drop (j + k)) n) = true) (h2 : xokA y C (a.drop (j + k)) n = true) : xokA y C (a.drop j) n = true := by
  rw [← List.drop_drop] at h1 h2
  exact xokA_cut h n k _ h1 h2
theorem xokl_0_0 : xokAJ 383 T_L_law (xpS xpLL) ((T_L_law_0.drop 0).take 16) (xnx (T_L_law_0.drop 16) 482) = true := by decide +kernel
theorem xokl_0_16 : xokAJ 383 T_L_law (xpS xpLL) ((T_L_law_0.drop 16).take 16) (xnx (T_L_law_0.drop 32) 482) = true := by decide +kernel
theorem xokl_0_32 : xokAJ 383 T_L_law (xpS xpLL) ((T_L_law_0.drop 32).take 16) (xnx (T_L_law_0.drop 48) 482) = true := by decide +kernel
theorem xokl_0_48 : xokAJ 383 T_L_law (xpS xpLL) ((T_L_law_0.drop 48).take 16) (xnx (T_L_law_0.drop 64) 482) = true := by decide +kernel
theorem xokl_0_64 : xokAJ 383 T_L_law (xpS xpLL) ((T_L_law_0.drop 64).take 16) (xnx (T_L_law_0.drop 80) 482) = true := by decide +kernel
theorem xokl_0_80 : xokAJ 383 T_L_law (xpS xpLL) ((T_L_law_0.drop 80).take 16) (xnx (T_L_law_0.drop 96) 482) = true := by decide +kernel
theorem xokl_0_96 : xokAJ 383 T_L_law (xpS xpLL) ((T_L_law_0.drop 96).take 16) (xnx (T_L_law_0.drop 112) 482) = true := by decide +kernel
theorem xokl_0_112 : xokAJ 383 T_L_law (xpS xpLL) ((T_L_law_0.drop 112).take 16) (xnx (T_L_law_0.drop 128) 482) = true := by decide +kernel
theorem xokl_0_128 : xokAJ 383 T_L_law (xpS xpLL) ((T_L_law_0.drop 128).take 16) (xnx (T_L_law_0.drop 144) 482) = true := by decide +kernel
theorem xokl_0_144 : xokAJ 383 T_L_law (xpS xpLL) ((T_L_law_0.drop 144).take 16) (xnx (T_L_law_0.drop 160) 482) = true := by decide +kernel
theorem xokl_0 : xokA 383 T_L_law T_L_law_0 482 = true := (xokA_cut2 xpLL_J 482 T_L_law_0 0 16 xokl_0_0 (xokA_cut2 xpLL_J 482 T_L_law_0 16 16 xokl_0_16 (xokA_cut2 xpLL_J 482 T_L_law_0 32 16 xokl_0_32 (xokA_cut2 xpLL_J 482 T_L_law_0 48 16 xokl_0_48 (xokA_cut2 xpLL_J 482 T_L_law_0 64 16 xokl_0_64 (xokA_cut2 xpLL_J 482 T_L_law_0 80 16 xokl_0_80 (xokA_cut2 xpLL_J 482 T_L_law_0 96 16 xokl_0_96 (xokA_cut2 xpLL_J 482 T_L_law_0 112 16 xokl_0_112 (xokA_cut2 xpLL_J 482 T_L_law_0 128 16 xokl_0_128 (xokA_cut2 xpLL_J 482 T_L_law_0 144 16 xokl_0_144 (show xokA 383 T_L_law (T_L_law_0.drop 160) 482 = true from (by rw [show T_L_law_0.drop 160 = [] from by decide +kernel]; rfl))))))))))))
theorem xokl_1_0 : xokAJ 383 T_L_law (xpS xpLL) ((T_L_law_1.drop 0).take 16) (xnx (T_L_law_1.drop 16) 724) = true := by decide +kernel
theorem xokl_1_16 : xokAJ 383 T_L_law (xpS xpLL) ((T_L_law_1.drop 16).take 16) (xnx (T_L_law_1.drop 32) 724) = true := by decide +kernel
theorem xokl_1_32 : xokAJ 383 T_L_law (xpS xpLL) ((T_L_law_1.drop 32).take 16) (xnx (T_L_law_1.drop 48) 724) = true := by decide +kernel
theorem xokl_1_48 : xokAJ 383 T_L_law (xpS xpLL) ((T_L_law_1.drop 48).take 16) (xnx (T_L_law_1.drop 64) 724) = true := by decide +kernel
theorem xokl_1_64 : xokAJ 383 T_L_law (xpS xpLL) ((T_L_law_1.drop 64).take 16) (xnx (T_L_law_1.drop 80) 724) = true := by decide +kernel
theorem xokl_1_80 : xokAJ 383 T_L_law (xpS xpLL) ((T_L_law_1.drop 80).take 16) (xnx (T_L_law_1.drop 96) 724) = true := by decide +kernel
theorem xokl_1_96 : xokAJ 383 T_L_law (xpS xpLL) ((T_L_law_1.drop 96).take 16) (xnx (T_L_law_1.drop 112) 724) = true := by decide +kernel
theorem xokl_1_112 : xokAJ 383 T_L_law (xpS xpLL) ((T_L_law_1.drop 112).take 16) (xnx (T_L_law_1.drop 128) 724) = true := by decide +kernel
theorem xokl_1_128 : xokAJ 383 T_L_law (xpS xpLL) ((T_L_law_1.drop 128).take 16) (xnx (T_L_law_1.drop 144) 724) = true := by decide +kernel
theorem xokl_1_144 : xokAJ 383 T_L_law (xpS xpLL) ((T_L_law_1.drop 144).take 16) (xnx (T_L_law_1.drop 160) 724) = true := by decide +kernel
theorem xokl_1 : xokA 383 T_L_law T_L_law_1 724 = true := (xokA_cut2 xpLL_J 724 T_L_law_1 0 16 xokl_1_0 (xokA_cut2 xpLL_J 724 T_L_law_1 16 16 xokl_1_16 (xokA_cut2 xpLL_J 724 T_L_law_1 32 16 xokl_1_32 (xokA_cut2 xpLL_J 724 T_L_law_1 48 16 xokl_1_48 (xokA_cut2 xpLL_J 724 T_L_law_1 64 16 xokl_1_64 (xokA_cut2 xpLL_J 724 T_L_law_1 80 16 xokl_1_80 (xokA_cut2 xpLL_J 724 T_L_law_1 96 16 xokl_1_96 (xokA_cut2 xpLL_J 724 T_L_law_1 112 16 xokl_1_112 (xokA_cut2 xpLL_J 724 T_L_law_1 128 16 xokl_1_128 (xokA_cut2 xpLL_J 724 T_L_law_1 144 16 xokl_1_144 (show xokA 383 T_L_law (T_L_law_1.drop 160) 724 = true from (by rw [show T_L_law_1.drop 160 = [] from by decide +kernel]; rfl))))))))))))
theorem xokl_2_0 : xokAJ 383 T_L_law (xpS xpLL) ((T_L_law_2.drop 0).take 16) (xnx (T_L_law_2.drop 16) 955) = true := by decide +kernel
theorem xokl_2_16 : xokAJ 383 T_L_law (xpS xpLL) ((T_L_law_2.drop 16).take 16) (xnx (T_L_law_2.drop 32) 955) = true := by decide +kernel
theorem xokl_2_32 : xokAJ 383 T_L_law (xpS xpLL) ((T_L_law_2.drop 32).take 16) (xnx (T_L_law_2.drop 48) 955) = true := by decide +kernel
theorem xokl_2_48 : xokAJ 383 T_L_law (xpS xpLL) ((T_L_law_2.drop 48).take 16) (xnx (T_L_law_2.drop 64) 955) = true := by decide +kernel
theorem xokl_2_64 : xokAJ 383 T_L_law (xpS xpLL) ((T_L_law_2.drop 64).take 16) (xnx (T_L_law_2.drop 80) 955) = true := by decide +kernel
theorem xokl_2_80 : xokAJ 383 T_L_law (xpS xpLL) ((T_L_law_2.drop 80).take 16) (xnx (T_L_law_2.drop 96) 955) = true := by decide +kernel
theorem xokl_2_96 : xokAJ 383 T_L_law (xpS xpLL) ((T_L_law_2.drop 96).take 16) (xnx (T_L_law_2.drop 112) 955) = true := by decide +kernel
theorem xokl_2_112 : xokAJ 383 T_L_law (xpS xpLL) ((T_L_law_2.drop 112).take 16) (xnx (T_L_law_2.drop 128) 955) = true := by decide +kernel
theorem xokl_2_128 : xokAJ 383 T_L_law (xpS xpLL) ((T_L_law_2.drop 128).take 16) (xnx (T_L_law_2.drop 144) 955) = true := by decide +kernel
theorem xokl_2_144 : xokAJ 383 T_L_law (xpS xpLL) ((T_L_law_2.drop 144).take 16) (xnx (T_L_law_2.drop 160) 955) = true := by decide +kernel
theorem xokl_2 : xokA 383 T_L_law T_L_law_2 955 = true := (xokA_cut2 xpLL_J 955 T_L_law_2 0 16 xokl_2_0 (xokA_cut2 xpLL_J 955 T_L_law_2 16 16 xokl_2_16 (xokA_cut2 xpLL_J 955 T_L_law_2 32 16 xokl_2_32 (xokA_cut2 xpLL_J 955 T_L_law_2 48 16 xokl_2_48 (xokA_cut2 xpLL_J 955 T_L_law_2 64 16 xokl_2_64 (xokA_cut2 xpLL_J 955 T_L_law_2 80 16 xokl_2_80 (xokA_cut2 xpLL_J 955 T_L_law_2 96 16 xokl_2_96 (xokA_cut2 xpLL_J 955 T_L_law_2 112 16 xokl_2_112 (xokA_cut2 xpLL_J 955 T_L_law_2 128 16 xokl_2_128 (xokA_cut2 xpLL_J 955 T_L_law_2 144 16 xokl_2_144 (show xokA 383 T_L_law (T_L_law_2.drop 160) 955 = true from (by rw [show T_L_law_2.drop 160 = [] from by decide +kernel]; rfl))))))))))))
theorem xokl_3_0 : xokAJ 383 T_L_law (xpS xpLL) ((T_L_law_3.drop 0).take 16) (xnx (T_L_law_3.drop 16) 1185) = true := by decide +kernel
theorem xokl_3_16 : xokAJ 383 T_L_law (xpS xpLL) ((T_L_law_3.drop 16).take 16) (xnx (T_L_law_3.drop 32) 1185) = true := by decide +kernel
theorem xokl_3_32 : xokAJ 383 T_L_law (xpS xpLL) ((T_L_law_3.drop 32).take 16) (xnx (T_L_law_3.drop 48) 1185) = true := by decide +kernel
theorem xokl_3_48 : xokAJ 383 T_L_law (xpS xpLL) ((T_L_law_3.drop 48).take 16) (xnx (T_L_law_3.drop 64) 1185) = true := by decide +kernel
theorem xokl_3_64 : xokAJ 383 T_L_law (xpS xpLL) ((T_L_law_3.drop 64).take 16) (xnx (T_L_law_3.drop 80) 1185) = true := by decide +kernel
theorem xokl_3_80 : xokAJ 383 T_L_law (xpS xpLL) ((T_L_law_3.drop 80).take 16) (xnx (T_L_law_3.drop 96) 1185) = true := by decide +kernel
theorem xokl_3_96 : xokAJ 383 T_L_law (xpS xpLL) ((T_L_law_3.drop 96).take 16) (xnx (T_L_law_3.drop 112) 1185) = true := by decide +kernel
theorem xokl_3_112 : xokAJ 383 T_L_law (xpS xpLL) ((T_L_law_3.drop 112).take 16) (xnx (T_L_law_3.drop 128) 1185) = true := by decide +kernel
theorem xokl_3_128 : xokAJ 383 T_L_law (xpS xpLL) ((T_L_law_3.drop 128).take 16) (xnx (T_L_law_3.drop 144) 1185) = true := by decide +kernel
theorem xokl_3_144 : xokAJ 383 T_L_law (xpS xpLL) ((T_L_law_3.drop 144).take 16) (xnx (T_L_law_3.drop 160) 1185) = true := by decide +kernel
theorem xokl_3 : xokA 383 T_L_law T_L_law_3 1185 = true := (xokA_cut2 xpLL_J 1185 T_L_law_3 0 16 xokl_3_0 (xokA_cut2 xpLL_J 1185 T_L_law_3 16 16 xokl_3_16 (xokA_cut2 xpLL_J 1185 T_L_law_3 32 16 xokl_3_32 (xokA_cut2 xpLL_J 1185 T_L_law_3 48 16 xokl_3_48 (xokA_cut2 xpLL_J 1185 T_L_law_3 64 16 xokl_3_64 (xokA_cut2 xpLL_J 1185 T_L_law_3 80 16 xokl_3_80 (xokA_cut2 xpLL_J 1185 T_L_law_3 96 16 xokl_3_96 (xokA_cut2 xpLL_J 1185 T_L_law_3 112 16 xokl_3_112 (xokA_cut2 xpLL_J 1185 T_L_law_3 128 16 xokl_3_128 (xokA_cut2 xpLL_J 1185 T_L_law_3 144 16 xokl_3_144 (show xokA 383 T_L_law (T_L_law_3.drop 160) 1185 = true from (by rw [show T_L_law_3.drop 160 = [] from by decide +kernel]; rfl))))))))))))
theorem xokl_4_0 : xokAJ 383 T_L_law (xpS xpLL) ((T_L_law_4.drop 0).take 16) (xnx (T_L_law_4.drop 16) 1415) = true := by decide +kernel
theorem xokl_4_16 : xokAJ 383 T_L_law (xpS xpLL) ((T_L_law_4.drop 16).take 16) (xnx (T_L_law_4.drop 32) 1415) = true := by decide +kernel
theorem xokl_4_32 : xokAJ 383 T_L_law (xpS xpLL) ((T_L_law_4.drop 32).take 16) (xnx (T_L_law_4.drop 48) 1415) = true := by decide +kernel
theorem xokl_4_48 : xokAJ 383 T_L_law (xpS xpLL) ((T_L_law_4.drop 48).take 16) (xnx (T_L_law_4.drop 64) 1415) = true := by decide +kernel
theorem xokl_4_64 : xokAJ 383 T_L_law (xpS xpLL) ((T_L_law_4.drop 64).take 16) (xnx (T_L_law_4.drop 80) 1415) = true := by decide +kernel
theorem xokl_4_80 : xokAJ 383 T_L_law (xpS xpLL) ((T_L_law_4.drop 80).take 16) (xnx (T_L_law_4.drop 96) 1415) = true := by decide +kernel
theorem xokl_4_96 : xokAJ 383 T_L_law (xpS xpLL) ((T_L_law_4.drop 96).take 16) (xnx (T_L_law_4.drop 112) 1415) = true := by decide +kernel
theorem xokl_4_112 : xokAJ 383 T_L_law (xpS xpLL) ((T_L_law_4.drop 112).take 16) (xnx (T_L_law_4.drop 128) 1415) = true := by decide +kernel
theorem xokl_4_128 : xokAJ 383 T_L_law (xpS xpLL) ((T_L_law_4.drop 128).take 16) (xnx (T_L_law_4.drop 144) 1415) = true := by decide +kernel
theorem xokl_4_144 : xokAJ 383 T_L_law (xpS xpLL) ((T_L_law_4.drop 144).take 16) (xnx (T_L_law_4.drop 160) 1415) = true := by decide +kernel
theorem xokl_4 : xokA 383 T_L_law T_L_law_4 1415 = true := (xokA_cut2 xpLL_J 1415 T_L_law_4 0 16 xokl_4_0 (xokA_cut2 xpLL_J 1415 T_L_law_4 16 16 xokl_4_16 (xokA_cut2 xpLL_J 1415 T_L_law_4 32 16 xokl_4_32 (xokA_cut2 xpLL_J 1415 T_L_law_4 48 16 xokl_4_48 (xokA_cut2 xpLL_J 1415 T_L_law_4 64 16 xokl_4_64 (xokA_cut2 xpLL_J 1415 T_L_law_4 80 16 xokl_4_80 (xokA_cut2 xpLL_J 1415 T_L_law_4 96 16 xokl_4_96 (xokA_cut2 xpLL_J 1415 T_L_law_4 112 16 xokl_4_112 (xokA_cut2 xpLL_J 1415 T_L_law_4 128 16 xokl_4_128 (xokA_cut2 xpLL_J 1415 T_L_law_4 144 16 xokl_4_144 (show xokA 383 T_L_law (T_L_law_4.drop 160) 1415 = true from (by rw [show T_L_law_4.drop 160 = [] from by decide +kernel]; rfl))))))))))))
theorem xokl_5_0 : xokAJ 383 T_L_law (xpS xpLL) ((T_L_law_5.drop 0).take 16) (xnx (T_L_law_5.drop 16) 1651) = true := by decide +kernel
theorem xokl_5_16 : xokAJ 383 T_L_law (xpS xpLL) ((T_L_law_5.drop 16).take 16) (xnx (T_L_law_5.drop 32) 1651) = true := by decide +kernel
theorem xokl_5_32 : xokAJ 383 T_L_law (xpS xpLL) ((T_L_law_5.drop 32).take 16) (xnx (T_L_law_5.drop 48) 1651) = true := by decide +kernel
theorem xokl_5_48 : xokAJ 383 T_L_law (xpS xpLL) ((T_L_law_5.drop 48).take 16) (xnx (T_L_law_5.drop 64) 1651) = true := by decide +kernel
theorem xokl_5_64 : xokAJ 383 T_L_law (xpS xpLL) ((T_L_law_5.drop 64).take 16) (xnx (T_L_law_5.drop 80) 1651) = true := by decide +kernel
theorem xokl_5_80 : xokAJ 383 T_L_law (xpS xpLL) ((T_L_law_5.drop 80).take 16) (xnx (T_L_law_5.drop 96) 1651) = true := by decide +kernel
theorem xokl_5_96 : xokAJ 383 T_L_law (xpS xpLL) ((T_L_law_5.drop 96).take 16) (xnx (T_L_law_5.drop 112) 1651) = true := by decide +kernel
theorem xokl_5_112 : xokAJ 383 T_L_law (xpS xpLL) ((T_L_law_5.drop 112).take 16) (xnx (T_L_law_5.drop 128) 1651) = true := by decide +kernel
theorem xokl_5_128 : xokAJ 383 T_L_law (xpS xpLL) ((T_L_law_5.drop 128).take 16) (xnx (T_L_law_5.drop 144) 1651) = true := by decide +kernel
theorem xokl_5_144 : xokAJ 383 T_L_law (xpS xpLL) ((T_L_law_5.drop 144).take 16) (xnx (T_L_law_5.drop 160) 1651) = true := by decide +kernel
theorem xokl_5 : xokA 383 T_L_law T_L_law_5 1651 = true := (xokA_cut2 xpLL_J 1651 T_L_law_5 0 16 xokl_5_0 (xokA_cut2 xpLL_J 1651 T_L_law_5 16 16 xokl_5_16 (xokA_cut2 xpLL_J 1651 T_L_law_5 32 16 xokl_5_32 (xokA_cut2 xpLL_J 1651 T_L_law_5 48 16 xokl_5_48 (xokA_cut2 xpLL_J 1651 T_L_law_5 64 16 xokl_5_64 (xokA_cut2 xpLL_J 1651 T_L_law_5 80 16 xokl_5_80 (xokA_cut2 xpLL_J 1651 T_L_law_5 96 16 xokl_5_96 (xokA_cut2 xpLL_J 1651 T_L_law_5 112 16 xokl_5_112 (xokA_cut2 xpLL_J 1651 T_L_law_5 128 16 xokl_5_128 (xokA_cut2 xpLL_J 1651 T_L_law_5 144 16 xokl_5_144 (show xokA 383 T_L_law (T_L_law_5.drop 160) 1651 = true from (by rw [show T_L_law_5.drop 160 = [] from by decide +kernel]; rfl))))))))))))
theorem xokl_6_0 : xokAJ 383 T_L_law (xpS xpLL) ((T_L_law_6.drop 0).take 16) (xnx (T_L_law_6.drop 16) 1885) = true := by decide +kernel
theorem xokl_6_16 : xokAJ 383 T_L_law (xpS xpLL) ((T_L_law_6.drop 16).take 16) (xnx (T_L_law_6.drop 32) 1885) = true := by decide +kernel
theorem xokl_6_32 : xokAJ 383 T_L_law (xpS xpLL) ((T_L_law_6.drop 32).take 16) (xnx (T_L_law_6.drop 48) 1885) = true := by decide +kernel
theorem xokl_6_48 : xokAJ 383 T_L_law (xpS xpLL) ((T_L_law_6.drop 48).take 16) (xnx (T_L_law_6.drop 64) 1885) = true := by decide +kernel
theorem xokl_6_64 : xokAJ 383 T_L_law (xpS xpLL) ((T_L_law_6.drop 64).take 16) (xnx (T_L_law_6.drop 80) 1885) = true := by decide +kernel
theorem xokl_6_80 : xokAJ 383 T_L_law (xpS xpLL) ((T_L_law_6.drop 80).take 16) (xnx (T_L_law_6.drop 96) 1885) = true := by decide +kernel
theorem xokl_6_96 : xokAJ 383 T_L_law (xpS xpLL) ((T_L_law_6.drop 96).take 16) (xnx (T_L_law_6.drop 112) 1885) = true := by decide +kernel
theorem xokl_6_112 : xokAJ 383 T_L_law (xpS xpLL) ((T_L_law_6.drop 112).take 16) (xnx (T_L_law_6.drop 128) 1885) = true := by decide +kernel
theorem xokl_6_128 : xokAJ 383 T_L_law (xpS xpLL) ((T_L_law_6.drop 128).take 16) (xnx (T_L_law_6.drop 144) 1885) = true := by decide +kernel
theorem xokl_6_144 : xokAJ 383 T_L_law (xpS xpLL) ((T_L_law_6.drop 144).take 16) (xnx (T_L_law_6.drop 160) 1885) = true := by decide +kernel
theorem xokl_6 : xokA 383 T_L_law T_L_law_6 1885 = true := (xokA_cut2 xpLL_J 1885 T_L_law_6 0 16 xokl_6_0 (xokA_cut2 xpLL_J 1885 T_L_law_6 16 16 xokl_6_16 (xokA_cut2 xpLL_J 1885 T_L_law_6 32 16 xokl_6_32 (xokA_cut2 xpLL_J 1885 T_L_law_6 48 16 xokl_6_48 (xokA_cut2 xpLL_J 1885 T_L_law_6 64 16 xokl_6_64 (xokA_cut2 xpLL_J 1885 T_L_law_6 80 16 xokl_6_80 (xokA_cut2 xpLL_J 1885 T_L_law_6 96 16 xokl_6_96 (xokA_cut2 xpLL_J 1885 T_L_law_6 112 16 xokl_6_112 (xokA_cut2 xpLL_J 1885 T_L_law_6 128 16 xokl_6_128 (xokA_cut2 xpLL_J 1885 T_L_law_6 144 16 xokl_6_144 (show xokA 383 T_L_law (T_L_law_6.drop 160) 1885 = true from (by rw [show T_L_law_6.drop 160 = [] from by decide +kernel]; rfl))))))))))))
theorem xokl_7_0 : xokAJ 383 T_L_law (xpS xpLL) ((T_L_law_7.drop 0).take 16) (xnx (T_L_law_7.drop 16) 2111) = true := by decide +kernel
theorem xokl_7_16 : xokAJ 383 T_L_law (xpS xpLL) ((T_L_law_7.drop 16).take 16) (xnx (T_L_law_7.drop 32) 2111) = true := by decide +kernel
theorem xokl_7_32 : xokAJ 383 T_L_law (xpS xpLL) ((T_L_law_7.drop 32).take 16) (xnx (T_L_law_7.drop 48) 2111) = true := by decide +kernel
theorem xokl_7_48 : xokAJ 383 T_L_law (xpS xpLL) ((T_L_law_7.drop 48).take 16) (xnx (T_L_law_7.drop 64) 2111) = true := by decide +kernel
theorem xokl_7_64 : xokAJ 383 T_L_law (xpS xpLL) ((T_L_law_7.drop 64).take 16) (xnx (T_L_law_7.drop 80) 2111) = true := by decide +kernel
theorem xokl_7_80 : xokAJ 383 T_L_law (xpS xpLL) ((T_L_law_7.drop 80).take 16) (xnx (T_L_law_7.drop 96) 2111) = true := by decide +kernel
theorem xokl_7_96 : xokAJ 383 T_L_law (xpS xpLL) ((T_L_law_7.drop 96).take 16) (xnx (T_L_law_7.drop 112) 2111) = true := by decide +kernel
theorem xokl_7_112 : xokAJ 383 T_L_law (xpS xpLL) ((T_L_law_7.drop 112).take 16) (xnx (T_L_law_7.drop 128) 2111) = true := by decide +kernel
theorem xokl_7_128 : xokAJ 383 T_L_law (xpS xpLL) ((T_L_law_7.drop 128).take 16) (xnx (T_L_law_7.drop 144) 2111) = true := by decide +kernel
theorem xokl_7_144 : xokAJ 383 T_L_law (xpS xpLL) ((T_L_law_7.drop 144).take 16) (xnx (T_L_law_7.drop 160) 2111) = true := by decide +kernel
theorem xokl_7 : xokA 383 T_L_law T_L_law_7 2111 = true := (xokA_cut2 xpLL_J 2111 T_L_law_7 0 16 xokl_7_0 (xokA_cut2 xpLL_J 2111 T_L_law_7 16 16 xokl_7_16 (xokA_cut2 xpLL_J 2111 T_L_law_7 32 16 xokl_7_32 (xokA_cut2 xpLL_J 2111 T_L_law_7 48 16 xokl_7_48 (xokA_cut2 xpLL_J 2111 T_L_law_7 64 16 xokl_7_64 (xokA_cut2 xpLL_J 2111 T_L_law_7 80 16 xokl_7_80 (xokA_cut2 xpLL_J 2111 T_L_law_7 96 16 xokl_7_96 (xokA_cut2 xpLL_J 2111 T_L_law_7 112 16 xokl_7_112 (xokA_cut2 xpLL_J 2111 T_L_law_7 128 16 xokl_7_128 (xokA_cut2 xpLL_J 2111 T_L_law_7 144 16 xokl_7_144 (show xokA 383 T_L_law (T_L_law_7.drop 160) 2111 = true from (by rw [show T_L_law_7.drop 160 = [] from by decide +kernel]; rfl))))))))))))
theorem xokl_8_0 : xokAJ 383 T_L_law (xpS xpLL) ((T_L_law_8.drop 0).take 16) (xnx (T_L_law_8.drop 16) 2355) = true := by decide +kernel
theorem xokl_8_16 : xokAJ 383 T_L_law (xpS xpLL) ((T_L_law_8.drop 16).take 16) (xnx (T_L_law_8.drop 32) 2355) = true := by decide +kernel
theorem xokl_8_32 : xokAJ 383 T_L_law (xpS xpLL) ((T_L_law_8.drop 32).take 16) (xnx (T_L_law_8.drop 48) 2355) = true := by decide +kernel
theorem xokl_8_48 : xokAJ 383 T_L_law (xpS xpLL) ((T_L_law_8.drop 48).take 16) (xnx (T_L_law_8.drop 64) 2355) = true := by decide +kernel
theorem xokl_8_64 : xokAJ 383 T_L_law (xpS xpLL) ((T_L_law_8.drop 64).take 16) (xnx (T_L_law_8.drop 80) 2355) = true := by decide +kernel
theorem xokl_8_80 : xokAJ 383 T_L_law (xpS xpLL) ((T_L_law_8.drop 80).take 16) (xnx (T_L_law_8.drop 96) 2355) = true := by decide +kernel
theorem xokl_8_96 : xokAJ 383 T_L_law (xpS xpLL) ((T_L_law_8.drop 96).take 16) (xnx (T_L_law_8.drop 112) 2355) = true := by decide +kernel
theorem xokl_8_112 : xokAJ 383 T_L_law (xpS xpLL) ((T_L_law_8.drop 112).take 16) (xnx (T_L_law_8.drop 128) 2355) = true := by decide +kernel
theorem xokl_8_128 : xokAJ 383 T_L_law (xpS xpLL) ((T_L_law_8.drop 128).take 16) (xnx (T_L_law_8.drop 144) 2355) = true := by decide +kernel
theorem xokl_8_144 : xokAJ 383 T_L_law (xpS xpLL) ((T_L_law_8.drop 144).take 16) (xnx (T_L_law_8.drop 160) 2355) = true := by decide +kernel
theorem xokl_8 : xokA 383 T_L_law T_L_law_8 2355 = true := (xokA_cut2 xpLL_J 2355 T_L_law_8 0 16 xokl_8_0 (xokA_cut2 xpLL_J 2355 T_L_law_8 16 16 xokl_8_16 (xokA_cut2 xpLL_J 2355 T_L_law_8 32 16 xokl_8_32 (xokA_cut2 xpLL_J 2355 T_L_law_8 48 16 xokl_8_48 (xokA_cut2 xpLL_J 2355 T_L_law_8 64 16 xokl_8_64 (xokA_cut2 xpLL_J 2355 T_L_law_8 80 16 xokl_8_80 (xokA_cut2 xpLL_J 2355 T_L_law_8 96 16 xokl_8_96 (xokA_cut2 xpLL_J 2355 T_L_law_8 112 16 xokl_8_112 (xokA_cut2 xpLL_J 2355 T_L_law_8 128 16 xokl_8_128 (xokA_cut2 xpLL_J 2355 T_L_law_8 144 16 xokl_8_144 (show xokA 383 T_L_law (T_L_law_8.drop 160) 2355 = true from (by rw [show T_L_law_8.drop 160 = [] from by decide +kernel]; rfl))))))))))))
theorem xokl_9_0 : xokAJ 383 T_L_law (xpS xpLL) ((T_L_law_9.drop 0).take 16) (xnx (T_L_law_9.drop 16) 2584) = true := by decide +kernel
theorem xokl_9_16 : xokAJ 383 T_L_law (xpS xpLL) ((T_L_law_9.drop 16).take 16) (xnx (T_L_law_9.drop 32) 2584) = true := by decide +kernel
theorem xokl_9_32 : xokAJ 383 T_L_law (xpS xpLL) ((T_L_law_9.drop 32).take 16) (xnx (T_L_law_9.drop 48) 2584) = true := by decide +kernel
theorem xokl_9_48 : xokAJ 383 T_L_law (xpS xpLL) ((T_L_law_9.drop 48).take 16) (xnx (T_L_law_9.drop 64) 2584) = true := by decide +kernel
theorem xokl_9_64 : xokAJ 383 T_L_law (xpS xpLL) ((T_L_law_9.drop 64).take 16) (xnx (T_L_law_9.drop 80) 2584) = true := by decide +kernel
theorem xokl_9_80 : xokAJ 383 T_L_law (xpS xpLL) ((T_L_law_9.drop 80).take 16) (xnx (T_L_law_9.drop 96) 2584) = true := by decide +kernel
theorem xokl_9_96 : xokAJ 383 T_L_law (xpS xpLL) ((T_L_law_9.drop 96).take 16) (xnx (T_L_law_9.drop 112) 2584) = true := by decide +kernel
theorem xokl_9_112 : xokAJ 383 T_L_law (xpS xpLL) ((T_L_law_9.drop 112).take 16) (xnx (T_L_law_9.drop 128) 2584) = true := by decide +kernel
theorem xokl_9_128 : xokAJ 383 T_L_law (xpS xpLL) ((T_L_law_9.drop 128).take 16) (xnx (T_L_law_9.drop 144) 2584) = true := by decide +kernel
theorem xokl_9_144 : xokAJ 383 T_L_law (xpS xpLL) ((T_L_law_9.drop 144).take 16) (xnx (T_L_law_9.drop 160) 2584) = true := by decide +kernel
theorem xokl_9 : xokA 383 T_L_law T_L_law_9 2584 = true := (xokA_cut2 xpLL_J 2584 T_L_law_9 0 16 xokl_9_0 (xokA_cut2 xpLL_J 2584 T_L_law_9 16 16 xokl_9_16 (xokA_cut2 xpLL_J 2584 T_L_law_9 32 16 xokl_9_32 (xokA_cut2 xpLL_J 2584 T_L_law_9 48 16 xokl_9_48 (xokA_cut2 xpLL_J 2584 T_L_law_9 64 16 xokl_9_64 (xokA_cut2 xpLL_J 2584 T_L_law_9 80 16 xokl_9_80 (xokA_cut2 xpLL_J 2584 T_L_law_9 96 16 xokl_9_96 (xokA_cut2 xpLL_J 2584 T_L_law_9 112 16 xokl_9_112 (xokA_cut2 xpLL_J 2584 T_L_law_9 128 16 xokl_9_128 (xokA_cut2 xpLL_J 2584 T_L_law_9 144 16 xokl_9_144 (show xokA 383 T_L_law (T_L_law_9.drop 160) 2584 = true from (by rw [show T_L_law_9.drop 160 = [] from by decide +kernel]; rfl))))))))))))
theorem xokl_10_0 : xokAJ 383 T_L_law (xpS xpLL) ((T_L_law_10.drop 0).take 16) (xnx (T_L_law_10.drop 16) 2802) = true := by decide +kernel
theorem xokl_10_16 : xokAJ 383 T_L_law (xpS xpLL) ((T_L_law_10.drop 16).take 16) (xnx (T_L_law_10.drop 32) 2802) = true := by decide +kernel
theorem xokl_10_32 : xokAJ 383 T_L_law (xpS xpLL) ((T_L_law_10.drop 32).take 16) (xnx (T_L_law_10.drop 48) 2802) = true := by decide +kernel
theorem xokl_10_48 : xokAJ 383 T_L_law (xpS xpLL) ((T_L_law_10.drop 48).take 16) (xnx (T_L_law_10.drop 64) 2802) = true := by decide +kernel
theorem xokl_10_64 : xokAJ 383 T_L_law (xpS xpLL) ((T_L_law_10.drop 64).take 16) (xnx (T_L_law_10.drop 80) 2802) = true := by decide +kernel
theorem xokl_10_80 : xokAJ 383 T_L_law (xpS xpLL) ((T_L_law_10.drop 80).take 16) (xnx (T_L_law_10.drop 96) 2802) = true := by decide +kernel
theorem xokl_10_96 : xokAJ 383 T_L_law (xpS xpLL) ((T_L_law_10.drop 96).take 16) (xnx (T_L_law_10.drop 112) 2802) = true := by decide +kernel
theorem xokl_10_112 : xokAJ 383 T_L_law (xpS xpLL) ((T_L_law_10.drop 112).take 16) (xnx (T_L_law_10.drop 128) 2802) = true := by decide +kernel
theorem xokl_10_128 : xokAJ 383 T_L_law (xpS xpLL) ((T_L_law_10.drop 128).take 16) (xnx (T_L_law_10.drop 144) 2802) = true := by decide +kernel
theorem xokl_10_144 : xokAJ 383 T_L_law (xpS xpLL) ((T_L_law_10.drop 144).take 16) (xnx (T_L_law_10.drop 160) 2802) = true := by decide +kernel
theorem xokl_10 : xokA 383 T_L_law T_L_law_10 2802 = true := (xokA_cut2 xpLL_J 2802 T_L_law_10 0 16 xokl_10_0 (xokA_cut2 xpLL_J 2802 T_L_law_10 16 16 xokl_10_16 (xokA_cut2 xpLL_J 2802 T_L_law_10 32 16 xokl_10_32 (xokA_cut2 xpLL_J 2802 T_L_law_10 48 16 xokl_10_48 (xokA_cut2 xpLL_J 2802 T_L_law_10 64 16 xokl_10_64 (xokA_cut2 xpLL_J 2802 T_L_law_10 80 16 xokl_10_80 (xokA_cut2 xpLL_J 2802 T_L_law_10 96 16 xokl_10_96 (xokA_cut2 xpLL_J 2802 T_L_law_10 112 16 xokl_10_112 (xokA_cut2 xpLL_J 2802 T_L_law_10 128 16 xokl_10_128 (xokA_cut2 xpLL_J 2802 T_L_law_10 144 16 xokl_10_144 (show xokA 383 T_L_law (T_L_law_10.drop 160) 2802 = true from (by rw [show T_L_law_10.drop 160 = [] from by decide +kernel]; rfl))))))))))))
theorem xokl_11_0 : xokAJ 383 T_L_law (xpS xpLL) ((T_L_law_11.drop 0).take 16) (xnx (T_L_law_11.drop 16) 3029) = true := by decide +kernel
theorem xokl_11_16 : xokAJ 383 T_L_law (xpS xpLL) ((T_L_law_11.drop 16).take 16) (xnx (T_L_law_11.drop 32) 3029) = true := by decide +kernel
theorem xokl_11_32 : xokAJ 383 T_L_law (xpS xpLL) ((T_L_law_11.drop 32).take 16) (xnx (T_L_law_11.drop 48) 3029) = true := by decide +kernel
theorem xokl_11_48 : xokAJ 383 T_L_law (xpS xpLL) ((T_L_law_11.drop 48).take 16) (xnx (T_L_law_11.drop 64) 3029) = true := by decide +kernel
theorem xokl_11_64 : xokAJ 383 T_L_law (xpS xpLL) ((T_L_law_11.drop 64).take 16) (xnx (T_L_law_11.drop 80) 3029) = true := by decide +kernel
theorem xokl_11_80 : xokAJ 383 T_L_law (xpS xpLL) ((T_L_law_11.drop 80).take 16) (xnx (T_L_law_11.drop 96) 3029) = true := by decide +kernel
theorem xokl_11_96 : xokAJ 383 T_L_law (xpS xpLL) ((T_L_law_11.drop 96).take 16) (xnx (T_L_law_11.drop 112) 3029) = true := by decide +kernel
theorem xokl_11_112 : xokAJ 383 T_L_law (xpS xpLL) ((T_L_law_11.drop 112).take 16) (xnx (T_L_law_11.drop 128) 3029) = true := by decide +kernel
theorem xokl_11_128 : xokAJ 383 T_L_law (xpS xpLL) ((T_L_law_11.drop 128).take 16) (xnx (T_L_law_11.drop 144) 3029) = true := by decide +kernel
theorem xokl_11_144 : xokAJ 383 T_L_law (xpS xpLL) ((T_L_law_11.drop 144).take 16) (xnx (T_L_law_11.drop 160) 3029) = true := by decide +kernel
theorem xokl_11 : xokA 383 T_L_law T_L_law_11 3029 = true := (xokA_cut2 xpLL_J 3029 T_L_law_11 0 16 xokl_11_0 (xokA_cut2 xpLL_J 3029 T_L_law_11 16 16 xokl_11_16 (xokA_cut2 xpLL_J 3029 T_L_law_11 32 16 xokl_11_32 (xokA_cut2 xpLL_J 3029 T_L_law_11 48 16 xokl_11_48 (xokA_cut2 xpLL_J 3029 T_L_law_11 64 16 xokl_11_64 (xokA_cut2 xpLL_J 3029 T_L_law_11 80 16 xokl_11_80 (xokA_cut2 xpLL_J 3029 T_L_law_11 96 16 xokl_11_96 (xokA_cut2 xpLL_J 3029 T_L_law_11 112 16 xokl_11_112 (xokA_cut2 xpLL_J 3029 T_L_law_11 128 16 xokl_11_128 (xokA_cut2 xpLL_J 3029 T_L_law_11 144 16 xokl_11_144 (show xokA 383 T_L_law (T_L_law_11.drop 160) 3029 = true from (by rw [show T_L_law_11.drop 160 = [] from by decide +kernel]; rfl))))))))))))
theorem xokl_12_0 : xokAJ 383 T_L_law (xpS xpLL) ((T_L_law_12.drop 0).take 16) (xnx (T_L_law_12.drop 16) 3267) = true := by decide +kernel
theorem xokl_12_16 : xokAJ 383 T_L_law (xpS xpLL) ((T_L_law_12.drop 16).take 16) (xnx (T_L_law_12.drop 32) 3267) = true := by decide +kernel
theorem xokl_12_32 : xokAJ 383 T_L_law (xpS xpLL) ((T_L_law_12.drop 32).take 16) (xnx (T_L_law_12.drop 48) 3267) = true := by decide +kernel
theorem xokl_12_48 : xokAJ 383 T_L_law (xpS xpLL) ((T_L_law_12.drop 48).take 16) (xnx (T_L_law_12.drop 64) 3267) = true := by decide +kernel
theorem xokl_12_64 : xokAJ 383 T_L_law (xpS xpLL) ((T_L_law_12.drop 64).take 16) (xnx (T_L_law_12.drop 80) 3267) = true := by decide +kernel
theorem xokl_12_80 : xokAJ 383 T_L_law (xpS xpLL) ((T_L_law_12.drop 80).take 16) (xnx (T_L_law_12.drop 96) 3267) = true := by decide +kernel
theorem xokl_12_96 : xokAJ 383 T_L_law (xpS xpLL) ((T_L_law_12.drop 96).take 16) (xnx (T_L_law_12.drop 112) 3267) = true := by decide +kernel
theorem xokl_12_112 : xokAJ 383 T_L_law (xpS xpLL) ((T_L_law_12.drop 112).take 16) (xnx (T_L_law_12.drop 128) 3267) = true := by decide +kernel
theorem xokl_12_128 : xokAJ 383 T_L_law (xpS xpLL) ((T_L_law_12.drop 128).take 16) (xnx (T_L_law_12.drop 144) 3267) = true := by decide +kernel
theorem xokl_12_144 : xokAJ 383 T_L_law (xpS xpLL) ((T_L_law_12.drop 144).take 16) (xnx (T_L_law_12.drop 160) 3267) = true := by decide +kernel
theorem xokl_12 : xokA 383 T_L_law T_L_law_12 3267 = true := (xokA_cut2 xpLL_J 3267 T_L_law_12 0 16 xokl_12_0 (xokA_cut2 xpLL_J 3267 T_L_law_12 16 16 xokl_12_16 (xokA_cut2 xpLL_J 3267 T_L_law_12 32 16 xokl_12_32 (xokA_cut2 xpLL_J 3267 T_L_law_12 48 16 xokl_12_48 (xokA_cut2 xpLL_J 3267 T_L_law_12 64 16 xokl_12_64 (xokA_cut2 xpLL_J 3267 T_L_law_12 80 16 xokl_12_80 (xokA_cut2 xpLL_J 3267 T_L_law_12 96 16 xokl_12_96 (xokA_cut2 xpLL_J 3267 T_L_law_12 112 16 xokl_12_112 (xokA_cut2 xpLL_J 3267 T_L_law_12 128 16 xokl_12_128 (xokA_cut2 xpLL_J 3267 T_L_law_12 144 16 xokl_12_144 (show xokA 383 T_L_law (T_L_law_12.drop 160) 3267 = true from (by rw [show T_L_law_12.drop 160 = [] from by decide +kernel]; rfl))))))))))))
theorem xokl_13_0 : xokAJ 383 T_L_law (xpS xpLL) ((T_L_law_13.drop 0).take 16) (xnx (T_L_law_13.drop 16) 0) = true := by decide +kernel
theorem xokl_13_16 : xokAJ 383 T_L_law (xpS xpLL) ((T_L_law_13.drop 16).take 16) (xnx (T_L_law_13.drop 32) 0) = true := by decide +kernel
theorem xokl_13_32 : xokAJ 383 T_L_law (xpS xpLL) ((T_L_law_13.drop 32).take 16) (xnx (T_L_law_13.drop 48) 0) = true := by decide +kernel
theorem xokl_13_48 : xokAJ 383 T_L_law (xpS xpLL) ((T_L_law_13.drop 48).take 16) (xnx (T_L_law_13.drop 64) 0) = true := by decide +kernel
theorem xokl_13_64 : xokAJ 383 T_L_law (xpS xpLL) ((T_L_law_13.drop 64).take 16) (xnx (T_L_law_13.drop 80) 0) = true := by decide +kernel
theorem xokl_13 : xokA 383 T_L_law T_L_law_13 0 = true := (xokA_cut2 xpLL_J 0 T_L_law_13 0 16 xokl_13_0 (xokA_cut2 xpLL_J 0 T_L_law_13 16 16 xokl_13_16 (xokA_cut2 xpLL_J 0 T_L_law_13 32 16 xokl_13_32 (xokA_cut2 xpLL_J 0 T_L_law_13 48 16 xokl_13_48 (xokA_cut2 xpLL_J 0 T_L_law_13 64 16 xokl_13_64 (show xokA 383 T_L_law (T_L_law_13.drop 80) 0 = true from (by rw [show T_L_law_13.drop 80 = [] from by decide +kernel]; rfl)))))))
theorem xok_law : xokT 383 T_L_law T_L_law = true := by
  have h : ∀ C : List xE, C = T_L_law → xokT 383 C T_L_law = true := fun C hC => by
    unfold T_L_law
    refine xokA_app _ _ (by unfold T_L_law_0; exact fun h => nomatch h) (by rw [hC]; exact xokl_0) ?_
    refine xokA_app _ _ (by unfold T_L_law_1; exact fun h => nomatch h) (by rw [hC]; exact xokl_1) ?_
    refine xokA_app _ _ (by unfold T_L_law_2; exact fun h => nomatch h) (by rw [hC]; exact xokl_2) ?_
    refine xokA_app _ _ (by unfold T_L_law_3; exact fun h => nomatch h) (by rw [hC]; exact xokl_3) ?_
    refine xokA_app _ _ (by unfold T_L_law_4; exact fun h => nomatch h) (by rw [hC]; exact xokl_4) ?_
    refine xokA_app _ _ (by unfold T_L_law_5; exact fun h => nomatch h) (by rw [hC]; exact xokl_5) ?_
    refine xokA_app _ _ (by unfold T_L_law_6; exact fun h => nomatch h) (by rw [hC]; exact xokl_6) ?_
    refine xokA_app _ _ (by unfold T_L_law_7; exact fun h => nomatch h) (by rw [hC]; exact xokl_7) ?_
    refine xokA_app _ _ (by unfold T_L_law_8; exact fun h => nomatch h) (by rw [hC]; exact xokl_8) ?_
    refine xokA_app _ _ (by unfold T_L_law_9; exact fun h => nomatch h) (by rw [hC]; exact xokl_9) ?_
    refine xokA_app _ _ (by unfold T_L_law_10; exact fun h => nomatch h) (by rw [hC]; exact xokl_10) ?_
    refine xokA_app _ _ (by unfold T_L_law_11; exact fun h => nomatch h) (by rw [hC]; exact xokl_11) ?_
    refine xokA_app _ _ (by unfold T_L_law_12; exact fun h => nomatch h) (by rw [hC]; exact xokl_12) ?_
    rw [← List.append_nil T_L_law_13]
    exact xokA_app _ [] (by unfold T_L_law_13; exact fun h => nomatch h) (by rw [hC]; exact xokl_13) rfl
  exact h _ rfl
theorem xok_tab {y : Nat} (hy : y < 384) : xokT y (xtab y) (xtab y) = true := by
  by_cases h : y < 383
  · exact xok_low h
  · obtain rfl : y = 383 := by omega
    exact xok_law
theorem xokT_at {y : Nat} {C : List xE} : ∀ {cs0 : List xE} (j : Nat) {q : xE} {cs : List xE}, xokT y C cs0 = true → cs0.drop j = q :: cs → xok y C q (xpc cs) = true ∧ xokC y C q.1 q.2.1 q.2.2.1 = true
  | [], j, q, cs, _, hd => by simp at hd
  | q0 :: r, 0, q, cs, h, hd => by
    simp only [List.drop_zero, List.cons.injEq] at hd
    obtain ⟨rfl, rfl⟩ := hd
    have h1 : ((xok y C q0 (xpc r) && xokC y C q0.1 q0.2.1 q0.2.2.1) && xokT y C r) = true := h
    rw [Bool.and_eq_true, Bool.and_eq_true] at h1
    exact h1.1
  | q0 :: r, j + 1, q, cs, h, hd => by
    have h1 : ((xok y C q0 (xpc r) && xokC y C q0.1 q0.2.1 q0.2.2.1) && xokT y C r) = true := h
    rw [Bool.and_eq_true] at h1
    exact xokT_at j h1.2 (by simpa using hd)
