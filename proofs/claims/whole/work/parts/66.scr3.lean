/-! scripts: the arguments of each kind of command -/
theorem i1_0 : ¬ ((1 : Int32) < 1) := by decide
theorem i0_1 : (0 : Int32) < 1 := by decide
theorem i1_2 : (1 : Int32) < 2 := by decide
theorem i0_0 : ¬ ((0 : Int32) < 0) := by decide
theorem i1_00 : ¬ ((1 : Int32) < 0) := by decide
theorem i0_2 : (0 : Int32) < 2 := by decide
theorem args_0 {M0 M0' M M' : xM} {B : Nat → Int} {n pos : Nat} {b : Nat → Int} {i κ : Nat} (hκ : κ = 0 ∨ κ = 2) (h : AS M0 M0' M M' B n pos b i κ False False False False) (hi : i < 30) : PS M M' (clsA i M) (m_M_parseArguments 0 (zi κ) (zi (6 * i : Nat)) M') (fun M1 M1' => ∃ pos', AS M0 M0' M1 M1' B n pos' b i κ (pt1 κ) (pt2 κ) (pt3 κ) (pt4 κ)) := by
  have hk0 := h.2.1.1.1
  have t2 : ∀ {A : xM}, KC A → gi A 43 κ 2 = 1 := fun hA => by
    rcases hκ with rfl | rfl <;> exact (KC_t hA (by decide)).1
  have t3 : ∀ {A : xM}, KC A → gi A 43 κ 3 = 0 := fun hA => by
    rcases hκ with rfl | rfl <;> exact (KC_t hA (by decide)).2.1
  have t4 : ∀ {A : xM}, KC A → gi A 43 κ 4 = 1 := fun hA => by
    rcases hκ with rfl | rfl <;> exact (KC_t hA (by decide)).2.2
  have ref : m_M_parseArguments 0 (zi κ) (zi (6 * i : Nat)) M' = xbI (m_M_parseName 0 (zi (6 * i + 1 : Nat)) 1 M') (fun r28 M27 => if r28 = 0 then rI (xnar 1 0) M27 else xbI (m_M_parseNumber 0 (zi (6 * i + 5 : Nat)) M27) (fun r30 M29 => if r30 = 0 then rI (xnar 1 0) M29 else rI (xnar 1 1) M29)) := by
    rw [e_m_M_parseArguments, zi_01, zi_05, zi_03, zi_add, zi_add, zi_add, ← zi_01]
    rcases hκ with rfl | rfl
    · rw [if_pos (by decide)]; rfl
    · rw [if_neg (by decide), if_neg (by decide), if_pos (by decide)]; rfl
  rw [ref]
  unfold clsA
  rw [e_m_R_readNames, hk0, t2 h.1.1.2.2, if_pos i0_1]
  simp only [xbI_assoc]
  refine as_task h hi false (fun q => nomatch q) (fun M1 => by rw [ite_bf, xbI_r, xnar_0, ite_bf]) (fun M1 => rfl) (fun M1 => by rw [ite_bf, xnar_0]) (fun M1 => rfl) (fun A A' hKA hgA hA => ?_)
  rw [ite_bt, gn_s (by decide), hgA, t2 hKA, if_neg i1_0, t3 hKA, if_neg i0_0, xbI_r, xnar_1, ite_bt, ite_bt, e_m_R_readNumber, gn_s (by decide), hgA, gi_k (by decide), t4 hKA, ite_z1]
  refine PS_1 (PS_w (as_num hA hi) (fun N N' ⟨pos', hN⟩ => ⟨pos', AS_weak hN (fun _ => Or.inr rfl) (fun q => ?_) (fun q => ?_) (fun _ => trivial)⟩)) (fun M1 => by rw [ite_bf, xnar_0]) (fun M1 => by rw [ite_bt])
  · exfalso; unfold pt2 at q; omega
  · exfalso; unfold pt3 at q; omega
theorem args_1 {M0 M0' M M' : xM} {B : Nat → Int} {n pos : Nat} {b : Nat → Int} {i κ : Nat} (hκ : κ = 1) (h : AS M0 M0' M M' B n pos b i κ False False False False) (hi : i < 30) : PS M M' (clsA i M) (m_M_parseArguments 0 (zi κ) (zi (6 * i : Nat)) M') (fun M1 M1' => ∃ pos', AS M0 M0' M1 M1' B n pos' b i κ (pt1 κ) (pt2 κ) (pt3 κ) (pt4 κ)) := by
  have hk0 := h.2.1.1.1
  have t2 : ∀ {A : xM}, KC A → gi A 43 κ 2 = 1 := fun hA => by
    subst hκ; exact (KC_t hA (by decide)).1
  have t3 : ∀ {A : xM}, KC A → gi A 43 κ 3 = 1 := fun hA => by
    subst hκ; exact (KC_t hA (by decide)).2.1
  have t4 : ∀ {A : xM}, KC A → gi A 43 κ 4 = 1 := fun hA => by
    subst hκ; exact (KC_t hA (by decide)).2.2
  have ref : m_M_parseArguments 0 (zi κ) (zi (6 * i : Nat)) M' = xbI (m_M_parseName 0 (zi (6 * i + 1 : Nat)) 1 M') (fun r22 M21 => if r22 = 0 then rI (xnar 1 0) M21 else xbI (m_M_parseName 0 (zi (6 * i + 3 : Nat)) 0 M21) (fun r24 M23 => if r24 = 0 then rI (xnar 1 0) M23 else xbI (m_M_parseNumber 0 (zi (6 * i + 5 : Nat)) M23) (fun r30 M29 => if r30 = 0 then rI (xnar 1 0) M29 else rI (xnar 1 1) M29))) := by
    rw [e_m_M_parseArguments, zi_01, zi_05, zi_03, zi_add, zi_add, zi_add, ← zi_01]
    subst hκ
    rw [if_neg (by decide), if_pos (by decide)]; rfl
  rw [ref]
  unfold clsA
  rw [e_m_R_readNames, hk0, t2 h.1.1.2.2, if_pos i0_1]
  simp only [xbI_assoc]
  refine as_task h hi false (fun q => nomatch q) (fun M1 => by rw [ite_bf, xbI_r, xnar_0, ite_bf]) (fun M1 => rfl) (fun M1 => by rw [ite_bf, xnar_0]) (fun M1 => rfl) (fun A A' hKA hgA hA => ?_)
  rw [ite_bt, gn_s (by decide), hgA, t2 hKA, if_neg i1_0, t3 hKA, if_pos i0_1, ite_bt]
  simp only [xbI_assoc]
  refine as_res hA hi (fun q => by rcases q with q | q <;> cases q) (fun M1 => by rw [ite_bf, xbI_r, xnar_0, ite_bf]) (fun M1 => rfl) (fun M1 => by rw [ite_bf, xnar_0]) (fun M1 => rfl) (fun C C' hKC hgC hC => ?_)
  rw [ite_bt, xbI_r, xnar_1, ite_bt, ite_bt, e_m_R_readNumber, gn_s (by decide), hgC, gi_k (by decide), t4 hKC, ite_z1]
  refine PS_1 (PS_w (as_num hC hi) (fun N N' ⟨pos', hN⟩ => ⟨pos', AS_weak hN (fun _ => Or.inr rfl) (fun q => ?_) (fun q => trivial) (fun _ => trivial)⟩)) (fun M1 => by rw [ite_bf, xnar_0]) (fun M1 => by rw [ite_bt])
  exfalso; unfold pt2 at q; omega
theorem args_3 {M0 M0' M M' : xM} {B : Nat → Int} {n pos : Nat} {b : Nat → Int} {i κ : Nat} (hκ : κ = 3 ∨ κ = 4) (h : AS M0 M0' M M' B n pos b i κ False False False False) (hi : i < 30) : PS M M' (clsA i M) (m_M_parseArguments 0 (zi κ) (zi (6 * i : Nat)) M') (fun M1 M1' => ∃ pos', AS M0 M0' M1 M1' B n pos' b i κ (pt1 κ) (pt2 κ) (pt3 κ) (pt4 κ)) := by
  have hk0 := h.2.1.1.1
  have t2 : ∀ {A : xM}, KC A → gi A 43 κ 2 = 2 := fun hA => by
    rcases hκ with rfl | rfl <;> exact (KC_t hA (by decide)).1
  have t3 : ∀ {A : xM}, KC A → gi A 43 κ 3 = 0 := fun hA => by
    rcases hκ with rfl | rfl <;> exact (KC_t hA (by decide)).2.1
  have t4 : ∀ {A : xM}, KC A → gi A 43 κ 4 = 0 := fun hA => by
    rcases hκ with rfl | rfl <;> exact (KC_t hA (by decide)).2.2
  have ref : m_M_parseArguments 0 (zi κ) (zi (6 * i : Nat)) M' = xbI (m_M_parseName 0 (zi (6 * i + 1 : Nat)) 1 M') (fun r14 M13 => if r14 = 0 then rI (xnar 1 0) M13 else xbI (m_M_parseName 0 (zi (6 * i + 3 : Nat)) 1 M13) (fun r16 M15 => if r16 = 0 then rI (xnar 1 0) M15 else rI (xnar 1 1) M15)) := by
    rw [e_m_M_parseArguments, zi_01, zi_05, zi_03, zi_add, zi_add, zi_add, ← zi_01]
    rcases hκ with rfl | rfl
    · rw [if_neg (by decide), if_neg (by decide), if_neg (by decide), if_pos (by decide)]; rfl
    · rw [if_neg (by decide), if_neg (by decide), if_neg (by decide), if_neg (by decide), if_pos (by decide)]; rfl
  rw [ref]
  unfold clsA
  rw [e_m_R_readNames, hk0, t2 h.1.1.2.2, if_pos i0_2]
  simp only [xbI_assoc]
  refine as_task h hi false (fun q => nomatch q) (fun M1 => by rw [ite_bf, xbI_r, xnar_0, ite_bf]) (fun M1 => rfl) (fun M1 => by rw [ite_bf, xnar_0]) (fun M1 => rfl) (fun A A' hKA hgA hA => ?_)
  rw [ite_bt, gn_s (by decide), hgA, t2 hKA, if_pos i1_2, ite_bt]
  simp only [xbI_assoc]
  refine as_task hA hi true (fun _ q => q) (fun M1 => by rw [ite_bf, xbI_r, xnar_0, ite_bf]) (fun M1 => rfl) (fun M1 => by rw [ite_bf, xnar_0]) (fun M1 => rfl) (fun C C' hKC hgC hC => ?_)
  rw [ite_bt, gn_s (by decide), hgC, t3 hKC, if_neg i0_0, xbI_r, xnar_1, ite_bt, ite_bt, e_m_R_readNumber, gn_s (by decide), hgC, gi_k (by decide), t4 hKC, if_pos rfl, xnar_1]
  refine PS_yes (fz_refl _) (fz_refl _) (fun z => z) ⟨_, AS_weak hC (fun _ => Or.inl (Or.inr rfl)) (fun _ => Or.inr rfl) (fun q => ?_) (fun q => ?_)⟩
  · exfalso; unfold pt3 at q; omega
  · exfalso; unfold pt4 at q; omega
theorem args_5 {M0 M0' M M' : xM} {B : Nat → Int} {n pos : Nat} {b : Nat → Int} {i κ : Nat} (hκ : κ = 5) (h : AS M0 M0' M M' B n pos b i κ False False False False) (hi : i < 30) : PS M M' (clsA i M) (m_M_parseArguments 0 (zi κ) (zi (6 * i : Nat)) M') (fun M1 M1' => ∃ pos', AS M0 M0' M1 M1' B n pos' b i κ (pt1 κ) (pt2 κ) (pt3 κ) (pt4 κ)) := by
  have hk0 := h.2.1.1.1
  have t2 : ∀ {A : xM}, KC A → gi A 43 κ 2 = 0 := fun hA => by
    subst hκ; exact (KC_t hA (by decide)).1
  have t3 : ∀ {A : xM}, KC A → gi A 43 κ 3 = 1 := fun hA => by
    subst hκ; exact (KC_t hA (by decide)).2.1
  have t4 : ∀ {A : xM}, KC A → gi A 43 κ 4 = 1 := fun hA => by
    subst hκ; exact (KC_t hA (by decide)).2.2
  have ref : m_M_parseArguments 0 (zi κ) (zi (6 * i : Nat)) M' = xbI (m_M_parseName 0 (zi (6 * i + 3 : Nat)) 0 M') (fun r6 M5 => if r6 = 0 then rI (xnar 1 0) M5 else xbI (m_M_parseNumber 0 (zi (6 * i + 5 : Nat)) M5) (fun r8 M7 => if r8 = 0 then rI (xnar 1 0) M7 else rI (xnar 1 1) M7)) := by
    rw [e_m_M_parseArguments, zi_01, zi_05, zi_03, zi_add, zi_add, zi_add, ← zi_01]
    subst hκ
    rw [if_neg (by decide), if_neg (by decide), if_neg (by decide), if_neg (by decide), if_neg (by decide), if_pos (by decide)]; rfl
  rw [ref]
  unfold clsA
  rw [e_m_R_readNames, hk0, t2 h.1.1.2.2, if_neg i0_0, if_neg i1_00, t3 h.1.1.2.2, if_pos i0_1]
  simp only [xbI_assoc]
  refine as_res h hi (fun q => q) (fun M1 => by rw [ite_bf, xbI_r, xnar_0, ite_bf]) (fun M1 => rfl) (fun M1 => by rw [ite_bf, xnar_0]) (fun M1 => rfl) (fun C C' hKC hgC hC => ?_)
  rw [ite_bt, xbI_r, xnar_1, ite_bt, ite_bt, e_m_R_readNumber, gn_s (by decide), hgC, gi_k (by decide), t4 hKC, ite_z1]
  refine PS_1 (PS_w (as_num hC hi) (fun N N' ⟨pos', hN⟩ => ⟨pos', AS_weak hN (fun q => ?_) (fun q => ?_) (fun q => trivial) (fun _ => trivial)⟩)) (fun M1 => by rw [ite_bf, xnar_0]) (fun M1 => by rw [ite_bt])
  · exfalso; unfold pt1 at q; omega
  · exfalso; unfold pt2 at q; omega
theorem args_6 {M0 M0' M M' : xM} {B : Nat → Int} {n pos : Nat} {b : Nat → Int} {i κ : Nat} (hκ : κ = 6) (h : AS M0 M0' M M' B n pos b i κ False False False False) (hi : i < 30) : PS M M' (clsA i M) (m_M_parseArguments 0 (zi κ) (zi (6 * i : Nat)) M') (fun M1 M1' => ∃ pos', AS M0 M0' M1 M1' B n pos' b i κ (pt1 κ) (pt2 κ) (pt3 κ) (pt4 κ)) := by
  have hk0 := h.2.1.1.1
  have t2 : ∀ {A : xM}, KC A → gi A 43 κ 2 = 0 := fun hA => by
    subst hκ; exact (KC_t hA (by decide)).1
  have t3 : ∀ {A : xM}, KC A → gi A 43 κ 3 = 0 := fun hA => by
    subst hκ; exact (KC_t hA (by decide)).2.1
  have t4 : ∀ {A : xM}, KC A → gi A 43 κ 4 = 1 := fun hA => by
    subst hκ; exact (KC_t hA (by decide)).2.2
  have ref : m_M_parseArguments 0 (zi κ) (zi (6 * i : Nat)) M' = xbI (m_M_parseNumber 0 (zi (6 * i + 5 : Nat)) M') (fun r4 M3 => rI (xnar 1 r4) M3) := by
    rw [e_m_M_parseArguments, zi_01, zi_05, zi_03, zi_add, zi_add, zi_add, ← zi_01]
    subst hκ
    rw [if_neg (by decide), if_neg (by decide), if_neg (by decide), if_neg (by decide), if_neg (by decide), if_neg (by decide), if_pos (by decide)]; rfl
  rw [ref]
  unfold clsA
  rw [e_m_R_readNames, hk0, t2 h.1.1.2.2, if_neg i0_0, if_neg i1_00, t3 h.1.1.2.2, if_neg i0_0, xbI_r, xnar_1, ite_bt, e_m_R_readNumber, hk0, t4 h.1.1.2.2, ite_z1]
  refine PS_1 (PS_w (as_num h hi) (fun N N' ⟨pos', hN⟩ => ⟨pos', AS_weak hN (fun q => ?_) (fun q => ?_) (fun q => ?_) (fun _ => trivial)⟩)) (fun M1 => by rw [xnar_b]) (fun M1 => by rw [xnar_b])
  · exfalso; unfold pt1 at q; omega
  · exfalso; unfold pt2 at q; omega
  · exfalso; unfold pt3 at q; omega
theorem args_7 {M0 M0' M M' : xM} {B : Nat → Int} {n pos : Nat} {b : Nat → Int} {i κ : Nat} (hκ : κ = 7) (h : AS M0 M0' M M' B n pos b i κ False False False False) (hi : i < 30) : PS M M' (clsA i M) (m_M_parseArguments 0 (zi κ) (zi (6 * i : Nat)) M') (fun M1 M1' => ∃ pos', AS M0 M0' M1 M1' B n pos' b i κ (pt1 κ) (pt2 κ) (pt3 κ) (pt4 κ)) := by
  have hk0 := h.2.1.1.1
  have t2 : ∀ {A : xM}, KC A → gi A 43 κ 2 = 1 := fun hA => by
    subst hκ; exact (KC_t hA (by decide)).1
  have t3 : ∀ {A : xM}, KC A → gi A 43 κ 3 = 0 := fun hA => by
    subst hκ; exact (KC_t hA (by decide)).2.1
  have t4 : ∀ {A : xM}, KC A → gi A 43 κ 4 = 0 := fun hA => by
    subst hκ; exact (KC_t hA (by decide)).2.2
  have ref : m_M_parseArguments 0 (zi κ) (zi (6 * i : Nat)) M' = xbI (m_M_parseName 0 (zi (6 * i + 1 : Nat)) 1 M') (fun r2 M1 => rI (xnar 1 r2) M1) := by
    rw [e_m_M_parseArguments, zi_01, zi_05, zi_03, zi_add, zi_add, zi_add, ← zi_01]
    subst hκ
    rw [if_neg (by decide), if_neg (by decide), if_neg (by decide), if_neg (by decide), if_neg (by decide), if_neg (by decide), if_neg (by decide)]; rfl
  rw [ref]
  unfold clsA
  rw [e_m_R_readNames, hk0, t2 h.1.1.2.2, if_pos i0_1]
  simp only [xbI_assoc]
  refine as_task h hi false (fun q => nomatch q) (fun M1 => by rw [ite_bf, xbI_r, xnar_0, ite_bf]) (fun M1 => rfl) (fun M1 => by rw [xnar_b]) (fun M1 => rfl) (fun A A' hKA hgA hA => ?_)
  rw [ite_bt, gn_s (by decide), hgA, t2 hKA, if_neg i1_0, t3 hKA, if_neg i0_0, xbI_r, xnar_1, ite_bt, xnar_b, e_m_R_readNumber, gn_s (by decide), hgA, gi_k (by decide), t4 hKA, if_pos rfl, xnar_1]
  refine PS_yes (fz_refl _) (fz_refl _) (fun z => z) ⟨_, AS_weak hA (fun _ => Or.inr rfl) (fun q => ?_) (fun q => ?_) (fun q => ?_)⟩
  · exfalso; unfold pt2 at q; omega
  · exfalso; unfold pt3 at q; omega
  · exfalso; unfold pt4 at q; omega
theorem both_args {M0 M0' M M' : xM} {B : Nat → Int} {n pos : Nat} {b : Nat → Int} {i κ : Nat} (hκ : κ < 8) (h : AS M0 M0' M M' B n pos b i κ False False False False) (hi : i < 30) : PS M M' (clsA i M) (m_M_parseArguments 0 (zi κ) (zi (6 * i : Nat)) M') (fun M1 M1' => ∃ pos', AS M0 M0' M1 M1' B n pos' b i κ (pt1 κ) (pt2 κ) (pt3 κ) (pt4 κ)) := by
  have : (κ = 0 ∨ κ = 2) ∨ κ = 1 ∨ (κ = 3 ∨ κ = 4) ∨ κ = 5 ∨ κ = 6 ∨ κ = 7 := by omega
  rcases this with q | q | q | q | q | q
  · exact args_0 q h hi
  · exact args_1 q h hi
  · exact args_3 q h hi
  · exact args_5 q h hi
  · exact args_6 q h hi
  · exact args_7 q h hi
