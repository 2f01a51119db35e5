/-! the law's text: bytes in a list -/
def ofL (l : List Int) : Wx := (l.length, fun i => zi (l.getD i 0))
def sL (o : Nat) : List Int := (List.range (cN o)).map (cB o)
theorem sL_len (o : Nat) : (sL o).length = cN o := by unfold sL; rw [List.length_map, List.length_range]
theorem gD_l {l m : List Int} {i : Nat} (h : i < l.length) : (l ++ m).getD i 0 = l.getD i 0 := by
  rw [List.getD_eq_getElem?_getD, List.getD_eq_getElem?_getD, List.getElem?_append_left h]
theorem gD_r {l m : List Int} {i : Nat} (h : l.length ≤ i) : (l ++ m).getD i 0 = m.getD (i - l.length) 0 := by
  rw [List.getD_eq_getElem?_getD, List.getD_eq_getElem?_getD, List.getElem?_append_right h]
theorem gD_o {l : List Int} {i : Nat} (h : l.length ≤ i) : l.getD i 0 = 0 := by
  rw [List.getD_eq_getElem?_getD, List.getElem?_eq_none h]
  rfl
theorem sL_at {o i : Nat} (h : i < cN o) : (sL o).getD i 0 = cB o i := by
  unfold sL
  rw [List.getD_eq_getElem?_getD, List.getElem?_map, List.getElem?_range h]
  rfl
theorem ofL_c (l : List Int) (c : Int) : wxp (ofL l) (zi c) = ofL (l ++ [c]) := by
  unfold wxp ofL
  refine Prod.ext ?_ ?_
  · show l.length + 1 = _
    rw [List.length_append]; rfl
  · funext i
    show (if i = l.length then zi c else zi (l.getD i 0)) = zi ((l ++ [c]).getD i 0)
    by_cases e : i = l.length
    · rw [if_pos e, gD_r (by omega), e, Nat.sub_self]; rfl
    · rw [if_neg e]
      by_cases q : i < l.length
      · rw [gD_l q]
      · rw [gD_o (by omega), gD_o (by rw [List.length_append]; show l.length + 1 ≤ i; omega)]
theorem ofL_s (l : List Int) (o : Nat) : wxs (ofL l) o = ofL (l ++ sL o) := by
  unfold wxs ofL
  refine Prod.ext ?_ ?_
  · show l.length + cN o = _
    rw [List.length_append, sL_len]
  · funext i
    show (if l.length ≤ i ∧ i < l.length + cN o then zi (cB o (i - l.length)) else zi (l.getD i 0)) = zi ((l ++ sL o).getD i 0)
    by_cases q : i < l.length
    · rw [if_neg (by omega), gD_l q]
    · by_cases r : i < l.length + cN o
      · rw [if_pos ⟨by omega, r⟩, gD_r (by omega), sL_at (by omega)]
      · rw [if_neg (by omega), gD_o (by omega), gD_o (by rw [List.length_append, sL_len]; omega)]
theorem S_ch {M0 M : xM} {sb c : Nat} {l : List Int} (h : CWX M0 M sb (ofL l)) (hc : c < 128) (hl : l.length + 1 ≤ 420) : ∃ M1, m_JB_append_3 sb (zi (c : Nat)) M = some (.inl (some (50, .ref sb)), M1) ∧ CWX M0 M1 sb (ofL (l ++ [(c : Int)])) := by
  obtain ⟨M1, e, h1⟩ := S_app h hc hl
  rw [ofL_c] at h1
  exact ⟨M1, e, h1⟩
theorem S_dg {M0 M : xM} {sb x : Nat} {l : List Int} (hK : KC M0) (h : CWX M0 M sb (ofL l)) (hx : x < 10) (hl : l.length + 3 ≤ 420) : ∃ M1, m_JB_append_2 sb (zi (x : Nat)) M = some (.inl (some (50, .ref sb)), M1) ∧ CWX M0 M1 sb (ofL (l ++ [((48 + x : Nat) : Int)])) := by
  obtain ⟨M1, e, h1⟩ := S_appN hK h (x := x) (by omega) hl
  unfold wxd at h1
  rw [if_pos hx, Nat.mod_eq_of_lt hx, ofL_c] at h1
  exact ⟨M1, e, h1⟩
theorem S_st {M0 M : xM} {sb o : Nat} {l : List Int} (hK : KC M0) (h : CWX M0 M sb (ofL l)) (ho : o < 13) (h12 : cN o ≤ 12) (hl : l.length + cN o ≤ 420) : ∃ M1, m_JB_append_0 sb o M = some (.inl (some (50, .ref sb)), M1) ∧ CWX M0 M1 sb (ofL (l ++ sL o)) := by
  obtain ⟨M1, e, h1⟩ := s_appS hK h ho h12 hl
  rw [ofL_s] at h1
  exact ⟨M1, e, h1⟩
theorem S_init {M : xM} (hK : KC M) : ∃ M1, m_JB_init (gn M 101 50 0) 8 (xnew M 50 4) = rV M1 ∧ CWX M M1 (gn M 101 50 0) (ofL (sL 8)) := by
  have c8 : cN 8 = 8 := by decide +kernel
  generalize hs : gn M 101 50 0 = sb
  have fA : fz onWx M (xnew M 50 4) := fun k o s q => by
    have := onWx_f q
    exact xnew_ne (by omega) (by omega) (by omega) (by omega)
  have z2 : gi (xnew M 50 4) 50 sb 2 = 0 := by rw [← hs]; exact (xnew_def (M := M) (k := 50) (n := 4) (f := 2) (by decide)).1
  have rm := xnew_RM (M := M) (k := 50) (n := 4) (by decide) (by decide)
  generalize hA : xnew M 50 4 = A at fA z2 rm
  have KA := KC_Wx hK fA
  have len : m_JS_length 8 A = rI (zi ((8 : Nat) : Int)) A := by
    have := s_strlen KA (o := 8) (by decide)
    rw [c8] at this
    exact this
  have cd : ∀ N : xM, gi N 46 8 1 = 0 → m_JS_coder 8 N = rI 0 N := fun N q => by rw [e_m_JS_coder, if_neg (by decide), q]; rfl
  have fB : fz onWx M (xst A 50 sb 1 (.int 0)) := fz_step fA rfl
  have a49 : gn (xst A 50 sb 1 (.int 0)) 101 49 0 = gn A 101 49 0 := gn_k (by decide)
  have w : CWX M (xst (xst (xnewD (xst A 50 sb 1 (.int 0)) 49 24) 50 sb 0 (.ref (gn A 101 49 0))) 250 sb 0 (.ref 1)) sb (ofL []) := by
    have rm2 := xnewD_RM (M := xst A 50 sb 1 (.int 0)) (k := 49) (n := 24) (by decide) (by decide)
    have b100 : ∀ s, gn (xst A 50 sb 1 (.int 0)) 100 0 s = gn A 100 0 s := fun s => gn_k (by decide)
    have n50 : ∀ o s, gi (xnewD (xst A 50 sb 1 (.int 0)) 49 24) 50 o s = gi (xst A 50 sb 1 (.int 0)) 50 o s := fun o s => by
      unfold gi
      rw [xnewD_v (by decide) (by omega) (by omega) (by omega)]
    refine ⟨gn A 101 49 0, 24, ⟨gn_h _ _ _ _ _, ?_, ?_, ?_, ?_, ?_⟩, ⟨by show 0 ≤ 24; omega, by decide, by show 24 ≤ 2 * 0 + 40; omega⟩, fun i hi => absurd hi (Nat.not_lt_zero i), ⟨?_, ?_⟩, fz_step (fz_step (fz_trans fB (Wx_new _ _)) rfl) rfl⟩
    · rw [gi_k (by decide), gi_s (by decide), n50, gi_h]
    · rw [gi_k (by decide), gi_s (by decide), n50, gi_s (by decide), z2]; rfl
    · rw [gn_k (by decide), gn_h]
    · rw [gn_k (by decide), gn_k (by decide), ← a49]; exact xnewD_len
    · rw [gn_k (by decide), gn_k (by decide), xnewD_101, a49]; omega
    · rw [gn_k (by decide), gn_k (by decide), rm2.1, b100]; omega
    · rw [gn_k (by decide), gn_k (by decide), rm2.2, b100]; omega
  obtain ⟨M1, e1, h1⟩ := S_st hK w (o := 8) (by decide) (by rw [c8]; decide) (by rw [c8]; decide)
  rw [List.nil_append] at h1
  refine ⟨M1, ?_, h1⟩
  have i24 : ix (zi ((8 : Nat) : Int) + 16) = 24 := by decide +kernel
  have c24 : ¬ (zi ((8 : Nat) : Int) + 16 < 0 ∨ 65536 < ix (zi ((8 : Nat) : Int) + 16)) := by decide +kernel
  rw [e_m_JB_init, e_m_JA_init, len, xret_v, xbI_r, if_pos (by decide), cd A (KC_s KA (by decide)).2.2.1, xret_v, xbI_r, if_pos rfl, if_pos rfl, if_neg c24, i24, e_m_JB_append_1, e1, xret_v, xbR_r, xret_v, xbR_r, xret_v, xbV_r]
