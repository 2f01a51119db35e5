/-! what is remembered: the invariant -/
/-- the plan and what is remembered may change -/
theorem Inv_all {M N : xM} (h : Inv M) (f : fz onAll M N) (hP : PLN N 9 0) (hH : HIS N) : Inv N := by
  obtain ⟨_, _, h3, ⟨n, i1, i2⟩, ⟨e1, e2⟩, ⟨len, t, t1, ⟨x1, x2, x3, x4⟩, t3, t4⟩, h7, h8⟩ := h
  have eo : gn N 1 0 8 = gn M 1 0 8 := fz_gn f rfl
  refine ⟨hP, hH, fun s hs => ?_, ⟨n, ?_, ?_⟩, ⟨?_, ?_⟩, ⟨len, t, t1, ⟨?_, ?_, ?_, fun i => ?_⟩, (fz_gi f rfl).trans t3, fun i hi => (fz_gi f rfl).trans (t4 i hi)⟩, KC_fz h7 f (fun k o s q => ?_), GB_eq h8 (fun s => fz_gi f rfl)⟩
  · obtain ⟨fl, s1, s2, s3⟩ := h3 s hs
    refine ⟨fl, (fz_gi f rfl).trans s1, (fz_gi f rfl).trans s2, fun q => ?_⟩
    have e := bk_fz f (i := 7 + s) (fun k _ => All_28 (by omega))
    unfold PLN
    rw [e]
    exact ⟨(s3 q).1, CP_fz (s3 q).2 f (fun k u a b => All_p a b (by omega))⟩
  · rw [BB_fz f (fun _ => rfl)]; exact IN_fz i1 f rfl (fun _ => rfl)
  · rw [BB_fz f (fun _ => rfl)]; exact IR_fz i2 f rfl (fun _ => rfl)
  · rw [fz_gi f rfl, fz_gi f rfl]; exact e1
  · rw [fz_gi f rfl, fz_gi f rfl]; exact e2
  · rw [eo, fz_gn f rfl]; exact x1
  · rw [eo, fz_gn f rfl]; exact x2
  · rw [eo, fz_gi f rfl]; exact x3
  · rw [eo, fz_gi f rfl]; exact x4 i
  · rcases q with rfl | rfl | rfl | rfl | rfl | rfl | ⟨rfl | rfl | rfl | rfl, _⟩ <;> rfl
