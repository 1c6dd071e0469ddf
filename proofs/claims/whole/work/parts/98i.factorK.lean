/-! ===== inside a literal ===== -/
theorem lit_in {W : List Nat} (w : WF W) {i x : Nat} (hi : i < nlit W) (h1 : beg W i < x) (h2 : x < beg W (i + 1)) : cd W x < 100 := by
  obtain ⟨c, r, e1, -, -, e4, e5⟩ := beg_at W 0 i w.1 hi
  obtain ⟨t, r', f1, f2, -, f4⟩ := wf_split r (ar c) 0 (by rw [Nat.add_zero]; exact e4)
  have hx : x - beg W i - 1 < t.length := by omega
  have e : cd W x = cd t (x - beg W i - 1) := by
    have : cd (W.drop (beg W i)) (x - beg W i) = cd W x := by rw [cd_dropk, show beg W i + (x - beg W i) = x by omega]
    rw [← this, e1, f1, show x - beg W i = (x - beg W i - 1) + 1 by omega]
    show cd (t ++ r') (x - beg W i - 1 + 1 - 1) = _
    rw [Nat.add_sub_cancel, cd_appl hx]
  rw [e]
  exact tl_100 t _ f2 _ (cd_mem hx)
