/-! ===== two literals on their way to be the same ===== -/
def AG (W : List Nat) (i j o : Nat) : Prop := WF W ∧ i < nlit W ∧ j < nlit W ∧ (∀ x, x < o → cd W (beg W i + x) = cd W (beg W j + x)) ∧ beg W i + o ≤ beg W (i + 1)
theorem take_ag : ∀ (o : Nat) (l1 l2 : List Nat), (∀ x, x < o → cd l1 x = cd l2 x) → o ≤ l1.length → o ≤ l2.length → l1.take o = l2.take o
  | 0, _, _, _, _, _ => by rw [List.take_zero, List.take_zero]
  | o + 1, [], _, _, h1, _ => absurd h1 (Nat.not_succ_le_zero _)
  | o + 1, _ :: _, [], _, _, h2 => absurd h2 (Nat.not_succ_le_zero _)
  | o + 1, c :: l1, c' :: l2, h, h1, h2 => by
    have e : c = c' := h 0 (Nat.succ_pos _)
    rw [List.take_succ_cons, List.take_succ_cons, e, take_ag o l1 l2 (fun x hx => h (x + 1) (Nat.succ_lt_succ hx)) (Nat.le_of_succ_le_succ h1) (Nat.le_of_succ_le_succ h2)]
theorem lit_tlen {W : List Nat} (w : WF W) {i : Nat} (hi : i < nlit W) : beg W (i + 1) = beg W i + tlen (W.drop (beg W i)) 1 := by
  rw [← (w.lit hi).2.2.2.1]
  rfl
section
variable {W : List Nat} {i j o : Nat}
theorem AG.end (a : AG W i j o) : beg W j + o ≤ beg W (j + 1) ∧ (beg W (i + 1) = beg W i + o ↔ beg W (j + 1) = beg W j + o) := by
  obtain ⟨w, hi, hj, h, ho⟩ := a
  have ei := lit_tlen w hi
  have ej := lit_tlen w hj
  obtain ⟨x1, x2⟩ := tlag o 1 (W.drop (beg W i)) (W.drop (beg W j)) (w.tok1 (w.lit hi).1) (w.tok1 (w.lit hj).1) (fun x hx => by rw [cd_dropk, cd_dropk]; exact h x hx) (by omega)
  omega
theorem AG.sym (a : AG W i j o) : AG W j i o := ⟨a.1, a.2.2.1, a.2.1, fun x hx => (a.2.2.2.1 x hx).symm, a.end.1⟩
theorem AG.nx (a : AG W i j o) (h1 : beg W i + o < beg W (i + 1)) (h2 : cd W (beg W i + o) = cd W (beg W j + o)) : AG W i j (o + 1) := by
  refine ⟨a.1, a.2.1, a.2.2.1, fun x hx => ?_, by omega⟩
  by_cases z : x = o
  · rw [z]; exact h2
  · exact a.2.2.2.1 x (by omega)
theorem AG.start (w : WF W) (hi : i < nlit W) (hj : j < nlit W) (h : cd W (beg W i) = cd W (beg W j)) : AG W i j 1 := by
  refine ⟨w, hi, hj, fun x hx => ?_, ?_⟩
  · have : x = 0 := by omega
    rw [this, Nat.add_zero, Nat.add_zero]
    exact h
  · have := (w.lit hi).2.2.2.2.2
    omega
/-- the symbol at i's side is a variable; the term at j's side is put for it -/
theorem AG.put {v : Nat} {t r : List Nat} (a : AG W i j o) (h1 : beg W i + o < beg W (i + 1)) (hv : v < 100) (h0 : ar v = 0) (hi : cd W (beg W i + o) = v) (ht : tl t 1 = true) (ht1 : 1 ≤ t.length) (hn : ∀ x, x < t.length → cd t x ≠ v) (hr : W.drop (beg W j + o) = t ++ r) (ok : okR (ins v t W)) : AG (ins v t W) i j (o + 1) := by
  obtain ⟨e1, e2⟩ := a.end
  obtain ⟨w, li, lj, h, ho⟩ := a
  obtain ⟨wi, wn⟩ := ins_wf hv h0 ht W 0 w.1
  have w' : WF (ins v t W) := ⟨wi, ok.1, by rw [wn]; exact w.2.2.1, ok.2⟩
  have bi := (w.lit li).2.2.2.2.1
  have bj := (w.lit lj).2.2.2.2.1
  have di : W.drop (beg W i) = (W.drop (beg W i)).take o ++ v :: W.drop (beg W i + o + 1) := by
    have : (W.drop (beg W i)).drop o = v :: W.drop (beg W i + o + 1) := by
      rw [List.drop_drop, drop_at (show beg W i + o < W.length by omega), hi]
    rw [← this, List.take_append_drop]
  have dj : W.drop (beg W j) = (W.drop (beg W j)).take o ++ (t ++ r) := by
    rw [← hr, ← List.drop_drop, List.take_append_drop]
  have tk : (W.drop (beg W i)).take o = (W.drop (beg W j)).take o := take_ag o _ _ (fun x hx => by rw [cd_dropk, cd_dropk]; exact h x hx) (by rw [List.length_drop]; omega) (by rw [List.length_drop]; omega)
  have tl' : ((W.drop (beg W j)).take o).length = o := by rw [List.length_take, List.length_drop]; omega
  rw [tk] at di
  obtain ⟨P, hP⟩ : ∃ P, P = (W.drop (beg W j)).take o := ⟨_, rfl⟩
  rw [← hP] at di dj tl'
  refine ⟨w', by rw [wn]; exact li, by rw [wn]; exact lj, fun x hx => ?_, ?_⟩
  · rw [← cd_dropk, ← cd_dropk, ins_beg hv ht, ins_beg hv ht, di, dj]
    exact ins_ag ht1 hn tl' x hx
  · rw [lit_tlen w' (by rw [wn]; exact li), ins_beg hv ht]
    have := tlen_ins h0 ht ht1 (W.drop (beg W i)) 1
    have := lit_tlen w li
    omega
end
