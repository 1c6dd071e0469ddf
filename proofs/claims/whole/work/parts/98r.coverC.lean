/-! ===== places of a clause that is covered ===== -/
theorem dl_pre : ∀ (X Y s : List Nat) (i : Nat), i < X.length → cd (dl s (X ++ Y)) i = cd (dl s X) i
  | [], _, _, _, h => absurd h (Nat.not_lt_zero _)
  | c :: X, Y, s, 0, _ => rfl
  | c :: X, Y, s, i + 1, h => dl_pre X Y (stp s c) i (Nat.lt_of_succ_lt_succ h)
theorem cd_appr (l r : List Nat) (i : Nat) : cd (l ++ r) (l.length + i) = cd r i := by
  unfold cd
  rw [List.getD_eq_getElem?_getD, List.getD_eq_getElem?_getD, List.getElem?_append_right (Nat.le_add_right _ _), Nat.add_sub_cancel_left]
theorem dl_sb {s : Nat → List Nat} (hs : ∀ v, tl (s v) 1 = true) {c : Nat} (hc : iv c = false) (R : List Nat) : ∀ (P stk : List Nat), tl (P ++ c :: R) stk.sum = true → cd (dl stk (sb s (P ++ c :: R))) (sb s P).length = cd (dl stk (P ++ c :: R)) P.length
  | [], stk, _ => by
    show cd (dl stk (sb s (c :: R))) 0 = cd (dl stk (c :: R)) 0
    rw [sb_c s R hc]
    rfl
  | x :: P, stk, h => by
    obtain ⟨m, hm, tc, h2⟩ := tl_cons (show tl (x :: (P ++ c :: R)) stk.sum = true from h)
    obtain ⟨a, s', n1, n2⟩ := nz_ne (s := stk) (by omega)
    have est : stp stk x = ar x :: a :: s' := by
      unfold stp
      rw [if_pos (tcode_100 tc), n1]
      rfl
    cases z : iv x with
    | false =>
      have e1 : sb s (x :: P ++ c :: R) = x :: sb s (P ++ c :: R) := sb_c s _ z
      have e2 : sb s (x :: P) = x :: sb s P := sb_c s _ z
      rw [e1, e2]
      show cd (dl (stp stk x) (sb s (P ++ c :: R))) (sb s P).length = cd (dl (stp stk x) (P ++ c :: R)) P.length
      refine dl_sb hs hc R P (stp stk x) ?_
      rw [est, show (ar x :: a :: s').sum = m + ar x by show ar x + (a + s'.sum) = _; omega]
      exact h2
    | true =>
      have a0 := iv_ar z
      have e1 : sb s (x :: P ++ c :: R) = s (x - 20) ++ sb s (P ++ c :: R) := sb_v s _ z
      have e2 : sb s (x :: P) = s (x - 20) ++ sb s P := sb_v s _ z
      have e3 : dl stk (s (x - 20) ++ sb s (P ++ c :: R)) = dl ((1 + a) :: s') (s (x - 20)) ++ dl (a :: s') (sb s (P ++ c :: R)) := by
        rw [← dl_tl (hs (x - 20)) a s' (sb s (P ++ c :: R))]
        apply dl_nz
        rw [n1, show 1 + a = a + 1 by omega]
        rfl
      have e4 : (dl ((1 + a) :: s') (s (x - 20))).length = (s (x - 20)).length := dl_len _ _
      rw [e1, e2, e3, List.length_append, ← e4, cd_appr]
      show _ = cd (dl (stp stk x) (P ++ c :: R)) P.length
      have e5 : dl (stp stk x) (P ++ c :: R) = dl (a :: s') (P ++ c :: R) := by
        apply dl_nz
        rw [est, a0]
        rfl
      rw [e5]
      refine dl_sb hs hc R P (a :: s') ?_
      rw [a0] at h2
      rw [show (a :: s').sum = m + 0 by show a + s'.sum = _; omega]
      exact h2
theorem beg_0 {A : List Nat} (w : wf A 0 = true) : beg A 0 = 0 := by
  cases A with
  | nil => rfl
  | cons c l =>
    have w : ((Nat.ble 100 c && Nat.ble c 107) && wf l (ar c)) = true := w
    rw [Bool.and_eq_true, Bool.and_eq_true] at w
    have := Nat.le_of_ble_eq_true w.1.1
    exact if_neg (by omega)
theorem in_lit {A : List Nat} (w : wf A 0 = true) : ∀ n p, p < beg A n → ∃ i, i < n ∧ beg A i ≤ p ∧ p < beg A (i + 1)
  | 0, p, h => by rw [beg_0 w] at h; exact absurd h (Nat.not_lt_zero _)
  | n + 1, p, h => by
    by_cases z : p < beg A n
    · obtain ⟨i, h1, h2, h3⟩ := in_lit w n p z
      exact ⟨i, by omega, h2, h3⟩
    · exact ⟨n, by omega, by omega, h⟩
theorem at_lit {A : List Nat} (w : WF A) {p : Nat} (hp : p < A.length) : ∃ i, i < nlit A ∧ beg A i ≤ p ∧ p < beg A (i + 1) := in_lit w.1 (nlit A) p (by rw [beg_out A _ (Nat.le_refl _)]; exact hp)
theorem sgn_lit {A : List Nat} (w : WF A) {i : Nat} (hi : i < nlit A) : ∀ x, beg A i + x < beg A (i + 1) → sgn A (beg A i + x + 1) = cd A (beg A i) % 2
  | 0, _ => by
    have := (w.lit hi).2.1
    show (if cd A (beg A i) < 100 then _ else _) = _
    rw [if_neg (by omega)]
  | x + 1, h => by
    have hc := lit_in w hi (x := beg A i + (x + 1)) (by omega) h
    show (if cd A (beg A i + (x + 1)) < 100 then sgn A (beg A i + (x + 1)) else _) = _
    rw [if_pos hc]
    exact sgn_lit w hi x (by omega)
theorem ltr_is {A : List Nat} (w : WF A) {i : Nat} (hi : i < nlit A) : A.drop (beg A i) = ltr A i ++ A.drop (beg A (i + 1)) ∧ (ltr A i).length = beg A (i + 1) - beg A i := by
  obtain ⟨l1, l2, l3, l4, l5, l6⟩ := w.lit hi
  unfold ltr
  refine ⟨?_, by rw [List.length_take, List.length_drop]; omega⟩
  have h2 : A.drop (beg A (i + 1)) = (A.drop (beg A i)).drop (beg A (i + 1) - beg A i) := by
    rw [List.drop_drop]
    congr 1
    omega
  rw [h2, List.take_append_drop]
theorem dep_lit {A : List Nat} (w : WF A) {i x : Nat} (hi : i < nlit A) (hx : beg A i + x < beg A (i + 1)) : cd A (beg A i + x) = cd (ltr A i) x ∧ dep A (beg A i + x) = cd (dl [] (ltr A i)) x := by
  obtain ⟨l1, l2, l3, l4, l5, l6⟩ := w.lit hi
  obtain ⟨e1, e2⟩ := ltr_is w hi
  have hxl : x < (ltr A i).length := by omega
  refine ⟨by rw [← cd_dropk, e1, cd_appl hxl], ?_⟩
  obtain ⟨s', e3, -⟩ := dl_at A [] (beg A i) w.1 (by omega)
  rw [← dep_dl w.1 (by omega), ← cd_dropk, e3, e1, dl_pre _ _ _ _ hxl]
  obtain ⟨c, l, f1, f2, -⟩ := w.litc hi
  have hc : ¬ c < 100 := by rw [f2]; omega
  rw [f1, dl_pred hc, dl_pred hc]
/-- where a place of A goes -/
def fi (A B : List Nat) (s : Nat → List Nat) (ro : Nat → Nat) (i x : Nat) : Nat := beg B (ro i) + (sb s ((ltr A i).take x)).length
section
variable {A B : List Nat} {m : Nat} {s : Nat → List Nat} {ro : Nat → Nat}
theorem sb_ge (hs : ∀ v, tl (s v) 1 = true) : ∀ l : List Nat, l.length ≤ (sb s l).length
  | [] => Nat.le_refl _
  | c :: l => by
    have := sb_ge hs l
    cases z : iv c with
    | false =>
      rw [sb_c s l z]
      show l.length + 1 ≤ (sb s l).length + 1
      omega
    | true =>
      rw [sb_v s l z, List.length_append]
      have h1 := hs (c - 20)
      have : 1 ≤ (s (c - 20)).length := by
        cases h : s (c - 20) with
        | nil => rw [h] at h1; cases h1
        | cons a b => exact Nat.succ_pos _
      show l.length + 1 ≤ _
      omega
theorem fi_mono (hs : ∀ v, tl (s v) 1 = true) {i x y : Nat} (h : x < y) (hy : y ≤ (ltr A i).length) : fi A B s ro i x < fi A B s ro i y := by
  unfold fi
  have e : (ltr A i).take y = (ltr A i).take x ++ ((ltr A i).take y).drop x := by
    have := (List.take_append_drop x ((ltr A i).take y)).symm
    rw [List.take_take, Nat.min_eq_left (by omega)] at this
    exact this
  have h2 := sb_ge hs (((ltr A i).take y).drop x)
  rw [e, sb_app, List.length_append]
  rw [List.length_drop, List.length_take] at h2
  omega
theorem fi_end (c : CV m A B s ro) (wA : WF A) (wB : WF B) {i : Nat} (hi : i < nlit A) : fi A B s ro i (ltr A i).length = beg B (ro i + 1) := by
  obtain ⟨q1, q2⟩ := c.2.1 i hi
  obtain ⟨-, e2⟩ := ltr_is wB q1
  have := (wB.lit q1).2.2.2.2.2
  unfold fi
  rw [List.take_length, ← q2, e2]
  omega
theorem fi_at (c : CV m A B s ro) (wA : WF A) (wB : WF B) {i x : Nat} (hi : i < nlit A) (hx : beg A i + x < beg A (i + 1)) : beg B (ro i) ≤ fi A B s ro i x ∧ fi A B s ro i x < beg B (ro i + 1) ∧ (iv (cd A (beg A i + x)) = false → cd B (fi A B s ro i x) = cd A (beg A i + x) ∧ sgn B (fi A B s ro i x + 1) = sgn A (beg A i + x + 1) ∧ dep B (fi A B s ro i x) = dep A (beg A i + x)) := by
  obtain ⟨q1, q2⟩ := c.2.1 i hi
  obtain ⟨e1, e2⟩ := ltr_is wA hi
  have hxl : x < (ltr A i).length := by omega
  have b1 : fi A B s ro i x < beg B (ro i + 1) := by
    rw [← fi_end c wA wB hi]
    exact fi_mono c.1 hxl (Nat.le_refl _)
  refine ⟨Nat.le_add_right _ _, b1, fun hv => ?_⟩
  obtain ⟨d1, d2⟩ := dep_lit wA hi hx
  have b2 : beg B (ro i) + (sb s ((ltr A i).take x)).length < beg B (ro i + 1) := b1
  obtain ⟨d3, d4⟩ := dep_lit wB q1 b2
  have sp : ltr A i = (ltr A i).take x ++ cd (ltr A i) x :: (ltr A i).drop (x + 1) := by
    rw [← drop_at hxl, List.take_append_drop]
  have hlx : ((ltr A i).take x).length = x := by rw [List.length_take]; omega
  rw [d1] at hv
  obtain ⟨c0, l0, g1, g2, g3, -⟩ := wA.litc hi
  have hc0 : 100 ≤ c0 := by rw [g2]; exact (wA.lit hi).2.1
  refine ⟨?_, ?_, ?_⟩
  · show cd B (beg B (ro i) + (sb s ((ltr A i).take x)).length) = _
    rw [d3, q2, d1]
    have : sb s (ltr A i) = sb s ((ltr A i).take x) ++ cd (ltr A i) x :: sb s ((ltr A i).drop (x + 1)) := by
      rw [← sb_c s _ hv, ← sb_app, ← sp]
    rw [this]
    have := cd_appr (sb s ((ltr A i).take x)) (cd (ltr A i) x :: sb s ((ltr A i).drop (x + 1))) 0
    rw [Nat.add_zero] at this
    exact this
  · show sgn B (beg B (ro i) + (sb s ((ltr A i).take x)).length + 1) = _
    rw [sgn_lit wB q1 _ b2, sgn_lit wA hi x hx]
    have l1 := (wB.lit q1).2.2.2.2.2
    have l2 := (wA.lit hi).2.2.2.2.2
    have h1 := (dep_lit wB q1 (x := 0) (by omega)).1
    have h2 := (dep_lit wA hi (x := 0) (by omega)).1
    rw [Nat.add_zero] at h1 h2
    rw [h1, h2, q2, g1, sb_c s _ (iv_pred hc0)]
    rfl
  · show dep B (beg B (ro i) + (sb s ((ltr A i).take x)).length) = _
    rw [d4, d2, q2]
    cases x with
    | zero =>
      rw [g1, sb_c s _ (iv_pred hc0), dl_pred (by omega), dl_pred (by omega)]
      rfl
    | succ x =>
      have hxl' : x < l0.length := by rw [g1] at hxl; exact Nat.lt_of_succ_lt_succ hxl
      have hv' : iv (cd l0 x) = false := by rw [g1] at hv; exact hv
      have sp' : l0 = l0.take x ++ cd l0 x :: l0.drop (x + 1) := by rw [← drop_at hxl', List.take_append_drop]
      have key := dl_sb c.1 hv' (l0.drop (x + 1)) (l0.take x) [ar c0] (by rw [← sp', show [ar c0].sum = ar c0 by show ar c0 + 0 = _; rfl]; exact g3)
      rw [← sp', List.length_take, Nat.min_eq_left (by omega)] at key
      rw [g1, sb_c s _ (iv_pred hc0), dl_pred (by omega), dl_pred (by omega), List.take_succ_cons, sb_c s _ (iv_pred hc0)]
      exact key
end
