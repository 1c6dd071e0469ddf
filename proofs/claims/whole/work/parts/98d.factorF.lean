/-! ===== literals that agree at their beginnings ===== -/
theorem tlag : ∀ (o n : Nat) (l1 l2 : List Nat), tok l1 n = true → tok l2 n = true → (∀ x, x < o → cd l1 x = cd l2 x) → o ≤ tlen l1 n → o ≤ tlen l2 n ∧ (tlen l1 n = o ↔ tlen l2 n = o)
  | 0, n, l1, l2, h1, h2, _, _ => by
    refine ⟨Nat.zero_le _, ?_⟩
    cases n with
    | zero => rw [tlen_0, tlen_0]
    | succ n =>
      cases l1 with
      | nil => cases h1
      | cons c l1 =>
        cases l2 with
        | nil => cases h2
        | cons c' l2 =>
          show tlen l1 (n + ar c) + 1 = 0 ↔ tlen l2 (n + ar c') + 1 = 0
          omega
  | o + 1, n, l1, l2, h1, h2, hx, ho => by
    cases n with
    | zero => rw [tlen_0] at ho; omega
    | succ n =>
      cases l1 with
      | nil => cases h1
      | cons c l1 =>
        cases l2 with
        | nil => cases h2
        | cons c' l2 =>
          have e0 : c = c' := hx 0 (Nat.succ_pos _)
          subst e0
          have ho : o + 1 ≤ tlen l1 (n + ar c) + 1 := ho
          obtain ⟨a, b⟩ := tlag o (n + ar c) l1 l2 h1 h2 (fun x hx' => hx (x + 1) (Nat.succ_lt_succ hx')) (Nat.le_of_succ_le_succ ho)
          show o + 1 ≤ tlen l2 (n + ar c) + 1 ∧ (tlen l1 (n + ar c) + 1 = o + 1 ↔ tlen l2 (n + ar c) + 1 = o + 1)
          omega
theorem tlen_app : ∀ (t : List Nat) (k m : Nat) (r : List Nat), tl t k = true → tlen (t ++ r) (k + m) = t.length + tlen r m
  | [], k, m, r, h => by
    have : k = 0 := Nat.eq_of_beq_eq_true h
    subst this
    rw [Nat.zero_add]
    exact (Nat.zero_add _).symm
  | c :: t, 0, m, r, h => by cases h
  | c :: t, k + 1, m, r, h => by
    have h : (tcode c && tl t (k + ar c)) = true := h
    rw [Bool.and_eq_true] at h
    rw [show k + 1 + m = (k + m) + 1 by omega]
    show tlen (t ++ r) (k + m + ar c) + 1 = t.length + 1 + tlen r m
    rw [show k + m + ar c = k + ar c + m by omega, tlen_app t _ m r h.2]
    omega
section
variable {v : Nat} {t : List Nat}
theorem tlen_ins (h0 : ar v = 0) (ht : tl t 1 = true) (ht1 : 1 ≤ t.length) : ∀ (l : List Nat) (n : Nat), tlen l n ≤ tlen (ins v t l) n
  | l, 0 => by rw [tlen_0]; exact Nat.zero_le _
  | [], n + 1 => Nat.zero_le _
  | c :: l, n + 1 => by
    have e : ins v t (c :: l) = (if c = v then t else [c]) ++ ins v t l := rfl
    rw [e]
    by_cases z : c = v
    · have i1 := tlen_ins h0 ht ht1 l n
      have hc0 : ar c = 0 := by rw [z]; exact h0
      have ea := tlen_app t 1 n (ins v t l) ht
      rw [show 1 + n = n + 1 by omega] at ea
      have eb : tlen l (n + ar c) = tlen l n := by rw [hc0, Nat.add_zero]
      have ec : tlen (c :: l) (n + 1) = tlen l (n + ar c) + 1 := rfl
      rw [if_pos z, ea, ec, eb]
      omega
    · rw [if_neg z]
      have i1 := tlen_ins h0 ht ht1 l (n + ar c)
      show tlen l (n + ar c) + 1 ≤ tlen (ins v t l) (n + ar c) + 1
      omega
theorem ins_app (A B : List Nat) : ins v t (A ++ B) = ins v t A ++ ins v t B := by
  induction A with
  | nil => rfl
  | cons c A ih =>
    show (if c = v then t else [c]) ++ ins v t (A ++ B) = ((if c = v then t else [c]) ++ ins v t A) ++ ins v t B
    rw [ih, List.append_assoc]
theorem ins_no : ∀ l : List Nat, (∀ x, x < l.length → cd l x ≠ v) → ins v t l = l
  | [], _ => rfl
  | c :: l, h => by
    show (if c = v then t else [c]) ++ ins v t l = c :: l
    have hc : ¬ c = v := h 0 (Nat.succ_pos _)
    rw [if_neg hc, ins_no l (fun x hx => h (x + 1) (Nat.succ_lt_succ hx))]
    rfl
theorem ins_ge (ht1 : 1 ≤ t.length) : ∀ l : List Nat, l.length ≤ (ins v t l).length
  | [] => Nat.le_refl _
  | c :: l => by
    have := ins_ge ht1 l
    show l.length + 1 ≤ ((if c = v then t else [c]) ++ ins v t l).length
    rw [List.length_append]
    split
    · omega
    · show l.length + 1 ≤ 1 + _
      omega
theorem beg_tl : ∀ (X r : List Nat) (i : Nat), (∀ x ∈ X, x < 100) → beg (X ++ r) i = X.length + beg r i
  | [], r, i, _ => (Nat.zero_add _).symm
  | c :: X, r, i, h => by
    have hc : c < 100 := h c (List.mem_cons_self ..)
    have e : beg (c :: (X ++ r)) i = beg (X ++ r) i + 1 := by
      cases i with
      | zero => exact if_pos hc
      | succ i => exact if_pos hc
    show beg (c :: (X ++ r)) i = X.length + 1 + beg r i
    rw [e, beg_tl X r i (fun x hx => h x (List.mem_cons_of_mem _ hx))]
    omega
theorem tl_100 : ∀ (l : List Nat) (n : Nat), tl l n = true → ∀ x ∈ l, x < 100
  | [], _, _, x, hx => by cases hx
  | c :: l, 0, h, x, hx => by cases h
  | c :: l, n + 1, h, x, hx => by
    have h : (tcode c && tl l (n + ar c)) = true := h
    rw [Bool.and_eq_true] at h
    rcases List.mem_cons.mp hx with e | e
    · rw [e]; exact tcode_100 h.1
    · exact tl_100 l _ h.2 x e
theorem ins_beg (hv : v < 100) (ht : tl t 1 = true) : ∀ (W : List Nat) (i : Nat), (ins v t W).drop (beg (ins v t W) i) = ins v t (W.drop (beg W i))
  | [], i => by cases i <;> rfl
  | c :: W, i => by
    have e : ins v t (c :: W) = (if c = v then t else [c]) ++ ins v t W := rfl
    by_cases z : c < 100
    · have eb : beg (c :: W) i = beg W i + 1 := by
        cases i with
        | zero => exact if_pos z
        | succ i => exact if_pos z
      have hX : ∀ x ∈ (if c = v then t else [c]), x < 100 := by
        intro x hx
        split at hx
        · exact tl_100 t 1 ht x hx
        · rw [List.mem_singleton.mp hx]; exact z
      rw [e, beg_tl _ _ _ hX, eb]
      show ((if c = v then t else [c]) ++ ins v t W).drop ((if c = v then t else [c]).length + beg (ins v t W) i) = ins v t (W.drop (beg W i))
      rw [List.drop_append, List.drop_eq_nil_of_le (Nat.le_add_right _ _), Nat.add_sub_cancel_left, List.nil_append, ins_beg hv ht W i]
    · have nv : ¬ c = v := by omega
      have e' : ins v t (c :: W) = c :: ins v t W := by rw [e, if_neg nv]; rfl
      rw [e']
      cases i with
      | zero =>
        have b1 : beg (c :: ins v t W) 0 = 0 := if_neg z
        have b2 : beg (c :: W) 0 = 0 := if_neg z
        rw [b1, b2]
        exact e'.symm
      | succ i =>
        have b1 : beg (c :: ins v t W) (i + 1) = beg (ins v t W) i + 1 := if_neg z
        have b2 : beg (c :: W) (i + 1) = beg W i + 1 := if_neg z
        rw [b1, b2]
        exact ins_beg hv ht W i
/-- both sides of a put agree one symbol further -/
theorem ins_ag (ht1 : 1 ≤ t.length) (hn : ∀ x, x < t.length → cd t x ≠ v) {P s1 s2 : List Nat} {o : Nat} (hP : P.length = o) : ∀ x, x < o + 1 → cd (ins v t (P ++ v :: s1)) x = cd (ins v t (P ++ (t ++ s2))) x := by
  intro x hx
  have hl := ins_ge (v := v) ht1 P
  have e1 : ins v t (P ++ v :: s1) = (ins v t P ++ t) ++ ins v t s1 := by
    rw [ins_app, List.append_assoc]
    show ins v t P ++ ((if v = v then t else [v]) ++ ins v t s1) = _
    rw [if_pos rfl]
  have e2 : ins v t (P ++ (t ++ s2)) = (ins v t P ++ t) ++ ins v t s2 := by
    rw [ins_app, ins_app, ins_no t hn, List.append_assoc]
  rw [e1, e2, cd_appl (l := ins v t P ++ t) (r := ins v t s1) (by rw [List.length_append]; omega), cd_appl (l := ins v t P ++ t) (r := ins v t s2) (by rw [List.length_append]; omega)]
end
