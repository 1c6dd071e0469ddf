/-! ===== clauses as rows of codes: nothing of a machine ===== -/
/-- how many terms stand behind a symbol -/
def ar (c : Nat) : Nat := if c < 100 then (if c = 2 then 2 else if c = 0 then 1 else if c = 1 then 1 else 0) else (if (c - 100) / 2 = 1 then 2 else if (c - 100) / 2 = 2 then 0 else 1)
/-- how many symbols the first n terms take -/
def tlen : List Nat → Nat → Nat
  | _, 0 => 0
  | [], _ + 1 => 0
  | c :: l, n + 1 => tlen l (n + ar c) + 1
def tcode (c : Nat) : Bool := Nat.blt c 8 || (Nat.ble 20 c && Nat.blt c 26)
/-- n terms are still due, then literals -/
def wf : List Nat → Nat → Bool
  | [], n => Nat.beq n 0
  | c :: l, 0 => (Nat.ble 100 c && Nat.ble c 107) && wf l (ar c)
  | c :: l, n + 1 => tcode c && wf l (n + ar c)
def nlit : List Nat → Nat
  | [] => 0
  | c :: l => if c < 100 then nlit l else nlit l + 1
/-- where literal j begins; the end, if there are not so many -/
def beg : List Nat → Nat → Nat
  | [], _ => 0
  | c :: l, 0 => if c < 100 then beg l 0 + 1 else 0
  | c :: l, j + 1 => if c < 100 then beg l (j + 1) + 1 else beg l j + 1
theorem tcode_lt {c : Nat} (h : tcode c = true) : c < 26 := by
  unfold tcode at h
  rw [Bool.or_eq_true, Bool.and_eq_true] at h
  rcases h with h | ⟨-, h⟩
  · have := Nat.le_of_ble_eq_true h
    omega
  · have := Nat.le_of_ble_eq_true h
    omega
theorem tlen_0 (l : List Nat) : tlen l 0 = 0 := by cases l <;> rfl
theorem tlen_le : ∀ (l : List Nat) (n : Nat), tlen l n ≤ l.length
  | [], 0 => Nat.zero_le _
  | _ :: _, 0 => Nat.zero_le _
  | [], _ + 1 => Nat.le_refl _
  | _ :: l, n + 1 => Nat.succ_le_succ (tlen_le l _)
theorem wf_tlen : ∀ (l : List Nat) (n : Nat), wf l n = true → wf (l.drop (tlen l n)) 0 = true
  | [], 0, _ => rfl
  | [], _ + 1, h => by cases h
  | c :: l, 0, h => h
  | c :: l, n + 1, h => by
    have h : (tcode c && wf l (n + ar c)) = true := h
    rw [Bool.and_eq_true] at h
    exact wf_tlen l _ h.2
theorem wf_beg0 : ∀ (l : List Nat) (n : Nat), wf l n = true → beg l 0 = tlen l n
  | [], 0, _ => rfl
  | [], _ + 1, h => by cases h
  | c :: l, 0, h => by
    have h : ((Nat.ble 100 c && Nat.ble c 107) && wf l (ar c)) = true := h
    rw [Bool.and_eq_true, Bool.and_eq_true] at h
    have := Nat.le_of_ble_eq_true h.1.1
    show (if c < 100 then beg l 0 + 1 else 0) = 0
    rw [if_neg (by omega)]
  | c :: l, n + 1, h => by
    have h : (tcode c && wf l (n + ar c)) = true := h
    rw [Bool.and_eq_true] at h
    have := tcode_lt h.1
    show (if c < 100 then beg l 0 + 1 else 0) = tlen l (n + ar c) + 1
    rw [if_pos (by omega), wf_beg0 l _ h.2]
theorem beg_le : ∀ (l : List Nat) (j : Nat), beg l j ≤ l.length
  | [], _ => Nat.le_refl _
  | c :: l, 0 => by
    show (if c < 100 then beg l 0 + 1 else 0) ≤ l.length + 1
    have := beg_le l 0
    split <;> omega
  | c :: l, j + 1 => by
    show (if c < 100 then beg l (j + 1) + 1 else beg l j + 1) ≤ l.length + 1
    have := beg_le l (j + 1)
    have := beg_le l j
    split <;> omega
theorem beg_out : ∀ (l : List Nat) (j : Nat), nlit l ≤ j → beg l j = l.length
  | [], _, _ => rfl
  | c :: l, j, h => by
    have h : (if c < 100 then nlit l else nlit l + 1) ≤ j := h
    by_cases hc : c < 100
    · rw [if_pos hc] at h
      have e : beg (c :: l) j = beg l j + 1 := by
        cases j with
        | zero => exact if_pos hc
        | succ j => exact if_pos hc
      rw [e, beg_out l j h]
      rfl
    · rw [if_neg hc] at h
      cases j with
      | zero => omega
      | succ j =>
        show (if c < 100 then beg l (j + 1) + 1 else beg l j + 1) = _
        rw [if_neg hc, beg_out l j (by omega)]
        rfl
/-- a literal that is there: its head, what is behind it, where the next one begins -/
theorem beg_at : ∀ (l : List Nat) (n j : Nat), wf l n = true → j < nlit l → ∃ (c : Nat) (r : List Nat), l.drop (beg l j) = c :: r ∧ 100 ≤ c ∧ c ≤ 107 ∧ wf r (ar c) = true ∧ beg l (j + 1) = beg l j + 1 + tlen r (ar c)
  | [], _, _, _, h => by cases h
  | c :: l, 0, j, h, hj => by
    have h : ((Nat.ble 100 c && Nat.ble c 107) && wf l (ar c)) = true := h
    rw [Bool.and_eq_true, Bool.and_eq_true] at h
    obtain ⟨⟨h1, h2⟩, h3⟩ := h
    have h1 := Nat.le_of_ble_eq_true h1
    have h2 := Nat.le_of_ble_eq_true h2
    have hc : ¬ c < 100 := by omega
    have hj : j < (if c < 100 then nlit l else nlit l + 1) := hj
    rw [if_neg hc] at hj
    cases j with
    | zero =>
      refine ⟨c, l, ?_, h1, h2, h3, ?_⟩
      · show (c :: l).drop (if c < 100 then beg l 0 + 1 else 0) = _
        rw [if_neg hc]
        rfl
      · show (if c < 100 then beg l 1 + 1 else beg l 0 + 1) = (if c < 100 then beg l 0 + 1 else 0) + 1 + _
        rw [if_neg hc, if_neg hc, wf_beg0 l _ h3]
        omega
    | succ j =>
      obtain ⟨c', r, a1, a2, a3, a4, a5⟩ := beg_at l (ar c) j h3 (by omega)
      have e : ∀ i, beg (c :: l) (i + 1) = beg l i + 1 := fun i => if_neg hc
      refine ⟨c', r, ?_, a2, a3, a4, ?_⟩
      · rw [e]
        exact a1
      · rw [e, e, a5]
        omega
  | c :: l, n + 1, j, h, hj => by
    have h : (tcode c && wf l (n + ar c)) = true := h
    rw [Bool.and_eq_true] at h
    have hc : c < 100 := by
      have := tcode_lt h.1
      omega
    have hj : j < (if c < 100 then nlit l else nlit l + 1) := hj
    rw [if_pos hc] at hj
    obtain ⟨c', r, a1, a2, a3, a4, a5⟩ := beg_at l (n + ar c) j h.2 hj
    have e : ∀ i, beg (c :: l) i = beg l i + 1 := fun i => by
      cases i with
      | zero => exact if_pos hc
      | succ i => exact if_pos hc
    refine ⟨c', r, ?_, a2, a3, a4, ?_⟩
    · rw [e]
      exact a1
    · rw [e, e, a5]
      omega
