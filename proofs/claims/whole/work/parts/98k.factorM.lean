/-! ===== a clause cut between literals ===== -/
theorem wf_cut : ∀ (A B : List Nat) (n : Nat), wf (A ++ B) n = true → (B = [] ∨ ∃ c r, B = c :: r ∧ 100 ≤ c) → wf A n = true ∧ wf B 0 = true
  | [], B, n, h, hB => by
    have h : wf B n = true := h
    have : n = 0 := by
      rcases hB with rfl | ⟨c, r, rfl, hc⟩
      · exact Nat.eq_of_beq_eq_true h
      · cases n with
        | zero => rfl
        | succ n =>
          have h : (tcode c && wf r (n + ar c)) = true := h
          rw [Bool.and_eq_true] at h
          have := tcode_100 h.1
          omega
    subst this
    exact ⟨rfl, h⟩
  | c :: A, B, 0, h, hB => by
    have h : ((Nat.ble 100 c && Nat.ble c 107) && wf (A ++ B) (ar c)) = true := h
    rw [Bool.and_eq_true] at h
    obtain ⟨a, b⟩ := wf_cut A B _ h.2 hB
    refine ⟨?_, b⟩
    show ((Nat.ble 100 c && Nat.ble c 107) && wf A (ar c)) = true
    rw [h.1, a]
    rfl
  | c :: A, B, n + 1, h, hB => by
    have h : (tcode c && wf (A ++ B) (n + ar c)) = true := h
    rw [Bool.and_eq_true] at h
    obtain ⟨a, b⟩ := wf_cut A B _ h.2 hB
    refine ⟨?_, b⟩
    show (tcode c && wf A (n + ar c)) = true
    rw [h.1, a]
    rfl
