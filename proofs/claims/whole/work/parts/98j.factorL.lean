/-! ===== without a part: two pieces ===== -/
section
variable {L : List Nat} {b e : Nat}
theorem wo_ge : ∀ j x, x + j = L.length → b ≤ x → e ≤ x → wo L b e j x = L.drop x
  | 0, x, h, _, _ => by
    rw [List.drop_eq_nil_of_le (by omega)]
    rfl
  | j + 1, x, h, h1, h2 => by
    show (if x < b then [cd L x] else if x < e then [] else [cd L x]) ++ wo L b e j (x + 1) = _
    rw [if_neg (by omega), if_neg (by omega), wo_ge j (x + 1) (by omega) (by omega) (by omega), drop_at (show x < L.length by omega)]
    rfl
theorem wo_mid : ∀ j x, x + j = L.length → b ≤ x → x ≤ e → e ≤ L.length → wo L b e j x = L.drop e
  | 0, x, h, _, h2, h3 => by
    rw [List.drop_eq_nil_of_le (by omega)]
    rfl
  | j + 1, x, h, h1, h2, h3 => by
    by_cases z : x = e
    · rw [← z]
      exact wo_ge (j + 1) x h h1 (by omega)
    · show (if x < b then [cd L x] else if x < e then [] else [cd L x]) ++ wo L b e j (x + 1) = _
      rw [if_neg (by omega), if_pos (by omega), wo_mid j (x + 1) (by omega) (by omega) (by omega) h3]
      rfl
theorem wo_lo (hbe : b ≤ e) (he : e ≤ L.length) : ∀ j x, x + j = L.length → x ≤ b → wo L b e j x = (L.drop x).take (b - x) ++ L.drop e
  | 0, x, h, h1 => by
    rw [show b - x = 0 by omega, List.take_zero, List.nil_append]
    exact wo_mid 0 x h (by omega) (by omega) he
  | j + 1, x, h, h1 => by
    by_cases z : x = b
    · rw [z, Nat.sub_self, List.take_zero, List.nil_append]
      rw [z] at h
      exact wo_mid (j + 1) b h (Nat.le_refl _) hbe he
    · show (if x < b then [cd L x] else if x < e then [] else [cd L x]) ++ wo L b e j (x + 1) = _
      rw [if_pos (by omega), wo_lo hbe he j (x + 1) (by omega) (by omega), drop_at (show x < L.length by omega), show b - x = (b - (x + 1)) + 1 by omega, List.take_succ_cons]
      rfl
theorem wo_is (hbe : b ≤ e) (he : e ≤ L.length) : wo L b e L.length 0 = L.take b ++ L.drop e := by
  rw [wo_lo hbe he L.length 0 (Nat.zero_add _) (Nat.zero_le _)]
  rfl
end
