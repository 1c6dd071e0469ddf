/-! ===== a put, what it makes ===== -/
def ins (v : Nat) (t : List Nat) : List Nat → List Nat
  | [] => []
  | c :: l => (if c = v then t else [c]) ++ ins v t l
def occ (v : Nat) : List Nat → Nat
  | [] => 0
  | c :: l => (if c = v then 1 else 0) + occ v l
theorem occ_le (v : Nat) : ∀ l, occ v l ≤ l.length
  | [] => Nat.le_refl _
  | c :: l => by
    have := occ_le v l
    show (if c = v then 1 else 0) + occ v l ≤ l.length + 1
    split <;> omega
theorem wf_tl : ∀ (t : List Nat) (k m : Nat) (r : List Nat), tl t k = true → wf r m = true → wf (t ++ r) (k + m) = true
  | [], k, m, r, h, hr => by
    have : k = 0 := Nat.eq_of_beq_eq_true h
    subst this
    rw [Nat.zero_add]
    exact hr
  | c :: t, 0, m, r, h, hr => by cases h
  | c :: t, k + 1, m, r, h, hr => by
    have h : (tcode c && tl t (k + ar c)) = true := h
    rw [Bool.and_eq_true] at h
    rw [show k + 1 + m = (k + m) + 1 by omega]
    show (tcode c && wf (t ++ r) (k + m + ar c)) = true
    rw [h.1, show k + m + ar c = k + ar c + m by omega, wf_tl t _ m r h.2 hr]
    rfl
theorem dl_up : ∀ (t u s : List Nat) (k x : Nat), tl t (u.sum + k) = true → dl (u ++ (k + x) :: s) t = (dl (u ++ [k]) t).map (· + s.length)
  | [], _, _, _, _, _ => rfl
  | c :: t, u, s, k, x, h => by
    obtain ⟨m, hm⟩ : ∃ m, u.sum + k = m + 1 := by
      cases hk : u.sum + k with
      | zero => rw [hk] at h; cases h
      | succ m => exact ⟨m, rfl⟩
    rw [hm] at h
    have h : (tcode c && tl t (m + ar c)) = true := h
    rw [Bool.and_eq_true] at h
    have hc := tcode_100 h.1
    show (if c < 100 then (nz (u ++ (k + x) :: s)).length else 0) :: dl (stp (u ++ (k + x) :: s) c) t = ((if c < 100 then (nz (u ++ [k])).length else 0) + s.length) :: (dl (stp (u ++ [k]) c) t).map (· + s.length)
    rw [if_pos hc, if_pos hc]
    unfold stp
    rw [if_pos hc, if_pos hc]
    rcases Nat.eq_zero_or_pos u.sum with z | z
    · obtain ⟨k', rfl⟩ : ∃ k', k = k' + 1 := ⟨k - 1, by omega⟩
      rw [nz_z z, nz_z z, show k' + 1 + x = (k' + x) + 1 by omega]
      show (s.length + 1) :: dl ([ar c] ++ (k' + x) :: s) t = (1 + s.length) :: (dl ([ar c] ++ [k']) t).map (· + s.length)
      rw [dl_up t [ar c] s k' x (by rw [show [ar c].sum + k' = m + ar c by show ar c + 0 + k' = _; omega]; exact h.2), Nat.add_comm]
    · obtain ⟨a, u', e1, e2⟩ := nz_p (u := u) (v := (k + x) :: s) z
      obtain ⟨b, u2, e3, e4⟩ := nz_p (u := u) (v := [k]) z
      have eu : a = b ∧ u' = u2 := by
        obtain ⟨p, u3, e5, -⟩ := nz_p (u := u) (v := []) z
        have key : ∀ v, nz (u ++ v) = nz (u ++ []) ++ v := by
          intro v
          have : ∀ (u : List Nat), 0 < u.sum → nz (u ++ v) = nz (u ++ []) ++ v := by
            intro u
            induction u with
            | nil => intro h; exact absurd h (Nat.lt_irrefl _)
            | cons y u ih =>
              intro hy
              cases y with
              | zero =>
                have hy : 0 < 0 + u.sum := hy
                exact ih (by omega)
              | succ y =>
                show (y + 1) :: (u ++ v) = (y + 1) :: ((u ++ []) ++ v)
                rw [List.append_nil]
          exact this u z
        have k1 := (key ((k + x) :: s)).symm.trans e1
        have k2 := (key [k]).symm.trans e3
        rw [e5] at k1 k2
        have k1 : (p + 1) :: ((u3 ++ []) ++ (k + x) :: s) = (a + 1) :: (u' ++ (k + x) :: s) := k1
        have k2 : (p + 1) :: ((u3 ++ []) ++ [k]) = (b + 1) :: (u2 ++ [k]) := k2
        injection k1 with k11 k12
        injection k2 with k21 k22
        have k12 := List.append_cancel_right k12
        have k22 := List.append_cancel_right k22
        exact ⟨by omega, k12.symm.trans k22⟩
      obtain ⟨rfl, rfl⟩ := eu
      rw [e1, e3]
      show ((u' ++ (k + x) :: s).length + 1) :: dl ((ar c :: a :: u') ++ (k + x) :: s) t = ((u' ++ [k]).length + 1 + s.length) :: (dl ((ar c :: a :: u') ++ [k]) t).map (· + s.length)
      rw [dl_up t (ar c :: a :: u') s k x (by rw [show (ar c :: a :: u').sum + k = m + ar c by show ar c + (a + u'.sum) + k = _; omega]; exact h.2), List.length_append, List.length_append]
      congr 1
      show u'.length + (s.length + 1) + 1 = u'.length + 1 + 1 + s.length
      omega
theorem cd_cons0 (c : Nat) (l : List Nat) : cd (c :: l) 0 = c := rfl
theorem zz_f (B E : List Nat) (k : Nat) : ∀ j i, i + j = B.length → (zz B E k j i).map Prod.fst = B.drop i
  | 0, i, h => by
    rw [List.drop_eq_nil_of_le (by omega)]
    rfl
  | j + 1, i, h => by
    rw [drop_at (show i < B.length by omega)]
    show cd B i :: (zz B E k j (i + 1)).map Prod.fst = _
    rw [zz_f B E k j (i + 1) (by omega)]
theorem zz_s (B E : List Nat) (k : Nat) : ∀ j i, i + j = E.length → (zz B E k j i).map Prod.snd = (E.drop i).map (· + k)
  | 0, i, h => by
    rw [List.drop_eq_nil_of_le (by omega)]
    rfl
  | j + 1, i, h => by
    rw [drop_at (show i < E.length by omega)]
    show (cd E i + k) :: (zz B E k j (i + 1)).map Prod.snd = _
    rw [zz_s B E k j (i + 1) (by omega)]
    rfl
section
variable {v : Nat} {t : List Nat}
theorem ins_wf (hv : v < 100) (h0 : ar v = 0) (ht : tl t 1 = true) : ∀ (l : List Nat) (n : Nat), wf l n = true → wf (ins v t l) n = true ∧ nlit (ins v t l) = nlit l
  | [], n, h => ⟨h, rfl⟩
  | c :: l, 0, h => by
    have h : ((Nat.ble 100 c && Nat.ble c 107) && wf l (ar c)) = true := h
    rw [Bool.and_eq_true, Bool.and_eq_true] at h
    have c1 := Nat.le_of_ble_eq_true h.1.1
    obtain ⟨i1, i2⟩ := ins_wf hv h0 ht l _ h.2
    have e : ins v t (c :: l) = c :: ins v t l := by
      show (if c = v then t else [c]) ++ _ = _
      rw [if_neg (by omega)]
      rfl
    rw [e]
    refine ⟨?_, by rw [nlit_cons, nlit_cons, i2]⟩
    show ((Nat.ble 100 c && Nat.ble c 107) && wf (ins v t l) (ar c)) = true
    rw [h.1.1, h.1.2, i1]
    rfl
  | c :: l, n + 1, h => by
    have h : (tcode c && wf l (n + ar c)) = true := h
    rw [Bool.and_eq_true] at h
    have hc := tcode_100 h.1
    obtain ⟨i1, i2⟩ := ins_wf hv h0 ht l _ h.2
    have e : ins v t (c :: l) = (if c = v then t else [c]) ++ ins v t l := rfl
    rw [e]
    by_cases z : c = v
    · rw [if_pos z]
      subst z
      rw [h0] at i1
      refine ⟨?_, by rw [nlit_app, nlit_tl t 1 ht, nlit_cons, if_pos hc, i2, Nat.zero_add]⟩
      rw [Nat.add_comm]
      exact wf_tl t 1 n _ ht i1
    · rw [if_neg z]
      refine ⟨?_, by rw [nlit_app, i2, nlit_cons, nlit_cons, if_pos hc, if_pos hc]; exact Nat.zero_add _⟩
      show (tcode c && wf (ins v t l) (n + ar c)) = true
      rw [h.1, i1]
      rfl
theorem yy_is (hv : v < 100) (h0 : ar v = 0) (ht : tl t 1 = true) {A F : List Nat} : ∀ (l s : List Nat) (i j : Nat), A.drop i = l → F.drop i = dl s l → wf l s.sum = true → i + j = A.length → (yy A F (v :: t) (0 :: dl [1] t) v j i).map Prod.fst = ins v t l ∧ (yy A F (v :: t) (0 :: dl [1] t) v j i).map Prod.snd = dl s (ins v t l)
  | [], s, i, j, h1, h2, h3, h4 => by
    have := drop_nil h1
    have : j = 0 := by omega
    subst this
    exact ⟨rfl, rfl⟩
  | c :: l, s, i, j, h1, h2, h3, h4 => by
    obtain ⟨a1, a2, a3⟩ := drop_cons h1
    obtain ⟨b1, b2, b3⟩ := drop_cons h2
    obtain ⟨j', rfl⟩ : ∃ j', j = j' + 1 := ⟨j - 1, by omega⟩
    have e : ins v t (c :: l) = (if c = v then t else [c]) ++ ins v t l := rfl
    have wn : wf l (stp s c).sum = true ∧ (c < 100 → ∃ a s', nz s = (a + 1) :: s') := by
      rcases Nat.eq_zero_or_pos s.sum with z | z
      · rw [z] at h3
        have h3 : ((Nat.ble 100 c && Nat.ble c 107) && wf l (ar c)) = true := h3
        rw [Bool.and_eq_true, Bool.and_eq_true] at h3
        have hc : ¬ c < 100 := by
          have := Nat.le_of_ble_eq_true h3.1.1
          omega
        have e : stp s c = [ar c] := if_neg hc
        rw [e]
        exact ⟨h3.2, fun z => absurd z hc⟩
      · obtain ⟨m, hm⟩ : ∃ m, s.sum = m + 1 := ⟨s.sum - 1, by omega⟩
        rw [hm] at h3
        have h3 : (tcode c && wf l (m + ar c)) = true := h3
        rw [Bool.and_eq_true] at h3
        obtain ⟨a, s', e1, e2⟩ := nz_ne z
        have e : stp s c = ar c :: a :: s' := by
          unfold stp
          rw [if_pos (tcode_100 h3.1), e1]
          rfl
        rw [e]
        refine ⟨?_, fun _ => ⟨a, s', e1⟩⟩
        rw [show (ar c :: a :: s').sum = m + ar c by show ar c + (a + s'.sum) = _; omega]
        exact h3.2
    obtain ⟨i1, i2⟩ := yy_is hv h0 ht l (stp s c) (i + 1) j' a3 b3 wn.1 (by omega)
    have ey : yy A F (v :: t) (0 :: dl [1] t) v (j' + 1) i = (if cd A i = v then zz (v :: t) (0 :: dl [1] t) (cd F i - 1) ((v :: t).length - 1) 1 else [(cd A i, cd F i)]) ++ yy A F (v :: t) (0 :: dl [1] t) v j' (i + 1) := rfl
    rw [ey, e, a2, b2]
    by_cases z : c = v
    · rw [if_pos z, if_pos z, List.map_append, List.map_append, i1, i2]
      subst z
      obtain ⟨a, s', e1⟩ := wn.2 hv
      have st : stp s c = 0 :: a :: s' := by
        unfold stp
        rw [if_pos hv, e1, h0]
        rfl
      rw [zz_f _ _ _ _ _ (by show 1 + (t.length + 1 - 1) = t.length + 1; omega), zz_s _ _ _ _ _ (by show 1 + (t.length + 1 - 1) = (dl [1] t).length + 1; rw [dl_len]; omega), if_pos hv, e1]
      refine ⟨rfl, ?_⟩
      show (dl [1] t).map (· + (s'.length + 1 - 1)) ++ dl (stp s c) (ins c t l) = dl s (t ++ ins c t l)
      have es : dl s (t ++ ins c t l) = dl ((1 + a) :: s') (t ++ ins c t l) := by
        apply dl_nz
        rw [e1, show 1 + a = a + 1 by omega]
        rfl
      have eu := dl_up t [] s' 1 a (by show tl t (0 + 1) = true; exact ht)
      have eu : dl ((1 + a) :: s') t = (dl [1] t).map (· + s'.length) := eu
      rw [es, dl_tl ht a s' (ins c t l), eu, st]
      congr 1
      exact dl_nz (s := 0 :: a :: s') (t := a :: s') rfl _
    · rw [if_neg z, if_neg z, List.map_append, List.map_append, i1, i2]
      exact ⟨rfl, rfl⟩
end
