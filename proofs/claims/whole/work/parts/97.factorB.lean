/-! ===== a draft's own term ===== -/
theorem stp_wf {c : Nat} {l s : List Nat} (h3 : wf (c :: l) s.sum = true) : wf l (stp s c).sum = true ∧ (c < 100 → ∃ a s', nz s = (a + 1) :: s' ∧ s.sum = a + 1 + s'.sum) := by
  rcases Nat.eq_zero_or_pos s.sum with z | z
  · rw [z] at h3
    have h3 : ((Nat.ble 100 c && Nat.ble c 107) && wf l (ar c)) = true := h3
    rw [Bool.and_eq_true, Bool.and_eq_true] at h3
    have hc : ¬ c < 100 := by
      have := Nat.le_of_ble_eq_true h3.1.1
      omega
    have e : stp s c = [ar c] := if_neg hc
    rw [e]
    exact ⟨h3.2, fun z => absurd z hc⟩
  · obtain ⟨m, hm⟩ : ∃ m, s.sum = m + 1 := ⟨s.sum - 1, by omega⟩
    rw [hm] at h3
    have h3 : (tcode c && wf l (m + ar c)) = true := h3
    rw [Bool.and_eq_true] at h3
    obtain ⟨a, s', e1, e2⟩ := nz_ne z
    have e : stp s c = ar c :: a :: s' := by
      unfold stp
      rw [if_pos (tcode_100 h3.1), e1]
      rfl
    rw [e]
    refine ⟨?_, fun _ => ⟨a, s', e1, e2⟩⟩
    rw [show (ar c :: a :: s').sum = m + ar c by show ar c + (a + s'.sum) = _; omega]
    exact h3.2
theorem dl_at : ∀ (A s : List Nat) (p : Nat), wf A s.sum = true → p ≤ A.length → ∃ s', (dl s A).drop p = dl s' (A.drop p) ∧ wf (A.drop p) s'.sum = true
  | A, s, 0, h, _ => ⟨s, rfl, h⟩
  | [], _, p + 1, _, hp => absurd hp (Nat.not_succ_le_zero _)
  | c :: A, s, p + 1, h, hp => dl_at A (stp s c) p (stp_wf h).1 (Nat.le_of_succ_le_succ hp)
theorem wf_split : ∀ (l : List Nat) (k m : Nat), wf l (k + m) = true → ∃ t r, l = t ++ r ∧ tl t k = true ∧ wf r m = true ∧ t.length = tlen l k
  | l, 0, m, h => ⟨[], l, rfl, rfl, by rw [Nat.zero_add] at h; exact h, by rw [tlen_0]; rfl⟩
  | [], k + 1, m, h => by
    rw [show k + 1 + m = (k + m) + 1 by omega] at h
    cases h
  | c :: l, k + 1, m, h => by
    rw [show k + 1 + m = (k + m) + 1 by omega] at h
    have h : (tcode c && wf l (k + m + ar c)) = true := h
    rw [Bool.and_eq_true, show k + m + ar c = k + ar c + m by omega] at h
    obtain ⟨t, r, e1, e2, e3, e4⟩ := wf_split l (k + ar c) m h.2
    refine ⟨c :: t, r, by rw [e1]; rfl, ?_, e3, ?_⟩
    · show (tcode c && tl t (k + ar c)) = true
      rw [h.1, e2]
      rfl
    · show t.length + 1 = tlen l (k + ar c) + 1
      rw [e4]
theorem cd_dropk (l : List Nat) (p i : Nat) : cd (l.drop p) i = cd l (p + i) := by
  unfold cd
  rw [List.getD_eq_getElem?_getD, List.getD_eq_getElem?_getD, List.getElem?_drop]
theorem cd_map_add (l : List Nat) (k : Nat) {i : Nat} (hi : i < l.length) : cd (l.map (· + k)) i = cd l i + k := by
  unfold cd
  rw [List.getD_eq_getElem?_getD, List.getD_eq_getElem?_getD, List.getElem?_map, List.getElem?_eq_getElem hi]
  rfl
theorem cd_appl {l r : List Nat} {i : Nat} (hi : i < l.length) : cd (l ++ r) i = cd l i := by
  unfold cd
  rw [List.getD_eq_getElem?_getD, List.getD_eq_getElem?_getD, List.getElem?_append_left hi]
/-- the term at p, with its depths -/
theorem own {A : List Nat} (w : wf A 0 = true) {p : Nat} (hp : p < A.length) (hc : cd A p < 100) : ∃ t r, A.drop p = t ++ r ∧ tl t 1 = true ∧ t.length = endp A p - p ∧ 1 ≤ dep A p ∧ ∀ i, i < t.length → cd A (p + i) = cd t i ∧ cd (dl [] A) (p + i) = cd (dl [1] t) i + (dep A p - 1) := by
  obtain ⟨s, e1, e2⟩ := dl_at A [] p w (Nat.le_of_lt hp)
  have e2' := e2
  rw [drop_at hp] at e2'
  obtain ⟨a, s', n1, n2⟩ := (stp_wf e2').2 hc
  rw [n2, show a + 1 + s'.sum = 1 + (a + s'.sum) by omega] at e2
  obtain ⟨t, r, t1, t2, t3, t4⟩ := wf_split _ 1 (a + s'.sum) e2
  have d0 : dep A p = s'.length + 1 := by
    have := congrArg (fun l => cd l 0) e1
    have : cd ((dl [] A).drop p) 0 = cd (dl s (A.drop p)) 0 := this
    rw [cd_dropk, Nat.add_zero, dep_dl w hp, drop_at hp] at this
    rw [this]
    show (if cd A p < 100 then (nz s).length else 0) = _
    rw [if_pos hc, n1]
    rfl
  have es : dl s (A.drop p) = (dl [1] t).map (· + s'.length) ++ dl (a :: s') r := by
    have x1 : dl s (A.drop p) = dl ((1 + a) :: s') (A.drop p) := by
      apply dl_nz
      rw [n1, show 1 + a = a + 1 by omega]
      rfl
    have eu : dl ((1 + a) :: s') t = (dl [1] t).map (· + s'.length) := dl_up t [] s' 1 a (by show tl t (0 + 1) = true; exact t2)
    rw [x1, t1, dl_tl t2 a s' r, eu]
  refine ⟨t, r, t1, t2, by rw [t4]; unfold endp; omega, by omega, fun i hi => ⟨?_, ?_⟩⟩
  · rw [← cd_dropk, t1, cd_appl hi]
  · rw [← cd_dropk, e1, es, cd_appl (by rw [List.length_map, dl_len]; exact hi), cd_map_add _ _ (by rw [dl_len]; exact hi), d0]
    rfl
theorem zy_zz {A F t : List Nat} {v e s : Nat} (hs : 1 ≤ s) (he : 1 ≤ e) {p : Nat} (hk : ∀ i, i < t.length → cd A (p + i) = cd t i ∧ cd F (p + i) = cd (dl [1] t) i + (s - 1)) : ∀ j i, i + j = t.length → zy A F e s j (p + i) = zz (v :: t) (0 :: dl [1] t) (e - 1) j (i + 1)
  | 0, _, _ => rfl
  | j + 1, i, h => by
    obtain ⟨k1, k2⟩ := hk i (by omega)
    show (cd A (p + i), cd F (p + i) + e - s) :: zy A F e s j (p + i + 1) = (cd t i, cd (dl [1] t) i + (e - 1)) :: zz (v :: t) (0 :: dl [1] t) (e - 1) j (i + 1 + 1)
    rw [k1, k2, show cd (dl [1] t) i + (s - 1) + e - s = cd (dl [1] t) i + (e - 1) by omega, Nat.add_assoc p i 1, zy_zz hs he hk j (i + 1) (by omega)]
theorem yo_yy {A F t : List Nat} {v p e0 : Nat} (ht : t.length = e0 - p) (hs : 1 ≤ cd F p) (hk : ∀ i, i < t.length → cd A (p + i) = cd t i ∧ cd F (p + i) = cd (dl [1] t) i + (cd F p - 1)) (hv : ∀ i, i < A.length → cd A i = v → 1 ≤ cd F i) : ∀ j i, i + j = A.length → yo A F v p e0 j i = yy A F (v :: t) (0 :: dl [1] t) v j i
  | 0, _, _ => rfl
  | j + 1, i, h => by
    show (if cd A i = v then zy A F (cd F i) (cd F p) (e0 - p) p else [(cd A i, cd F i)]) ++ yo A F v p e0 j (i + 1) = (if cd A i = v then zz (v :: t) (0 :: dl [1] t) (cd F i - 1) (t.length + 1 - 1) 1 else [(cd A i, cd F i)]) ++ yy A F (v :: t) (0 :: dl [1] t) v j (i + 1)
    rw [yo_yy ht hs hk hv j (i + 1) (by omega)]
    by_cases z : cd A i = v
    · have := zy_zz (v := v) hs (hv i (by omega) z) hk (e0 - p) 0 (by omega)
      rw [Nat.add_zero] at this
      rw [if_pos z, if_pos z, this, ht, Nat.add_sub_cancel]
    · rw [if_neg z, if_neg z]
