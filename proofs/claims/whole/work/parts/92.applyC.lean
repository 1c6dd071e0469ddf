/-! ===== a put, read by the reference ===== -/
section
variable {T : List Nat} {n : Nat}
theorem s_wantsR {g : mh} {r : Pr} (hr : NRS T n g r) (hL : Lay g) (d : Nat) : ∃ g', N_wants (d + 3) 128 (nI 61) g = some (none, g') ∧ Fi Wnr g g' ∧ mI g' 128 11 = mI g 128 11 ∧ NRS T n g' (bnd r (pX T n 61)) := by
  cases r with
  | inl e => exact ⟨g, s_wantsF hr hL (nI 61) (d + 1), Fi.rf, rfl, hr⟩
  | inr s => exact s_wants hr hL (by decide) d
theorem s_readTermR {g : mh} {r : Pr} (hr : NRS T n g r) (hL : Lay g) (h11 : mI g 128 11 = nI 0) (d : Nat) : ∃ g', N_readTerm (d + 15) 128 g = some (none, g') ∧ Fi Wnr g g' ∧ NRS T n g' (bnd r (pT T n 6 1)) := by
  cases r with
  | inl e => exact ⟨g, s_N_readTermF hr hL (d + 14), Fi.rf, hr⟩
  | inr s =>
    obtain ⟨g', a, b, c, e⟩ := s_N_readTerm d 6 1 (by decide) rfl (by decide) g s hL h11 hr
    exact ⟨g', a, b, e⟩
theorem s_endsR {g : mh} {r : Pr} (hr : NRS T n g r) (hL : Lay g) (d : Nat) : ∃ g', N_ends (d + 2) 128 g = some (none, g') ∧ Fi Wnz g g' ∧ NZ g' (bnd r (fun s => if s.1 = n then Sum.inr s else Sum.inl (1, s.1))) := by
  cases r with
  | inl e => exact s_endsF hr hL (d + 1)
  | inr s => exact s_ends hr hL d
theorem bnd_as (r : Pr) (F G : Ps → Pr) : bnd (bnd r F) G = bnd r (fun s => bnd (F s) G) := by
  cases r <;> rfl
theorem s_putTail {g : mh} {r : Pr} (hr : NRS T n g r) (hL : Lay g) (h11 : mI g 128 11 = nI 0) (d : Nat) : ∃ g7 g8 g9, N_wants (d + 15) 128 (nI 61) g = some (none, g7) ∧ Lay g7 ∧ N_readTerm (d + 15) 128 g7 = some (none, g8) ∧ Lay g8 ∧ N_ends (d + 15) 128 g8 = some (none, g9) ∧ Fi Wnz g g9 ∧ NZ g9 (bnd r (fun s => bnd (pX T n 61 s) (fun s => bnd (pT T n 6 1 s) (fun s => if s.1 = n then Sum.inr s else Sum.inl (1, s.1))))) := by
  obtain ⟨g7, a1, a2, a3, a4⟩ := s_wantsR hr hL (d + 12)
  have l7 := a2.lay hL
  obtain ⟨g8, b1, b2, b3⟩ := s_readTermR a4 l7 (by rw [a3]; exact h11) d
  have l8 := b2.lay l7
  obtain ⟨g9, c1, c2, c3⟩ := s_endsR b3 l8 (d + 13)
  rw [bnd_as, bnd_as] at c3
  refine ⟨g7, g8, g9, a1, l7, b1, l8, c1, ((Wnr_z a2).tr (Wnr_z b2)).tr c2, ?_⟩
  have e : (fun s => bnd (bnd (pX T n 61 s) (pT T n 6 1)) (fun s => if s.1 = n then Sum.inr s else Sum.inl (1, s.1))) = (fun s => bnd (pX T n 61 s) (fun s => bnd (pT T n 6 1 s) (fun s => if s.1 = n then Sum.inr s else Sum.inl (1, s.1)))) := funext fun s => bnd_as _ _ _
  rw [← e, ← bnd_as, ← bnd_as]
  rw [bnd_as, bnd_as]
  exact c3
/-- the reference reads a put; what is done with it is F -/
theorem s_readsPut {g : mh} (hL : Lay g) (t : TN g T) (hn : n ≤ T.length) (d : Nat) : ∃ g1 y5, N_begins (d + 15) 128 (nI n) g = some (none, g1) ∧ Lay g1 ∧ N_see (d + 15) 128 g1 = some (some (vi (xv (lkb T n 0))), g1) ∧ N_termCode (d + 15) (xv (lkb T n 0)) g1 = some (some (vi y5), g1) ∧ ∃ g9, Fi Wnb g g9 ∧ mI g9 128 7 = nI 0 ∧ NZ g9 (ppt T n) ∧ ((∃ c g6 g7 g8, y5 = nI c ∧ 20 ≤ c ∧ c < 26 ∧ (∀ s, ppt T n = Sum.inr s → ∃ t0, s.2.1 = c :: t0) ∧ N_lays (d + 15) 128 y5 g1 = some (none, g6) ∧ Lay g6 ∧ N_wants (d + 15) 128 (nI 61) g6 = some (none, g7) ∧ Lay g7 ∧ N_readTerm (d + 15) 128 g7 = some (none, g8) ∧ Lay g8 ∧ N_ends (d + 15) 128 g8 = some (none, g9)) ∨ (∃ g6 g7 g8, ¬ nI 20 ≤ y5 ∧ (∃ e, ppt T n = Sum.inl e) ∧ N_fails (d + 15) 128 (nI 1) g1 = some (none, g6) ∧ Lay g6 ∧ N_wants (d + 15) 128 (nI 61) g6 = some (none, g7) ∧ Lay g7 ∧ N_readTerm (d + 15) 128 g7 = some (none, g8) ∧ Lay g8 ∧ N_ends (d + 15) 128 g8 = some (none, g9))) := by
  obtain ⟨g1, e1, f1, c1, d7, d11⟩ := s_begins hL t hn (d + 14)
  have hL1 := f1.lay hL
  obtain ⟨e2, b2⟩ := c1.see hL1 (d + 14)
  have e3 := s_N_termCode (d + 14) b2 g1
  have bad : (¬ nI 20 ≤ xv (tcd (lkb T n 0))) → ppt T n = Sum.inl (1, 0) → ∃ g9, Fi Wnb g g9 ∧ mI g9 128 7 = nI 0 ∧ NZ g9 (ppt T n) ∧ ∃ g6 g7 g8, ¬ nI 20 ≤ xv (tcd (lkb T n 0)) ∧ (∃ e, ppt T n = Sum.inl e) ∧ N_fails (d + 15) 128 (nI 1) g1 = some (none, g6) ∧ Lay g6 ∧ N_wants (d + 15) 128 (nI 61) g6 = some (none, g7) ∧ Lay g7 ∧ N_readTerm (d + 15) 128 g7 = some (none, g8) ∧ Lay g8 ∧ N_ends (d + 15) 128 g8 = some (none, g9) := by
    intro z1 z2
    obtain ⟨g6, a1, a2, a3, a4⟩ := s_fails c1 hL1 (k := 1) (by decide) (by decide) (d + 14)
    have l6 := a2.lay hL1
    obtain ⟨g7, g8, g9, w1, w2, w3, w4, w5, w6, w7⟩ := s_putTail a4 l6 (by rw [a3]; exact d11) d
    have fz := (Wnr_z a2).tr w6
    exact ⟨g9, f1.tr (Wnz_b fz), by rw [fz.2 _ _ (by unfold Wnz; omega)]; exact d7, by rw [z2]; exact w7, g6, g7, g8, z1, ⟨_, z2⟩, a1, l6, w1, w2, w3, w4, w5⟩
  refine ⟨g1, xv (tcd (lkb T n 0)), e1, hL1, e2, e3, ?_⟩
  have ep : ppt T n = match tcd (lkb T n 0) with
    | none => Sum.inl (1, 0)
    | some c => if 20 ≤ c then bnd (pS c 0 (0, [], [])) (fun s => bnd (pX T n 61 s) (fun s => bnd (pT T n 6 1 s) (fun s => if s.1 = n then Sum.inr s else Sum.inl (1, s.1)))) else Sum.inl (1, 0) := rfl
  cases hx : tcd (lkb T n 0) with
  | none =>
    rw [hx] at bad ep
    obtain ⟨g9, a, b, c, e⟩ := bad (by decide +kernel) ep
    exact ⟨g9, a, b, c, Or.inr e⟩
  | some c =>
    rw [hx] at bad ep
    have hc := (tcd_lt hx).1
    have ep : ppt T n = if 20 ≤ c then bnd (pS c 0 (0, [], [])) (fun s => bnd (pX T n 61 s) (fun s => bnd (pT T n 6 1 s) (fun s => if s.1 = n then Sum.inr s else Sum.inl (1, s.1)))) else Sum.inl (1, 0) := ep
    by_cases z : 20 ≤ c
    · rw [if_pos z] at ep
      have hp : 0 < n := by
        rcases Nat.eq_zero_or_pos n with w | w
        · rw [w] at hx
          have : tcd (lkb T 0 0) = none := rfl
          rw [this] at hx
          cases hx
        · exact w
      obtain ⟨g6, a1, a2, a3, a4⟩ := s_lays c1 hL1 (k := c) (dp := 0) (by omega) (Or.inr ⟨by omega, by omega, d11⟩) hp (d + 13)
      have l6 := a2.lay hL1
      obtain ⟨g7, g8, g9, w1, w2, w3, w4, w5, w6, w7⟩ := s_putTail a4 l6 (by rw [a3]; exact d11) d
      have fz := (Wnr_z a2).tr w6
      refine ⟨g9, f1.tr (Wnz_b fz), by rw [fz.2 _ _ (by unfold Wnz; omega)]; exact d7, by rw [ep]; exact w7, Or.inl ⟨c, g6, g7, g8, rfl, z, hc, ?_, a1, l6, w1, w2, w3, w4, w5⟩⟩
      intro s hs
      rw [ep] at hs
      obtain ⟨s1, h1, hs⟩ := bnd_r hs
      obtain ⟨s2, h2, hs⟩ := bnd_r hs
      obtain ⟨s3, h3, hs⟩ := bnd_r hs
      have i1 : s1 = (1, [c], [0]) := by
        have h1 : Sum.inr (1, [c], [0]) = (Sum.inr s1 : Pr) := h1
        injection h1 with h1
        exact h1.symm
      obtain ⟨t1, dt1, j1, -⟩ := pX_at (dp := 1) h2
      obtain ⟨t2, dt2, j2, -⟩ := pT_at 6 1 _ _ h3
      split at hs
      · injection hs with hs
        refine ⟨t1 ++ t2, ?_⟩
        rw [← hs, j2, j1, i1]
        rfl
      · cases hs
    · rw [if_neg z] at ep
      obtain ⟨g9, a, b, c, e⟩ := bad (by show ¬ nI 20 ≤ nI c; rw [qle (by omega) (by omega)]; omega) ep
      exact ⟨g9, a, b, c, Or.inr e⟩
/-- what a put says: a variable, a term with its depths -/
theorem ppt_is {s : Ps} (h : ppt T n = Sum.inr s) : ∃ c t, 20 ≤ c ∧ c < 26 ∧ tl t 1 = true ∧ s.2.1 = c :: t ∧ s.2.2 = 0 :: dl [1] t ∧ D5 s := by
  unfold ppt at h
  split at h
  · cases h
  · rename_i c hx
    have hc := (tcd_lt hx).1
    split at h
    · rename_i z
      obtain ⟨s1, h1, hs⟩ := bnd_r h
      obtain ⟨s2, h2, hs⟩ := bnd_r hs
      obtain ⟨s3, h3, hs⟩ := bnd_r hs
      have g0 : D5 (0, [], []) := fun x hx => by cases hx
      have g3 := pT_5 6 1 _ _ (pX_5 (pS_5 g0 h1) h2) h3
      have i1 : s1 = (1, [c], [0]) := by
        have h1 : Sum.inr (1, [c], [0]) = (Sum.inr s1 : Pr) := h1
        injection h1 with h1
        exact h1.symm
      have i2 : s2 = (2, [c], [0]) := by
        rw [i1] at h2
        unfold pX at h2
        split at h2
        · injection h2 with h2
          exact h2.symm
        · cases h2
      obtain ⟨t, dt, j1, j2, j3, j4⟩ := pT_at 6 1 _ _ h3
      split at hs
      · injection hs with hs
        subst hs
        have := j4 0 [] rfl
        refine ⟨c, t, z, hc, j3, by rw [j1, i2]; rfl, by rw [j2, i2, ← this]; rfl, g3⟩
      · cases hs
    · cases h
end
