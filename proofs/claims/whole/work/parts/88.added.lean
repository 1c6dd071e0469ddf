/-! ===== add and query ===== -/
section
variable {T : List Nat} {n : Nat}
/-- no symbol is too deep -/
def D5 (s : Ps) : Prop := ∀ x ∈ s.2.2, x ≤ 5
theorem pS_5 {c dp : Nat} {s s' : Ps} (g : D5 s) (h : pS c dp s = Sum.inr s') : D5 s' := by
  unfold pS at h
  split at h
  · cases h
  · split at h
    · cases h
    · injection h with h
      subst h
      intro x hx
      rcases List.mem_append.mp hx with z | z
      · exact g x z
      · rw [List.mem_singleton.mp z]; omega
theorem pX_5 {ch : Nat} {s s' : Ps} (g : D5 s) (h : pX T n ch s = Sum.inr s') : D5 s' := by
  unfold pX at h
  split at h
  · injection h with h
    subst h
    exact g
  · cases h
theorem pP_5 {F : Ps → Pr} {k : Nat} (hG : ∀ s s', D5 s → F s = Sum.inr s' → D5 s') {s s' : Ps} (g : D5 s) (h : pP T n F k s = Sum.inr s') : D5 s' := by
  unfold pP at h
  split at h
  · injection h with h
    subst h
    exact g
  · obtain ⟨s1, h1, h⟩ := bnd_r h
    obtain ⟨s2, h2, h⟩ := bnd_r h
    have g2 := hG s1 s2 (pX_5 g h1) h2
    split at h
    · obtain ⟨s3, h3, h⟩ := bnd_r h
      obtain ⟨s4, h4, h⟩ := bnd_r h
      exact pX_5 (hG s3 s4 (pX_5 g2 h3) h4) h
    · exact pX_5 g2 h
theorem pT_5 : ∀ f dp s s', D5 s → pT T n f dp s = Sum.inr s' → D5 s' := by
  intro f
  induction f with
  | zero => intro dp s s' _ h; cases h
  | succ f ih =>
    intro dp s s' g h
    have h : (match tcd (lkb T n s.1) with | none => Sum.inl (1, s.1) | some c => bnd (pS c dp s) (pP T n (pT T n f (dp + 1)) (ar c))) = Sum.inr s' := h
    cases ht : tcd (lkb T n s.1) with
    | none => rw [ht] at h; cases h
    | some c =>
      rw [ht] at h
      obtain ⟨s1, h1, h2⟩ := bnd_r h
      exact pP_5 (fun s s' => ih (dp + 1) s s') (pS_5 g h1) h2
theorem pQ_5 {sg : Nat} {s s' : Ps} (g : D5 s) (h : pQ T n sg s = Sum.inr s') : D5 s' := by
  unfold pQ at h
  split at h
  · cases h
  · split at h
    · obtain ⟨s1, h1, h2⟩ := bnd_r h
      exact pP_5 (fun s s' => pT_5 6 1 s s') (pS_5 g h1) h2
    · cases h
theorem pL_5 {s s' : Ps} (g : D5 s) (h : pL T n s = Sum.inr s') : D5 s' := by
  unfold pL at h
  split at h
  · exact pQ_5 (s := (s.1 + 1, s.2)) g h
  · exact pQ_5 g h
theorem pC_5 : ∀ j s s', D5 s → pC T n j s = Sum.inr s' → D5 s' := by
  intro j
  induction j with
  | zero => intro s s' _ h; cases h
  | succ j ih =>
    intro s s' g h
    rw [pC_s] at h
    obtain ⟨s1, h1, h⟩ := bnd_r h
    have g1 := pL_5 g h1
    unfold pD at h
    split at h
    · injection h with h
      subst h
      exact g1
    · split at h
      · split at h
        · cases h
        · exact ih (s1.1 + 1, s1.2) s' g1 h
      · cases h
theorem pcl_ok {s : Ps} (h : pcl T n = Sum.inr s) (hl : s.2.1.length ≤ 30) : WF s.2.1 ∧ ∀ i, i < s.2.1.length → cd s.2.2 i = dep s.2.1 i := by
  refine pcl_wf h hl (fun i hi => ?_)
  have : D5 s := by
    unfold pcl at h
    split at h
    · injection h with h
      subst h
      exact fun x hx => by cases hx
    · exact pC_5 5 _ s (fun x hx => by cases hx) h
  exact this _ (cd_mem hi)
/-- the faults of what was read -/
def fkO (r : Pr) : Int32 := match r with
  | Sum.inl e => nI e.1
  | Sum.inr _ => nI 0
def fpO (r : Pr) : Int32 := match r with
  | Sum.inl e => nI e.2
  | Sum.inr _ => -1
theorem RZ.f {h : mh} {r : Pr} {y : Int32} (z : RZ h r y) : mI h 4 2 = nI 0 ∧ mI h 4 5 = fkO r ∧ mI h 4 6 = fpO r := by
  cases r with
  | inl e => exact ⟨z.1, z.2.2.1, z.2.2.2⟩
  | inr s => exact ⟨z.1, z.2.2.2.1, z.2.2.2.2⟩
theorem NZ.f {h : mh} {r : Pr} (z : NZ h r) : mI h 128 14 = fkO r ∧ mI h 128 15 = fpO r := by
  cases r with
  | inl e => exact ⟨z.2.2.2.1, z.2.2.2.2⟩
  | inr s => exact ⟨z.2.1, z.2.2.1⟩
end
section
variable {h h' : mh} {K : Ks} {O : List Nat} {n : Nat} {H : Sh} {I : Im} {T : List Nat} {fk fp : Int32}
theorem CS.rd {r : Pr} {y : Int32} (c : CS h K O n H I T fk fp) (f : Fi Wbg h h') (z : RZ h' r y) : CS h' K O n H I [] (fkO r) (fpO r) := by
  obtain ⟨s1, s2, s3, s4, s5, s6, s7, s8, s9, s10⟩ := c
  obtain ⟨z1, z2, z3⟩ := z.f
  have im' : ∀ x k, Wbg x k → ¬ im x := fun x k z => by unfold Wbg at z; unfold im; omega
  refine ⟨s1.fi f im', s2.fi f (by unfold Wbg; omega) (fun k => by unfold Wbg; omega), s3.fi f im' (fun a k h1 h2 => by unfold Wbg; omega), s4.fi f im' (fun a k h1 h2 => by unfold Wbg; omega), ⟨Nat.zero_le _, z1, fun i hi => absurd hi (Nat.not_lt_zero _)⟩, z2, z3, s8.fi f (fun a k z => by unfold Wbg; omega), s9.fi f (fun k => by unfold Wbg; omega), s10⟩
theorem NS.rd {r : Pr} (s : NS h K O n H I T fk fp) (f : Fi Wnb h h') (z7 : mI h' 128 7 = nI 0) (z : NZ h' r) : NS h' K O n H I [] (fkO r) (fpO r) := by
  obtain ⟨q1, q2, q3, q4, q5, q6, q7⟩ := s
  obtain ⟨z1, z2⟩ := z.f
  exact ⟨q1.fi f (fun k => by unfold Wnb; omega), q2.fi f (fun k => by unfold Wnb; omega), q3.fi f (by unfold Wnb; omega) (fun k => by unfold Wnb; omega), q4.fi f (fun k => by unfold Wnb; omega) (fun k => by unfold Wnb; omega), ⟨Nat.zero_le _, z7, fun i hi => absurd hi (Nat.not_lt_zero _)⟩, z1, z2⟩
theorem CS.no (c : CS h K O n H I T fk fp) (f : Fc NO NO h h') : CS h' K O n H I T fk fp := by
  obtain ⟨s1, s2, s3, s4, s5, s6, s7, s8, s9, s10⟩ := c
  have tT := s1.1.2.2
  have im' : ∀ x k, NO x k → ¬ im x := fun x k z => z.elim
  have vk : ∀ x k, NO x k → Vk x k := fun x k z => z.elim
  exact ⟨s1.fr f im' vk (fun z => z) (fun k z => z), s2.fr f tT (fun z => z) (fun k z => z), s3.fr f tT im' vk (fun a k h1 h2 z => z) (fun a k h1 h2 z => z), s4.fr f tT im' vk (fun a k h1 h2 z => z) (fun a k h1 h2 z => z) (fun k z => z), s5.fr f tT (fun z => z) (fun k z => z), by rw [f.1 _ _ (by omega) (fun z => z)]; exact s6, by rw [f.1 _ _ (by omega) (fun z => z)]; exact s7, s8.fr f tT (fun a k h1 h2 z => z), s9.fr f tT (fun z => z) (fun z => z) (fun k z => z), s10⟩
theorem NS.no (s : NS h K O n H I T fk fp) (f : Fc NO NO h h') (hL' : Lay h') : NS h' K O n H I T fk fp := s.c (f.mo (fun _ _ z => z.elim) (fun _ _ z => z.elim)) hL'
-- the reference lays a clause away
theorem s_keeps21 {k : Nat} (hk : k ≤ 24) {C : List Nat} (hC : C.length ≤ 30) (d : Nat) : ∀ j i g, i + j = 30 → Lay g → mI g 128 10 = nI C.length → (∀ x, x < C.length → mI g 133 x = nI (cd C x)) → (∀ x, x < C.length → x < i → mI g 129 (32 * k + 2 + x) = nI (cd C x)) → ∃ g', N_keeps_21 d 128 (nI k) (nI i) g = some (none, g') ∧ Fi (fun x j => x = 129 ∧ 32 * k + 2 ≤ j ∧ j < 32 * k + 32) g g' ∧ ∀ x, x < C.length → mI g' 129 (32 * k + 2 + x) = nI (cd C x) := by
  intro j
  induction j with
  | zero =>
    intro i g hi hL a b c
    have hi : i = 30 := hi
    subst hi
    refine ⟨g, ?_, Fi.rf, fun x hx => c x hx (by omega)⟩
    rw [e_N_keeps_21]
    repeat (first | with_reducible refine hE ?_ | with_reducible refine hLi ?_ | (with_reducible apply hT; · (first | omega | (simp (disch := omega) only [qadd, qmul, qcl, qle, qlt, qeq, qlt0, q0le, qeq0, qle0, q0lt, true_or, or_true, false_or, or_false, true_and, and_true, false_and, and_false, eq_self, not_true_eq_false, not_false_eq_true, qz0, qz1, q00, q01, q10, q11, zb_z, zb_0, zb_1, zor, Bool.true_eq_false, Bool.false_eq_true, Bool.and_true, Bool.and_false, Bool.true_and, Bool.false_and, Bool.or_true, Bool.or_false, Bool.true_or, Bool.false_or, decide_eq_true_eq, decide_eq_false_iff_not, reduceCtorEq]; done) | (simp (disch := omega) only [qadd, qmul, qcl, qle, qlt, qeq, qlt0, q0le, qeq0, qle0, q0lt, true_or, or_true, false_or, or_false, true_and, and_true, false_and, and_false, eq_self, not_true_eq_false, not_false_eq_true, qz0, qz1, q00, q01, q10, q11, zb_z, zb_0, zb_1, zor, Bool.true_eq_false, Bool.false_eq_true, Bool.and_true, Bool.and_false, Bool.true_and, Bool.false_and, Bool.or_true, Bool.or_false, Bool.true_or, Bool.false_or, decide_eq_true_eq, decide_eq_false_iff_not, reduceCtorEq]; omega))) | (with_reducible apply hF; · (first | omega | (simp (disch := omega) only [qadd, qmul, qcl, qle, qlt, qeq, qlt0, q0le, qeq0, qle0, q0lt, true_or, or_true, false_or, or_false, true_and, and_true, false_and, and_false, eq_self, not_true_eq_false, not_false_eq_true, qz0, qz1, q00, q01, q10, q11, zb_z, zb_0, zb_1, zor, Bool.true_eq_false, Bool.false_eq_true, Bool.and_true, Bool.and_false, Bool.true_and, Bool.false_and, Bool.or_true, Bool.or_false, Bool.true_or, Bool.false_or, decide_eq_true_eq, decide_eq_false_iff_not, reduceCtorEq]; done) | (simp (disch := omega) only [qadd, qmul, qcl, qle, qlt, qeq, qlt0, q0le, qeq0, qle0, q0lt, true_or, or_true, false_or, or_false, true_and, and_true, false_and, and_false, eq_self, not_true_eq_false, not_false_eq_true, qz0, qz1, q00, q01, q10, q11, zb_z, zb_0, zb_1, zor, Bool.true_eq_false, Bool.false_eq_true, Bool.and_true, Bool.and_false, Bool.true_and, Bool.false_and, Bool.or_true, Bool.or_false, Bool.true_or, Bool.false_or, decide_eq_true_eq, decide_eq_false_iff_not, reduceCtorEq]; omega))))
    rfl
  | succ j ih =>
    intro i g hi hL a b c
    obtain ⟨v, hv⟩ : ∃ v, v = if C.length ≤ i then nI 0 else mI g 133 i := ⟨_, rfl⟩
    obtain ⟨G, hG⟩ : ∃ G, G = msi g 129 (32 * k + 2 + i) v := ⟨_, rfl⟩
    have f1 : Fi (fun x j => x = 129 ∧ 32 * k + 2 ≤ j ∧ j < 32 * k + 32) g G := by rw [hG]; exact Fi.si ⟨rfl, by omega, by omega⟩
    obtain ⟨g', e1, f2, x2⟩ := ih (i + 1) G (by omega) (f1.lay hL) (by rw [f1.2 _ _ (by omega)]; exact a) (fun x hx => by rw [f1.2 _ _ (by omega)]; exact b x hx) (fun x hx hi => by
      rw [hG, mI_si]
      by_cases z : x = i
      · rw [if_pos ⟨rfl, by omega⟩, hv, if_neg (by omega), z]
        exact b i (by omega)
      · rw [if_neg (by omega)]
        exact c x hx (by omega))
    refine ⟨g', ?_, f1.tr f2, x2⟩
    rw [← e1, e_N_keeps_21]
    have n30 : ¬ 30 ≤ i := by omega
    by_cases z : C.length ≤ i
    · rw [if_pos z] at hv
      repeat (first | with_reducible refine hE ?_ | with_reducible refine hLi ?_ | (with_reducible apply hT; · (first | omega | (simp (disch := omega) only [lk_128 hL, lp_128_1 hL, lk_129 hL, ln_129 hL, a, qadd, qmul, qcl, qle, qlt, qeq, qlt0, q0le, qeq0, qle0, q0lt, true_or, or_true, false_or, or_false, true_and, and_true, false_and, and_false, eq_self, not_true_eq_false, not_false_eq_true, qz0, qz1, q00, q01, q10, q11, zb_z, zb_0, zb_1, zor, Bool.true_eq_false, Bool.false_eq_true, Bool.and_true, Bool.and_false, Bool.true_and, Bool.false_and, Bool.or_true, Bool.or_false, Bool.true_or, Bool.false_or, decide_eq_true_eq, decide_eq_false_iff_not, reduceCtorEq]; done) | (simp (disch := omega) only [lk_128 hL, lp_128_1 hL, lk_129 hL, ln_129 hL, a, qadd, qmul, qcl, qle, qlt, qeq, qlt0, q0le, qeq0, qle0, q0lt, true_or, or_true, false_or, or_false, true_and, and_true, false_and, and_false, eq_self, not_true_eq_false, not_false_eq_true, qz0, qz1, q00, q01, q10, q11, zb_z, zb_0, zb_1, zor, Bool.true_eq_false, Bool.false_eq_true, Bool.and_true, Bool.and_false, Bool.true_and, Bool.false_and, Bool.or_true, Bool.or_false, Bool.true_or, Bool.false_or, decide_eq_true_eq, decide_eq_false_iff_not, reduceCtorEq]; omega))) | (with_reducible apply hF; · (first | omega | (simp (disch := omega) only [lk_128 hL, lp_128_1 hL, lk_129 hL, ln_129 hL, a, qadd, qmul, qcl, qle, qlt, qeq, qlt0, q0le, qeq0, qle0, q0lt, true_or, or_true, false_or, or_false, true_and, and_true, false_and, and_false, eq_self, not_true_eq_false, not_false_eq_true, qz0, qz1, q00, q01, q10, q11, zb_z, zb_0, zb_1, zor, Bool.true_eq_false, Bool.false_eq_true, Bool.and_true, Bool.and_false, Bool.true_and, Bool.false_and, Bool.or_true, Bool.or_false, Bool.true_or, Bool.false_or, decide_eq_true_eq, decide_eq_false_iff_not, reduceCtorEq]; done) | (simp (disch := omega) only [lk_128 hL, lp_128_1 hL, lk_129 hL, ln_129 hL, a, qadd, qmul, qcl, qle, qlt, qeq, qlt0, q0le, qeq0, qle0, q0lt, true_or, or_true, false_or, or_false, true_and, and_true, false_and, and_false, eq_self, not_true_eq_false, not_false_eq_true, qz0, qz1, q00, q01, q10, q11, zb_z, zb_0, zb_1, zor, Bool.true_eq_false, Bool.false_eq_true, Bool.and_true, Bool.and_false, Bool.true_and, Bool.false_and, Bool.or_true, Bool.or_false, Bool.true_or, Bool.false_or, decide_eq_true_eq, decide_eq_false_iff_not, reduceCtorEq]; omega))))
      simp (disch := omega) only [lp_128_1 hL, qadd, qmul, qcl, qle, qlt, qeq, qlt0, q0le, qeq0, qle0, q0lt]
      rw [hG, hv]
    · rw [if_neg z] at hv
      repeat (first | with_reducible refine hE ?_ | with_reducible refine hLi ?_ | (with_reducible apply hT; · (first | omega | (simp (disch := omega) only [lk_128 hL, lp_128_1 hL, lk_129 hL, ln_129 hL, lp_128_6 hL, lk_133 hL, ln_133 hL, a, qadd, qmul, qcl, qle, qlt, qeq, qlt0, q0le, qeq0, qle0, q0lt, true_or, or_true, false_or, or_false, true_and, and_true, false_and, and_false, eq_self, not_true_eq_false, not_false_eq_true, qz0, qz1, q00, q01, q10, q11, zb_z, zb_0, zb_1, zor, Bool.true_eq_false, Bool.false_eq_true, Bool.and_true, Bool.and_false, Bool.true_and, Bool.false_and, Bool.or_true, Bool.or_false, Bool.true_or, Bool.false_or, decide_eq_true_eq, decide_eq_false_iff_not, reduceCtorEq]; done) | (simp (disch := omega) only [lk_128 hL, lp_128_1 hL, lk_129 hL, ln_129 hL, lp_128_6 hL, lk_133 hL, ln_133 hL, a, qadd, qmul, qcl, qle, qlt, qeq, qlt0, q0le, qeq0, qle0, q0lt, true_or, or_true, false_or, or_false, true_and, and_true, false_and, and_false, eq_self, not_true_eq_false, not_false_eq_true, qz0, qz1, q00, q01, q10, q11, zb_z, zb_0, zb_1, zor, Bool.true_eq_false, Bool.false_eq_true, Bool.and_true, Bool.and_false, Bool.true_and, Bool.false_and, Bool.or_true, Bool.or_false, Bool.true_or, Bool.false_or, decide_eq_true_eq, decide_eq_false_iff_not, reduceCtorEq]; omega))) | (with_reducible apply hF; · (first | omega | (simp (disch := omega) only [lk_128 hL, lp_128_1 hL, lk_129 hL, ln_129 hL, lp_128_6 hL, lk_133 hL, ln_133 hL, a, qadd, qmul, qcl, qle, qlt, qeq, qlt0, q0le, qeq0, qle0, q0lt, true_or, or_true, false_or, or_false, true_and, and_true, false_and, and_false, eq_self, not_true_eq_false, not_false_eq_true, qz0, qz1, q00, q01, q10, q11, zb_z, zb_0, zb_1, zor, Bool.true_eq_false, Bool.false_eq_true, Bool.and_true, Bool.and_false, Bool.true_and, Bool.false_and, Bool.or_true, Bool.or_false, Bool.true_or, Bool.false_or, decide_eq_true_eq, decide_eq_false_iff_not, reduceCtorEq]; done) | (simp (disch := omega) only [lk_128 hL, lp_128_1 hL, lk_129 hL, ln_129 hL, lp_128_6 hL, lk_133 hL, ln_133 hL, a, qadd, qmul, qcl, qle, qlt, qeq, qlt0, q0le, qeq0, qle0, q0lt, true_or, or_true, false_or, or_false, true_and, and_true, false_and, and_false, eq_self, not_true_eq_false, not_false_eq_true, qz0, qz1, q00, q01, q10, q11, zb_z, zb_0, zb_1, zor, Bool.true_eq_false, Bool.false_eq_true, Bool.and_true, Bool.and_false, Bool.true_and, Bool.false_and, Bool.or_true, Bool.or_false, Bool.true_or, Bool.false_or, decide_eq_true_eq, decide_eq_false_iff_not, reduceCtorEq]; omega))))
      simp (disch := omega) only [lp_128_1 hL, lp_128_6 hL, qadd, qmul, qcl, qle, qlt, qeq, qlt0, q0le, qeq0, qle0, q0lt]
      rw [hG, hv]
theorem s_keeps {k : Nat} (hk : k ≤ 24) {C : List Nat} {g : mh} (hC : C.length ≤ 30) (hL : Lay g) (a : mI g 128 10 = nI C.length) (b : ∀ x, x < C.length → mI g 133 x = nI (cd C x)) (d : Nat) : ∃ g', N_keeps (d + 1) 128 (nI k) g = some (none, g') ∧ Fi (fun x j => x = 129 ∧ 32 * k ≤ j ∧ j < 32 * k + 32) g g' ∧ MC g' 129 0 k C := by
  obtain ⟨G, hG⟩ : ∃ G, G = msi (msi g 129 (32 * k) (nI 1)) 129 (32 * k + 1) (nI C.length) := ⟨_, rfl⟩
  have f1 : Fi (fun x j => x = 129 ∧ 32 * k ≤ j ∧ j < 32 * k + 32) g G := by
    rw [hG]
    exact (Fi.si ⟨rfl, by omega, by omega⟩).tr (Fi.si ⟨rfl, by omega, by omega⟩)
  obtain ⟨g', e1, f2, x2⟩ := s_keeps21 hk hC d 30 0 G rfl (f1.lay hL) (by rw [f1.2 _ _ (by omega)]; exact a) (fun x hx => by rw [f1.2 _ _ (by omega)]; exact b x hx) (fun x _ hx => absurd hx (Nat.not_lt_zero _))
  refine ⟨g', ?_, f1.tr (f2.mo (fun x j z => by omega)), ?_, ?_, fun i hi => ?_⟩
  · have a' : mI (msi g 129 (32 * k) (nI 1)) 128 10 = nI C.length := by rw [mI_si, if_neg (by omega)]; exact a
    rw [← e1, e_N_keeps]
    repeat (first | with_reducible refine hE ?_ | with_reducible refine hLi ?_ | (with_reducible apply hT; · (first | omega | (simp (disch := omega) only [lk_128 hL, lp_128_1 hL, lk_129 hL, ln_129 hL, mK_si, mN_si, mP_si, mT_si, mU_si, mK_sp, mN_sp, mI_sp, mT_sp, mU_sp, qadd, qmul, qcl, qle, qlt, qeq, qlt0, q0le, qeq0, qle0, q0lt, true_or, or_true, false_or, or_false, true_and, and_true, false_and, and_false, eq_self, not_true_eq_false, not_false_eq_true, qz0, qz1, q00, q01, q10, q11, zb_z, zb_0, zb_1, zor, Bool.true_eq_false, Bool.false_eq_true, Bool.and_true, Bool.and_false, Bool.true_and, Bool.false_and, Bool.or_true, Bool.or_false, Bool.true_or, Bool.false_or, decide_eq_true_eq, decide_eq_false_iff_not, reduceCtorEq]; done) | (simp (disch := omega) only [lk_128 hL, lp_128_1 hL, lk_129 hL, ln_129 hL, mK_si, mN_si, mP_si, mT_si, mU_si, mK_sp, mN_sp, mI_sp, mT_sp, mU_sp, qadd, qmul, qcl, qle, qlt, qeq, qlt0, q0le, qeq0, qle0, q0lt, true_or, or_true, false_or, or_false, true_and, and_true, false_and, and_false, eq_self, not_true_eq_false, not_false_eq_true, qz0, qz1, q00, q01, q10, q11, zb_z, zb_0, zb_1, zor, Bool.true_eq_false, Bool.false_eq_true, Bool.and_true, Bool.and_false, Bool.true_and, Bool.false_and, Bool.or_true, Bool.or_false, Bool.true_or, Bool.false_or, decide_eq_true_eq, decide_eq_false_iff_not, reduceCtorEq]; omega))) | (with_reducible apply hF; · (first | omega | (simp (disch := omega) only [lk_128 hL, lp_128_1 hL, lk_129 hL, ln_129 hL, mK_si, mN_si, mP_si, mT_si, mU_si, mK_sp, mN_sp, mI_sp, mT_sp, mU_sp, qadd, qmul, qcl, qle, qlt, qeq, qlt0, q0le, qeq0, qle0, q0lt, true_or, or_true, false_or, or_false, true_and, and_true, false_and, and_false, eq_self, not_true_eq_false, not_false_eq_true, qz0, qz1, q00, q01, q10, q11, zb_z, zb_0, zb_1, zor, Bool.true_eq_false, Bool.false_eq_true, Bool.and_true, Bool.and_false, Bool.true_and, Bool.false_and, Bool.or_true, Bool.or_false, Bool.true_or, Bool.false_or, decide_eq_true_eq, decide_eq_false_iff_not, reduceCtorEq]; done) | (simp (disch := omega) only [lk_128 hL, lp_128_1 hL, lk_129 hL, ln_129 hL, mK_si, mN_si, mP_si, mT_si, mU_si, mK_sp, mN_sp, mI_sp, mT_sp, mU_sp, qadd, qmul, qcl, qle, qlt, qeq, qlt0, q0le, qeq0, qle0, q0lt, true_or, or_true, false_or, or_false, true_and, and_true, false_and, and_false, eq_self, not_true_eq_false, not_false_eq_true, qz0, qz1, q00, q01, q10, q11, zb_z, zb_0, zb_1, zor, Bool.true_eq_false, Bool.false_eq_true, Bool.and_true, Bool.and_false, Bool.true_and, Bool.false_and, Bool.or_true, Bool.or_false, Bool.true_or, Bool.false_or, decide_eq_true_eq, decide_eq_false_iff_not, reduceCtorEq]; omega))))
    simp (disch := omega) only [lp_128_1 hL, qadd, qmul, qcl, qle, qlt, qeq, qlt0, q0le, qeq0, qle0, q0lt, mK_si, mN_si, mP_si, mT_si, mU_si, mK_sp, mN_sp, mI_sp, mT_sp, mU_sp, a', Nat.add_zero]
    rw [hG]
  · rw [f2.2 _ _ (by omega), hG, mI_si, if_neg (by omega), mI_si, if_pos ⟨rfl, by omega⟩]
  · rw [f2.2 _ _ (by omega), hG, mI_si, if_pos ⟨rfl, by omega⟩]
  · have := x2 i hi
    rw [Nat.zero_add]
    exact this
end
