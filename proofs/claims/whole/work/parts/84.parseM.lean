/-! ===== the reference reads clauses; what is read ===== -/
section
variable {T : List Nat} {n : Nat}
/-- what a text was, for the reference -/
def NZ (g : mh) (r : Pr) : Prop := match r with
  | Sum.inl e => mI g 128 12 = nI e.1 ∧ 1 ≤ e.1 ∧ e.1 ≤ 4 ∧ mI g 128 14 = nI e.1 ∧ mI g 128 15 = nI e.2
  | Sum.inr s => mI g 128 12 = nI 0 ∧ mI g 128 14 = nI 0 ∧ mI g 128 15 = -1 ∧ mI g 128 10 = nI s.2.1.length ∧ s.2.1.length ≤ 30 ∧ ∀ i, i < s.2.1.length → mI g 133 i = nI (cd s.2.1 i)
def Wnz (x k : Nat) : Prop := (x = 128 ∧ 9 ≤ k ∧ k ≤ 15) ∨ x = 133
def Wnb (x k : Nat) : Prop := (x = 128 ∧ 7 ≤ k ∧ k ≤ 15) ∨ x = 133
theorem s_endsF {g : mh} {e : Nat × Nat} (c : NF g e) (hL : Lay g) (d : Nat) : ∃ g', N_ends (d + 1) 128 g = some (none, g') ∧ Fi Wnz g g' ∧ NZ g' (Sum.inl e) := by
  have c1 := c.ne
  obtain ⟨b1, b2, b3, b4⟩ := id c
  have c2 : (mI (msi g 128 14 (nI e.1)) 128 12 = 0) = False := by rw [mI_si, if_neg (by omega)]; exact c1
  have c3 : mI (msi g 128 14 (nI e.1)) 128 13 = nI e.2 := by rw [mI_si, if_neg (by omega)]; exact b4
  refine ⟨msi (msi g 128 14 (nI e.1)) 128 15 (nI e.2), ?_, (Fi.si (Or.inl ⟨rfl, by omega, by omega⟩)).tr (Fi.si (Or.inl ⟨rfl, by omega, by omega⟩)), by rw [mI_si, if_neg (by omega), mI_si, if_neg (by omega)]; exact b1, b2, b3, by rw [mI_si, if_neg (by omega), mI_si, if_pos ⟨rfl, rfl⟩], by rw [mI_si, if_pos ⟨rfl, rfl⟩]⟩
  rw [e_N_ends]
  repeat (first | with_reducible refine hE ?_ | with_reducible refine hLi ?_ | (with_reducible apply hT; · (first | omega | (simp (disch := omega) only [lk_128 hL, c1, mK_si, mN_si, mP_si, mT_si, mU_si, mK_sp, mN_sp, mI_sp, mT_sp, mU_sp, qadd, qmul, qcl, qle, qlt, qeq, qlt0, q0le, qeq0, qle0, q0lt, true_or, or_true, false_or, or_false, true_and, and_true, false_and, and_false, eq_self, not_true_eq_false, not_false_eq_true, qz0, qz1, q00, q01, q10, q11, zb_z, zb_0, zb_1, zor, Bool.true_eq_false, Bool.false_eq_true, Bool.and_true, Bool.and_false, Bool.true_and, Bool.false_and, Bool.or_true, Bool.or_false, Bool.true_or, Bool.false_or, decide_eq_true_eq, decide_eq_false_iff_not, reduceCtorEq]; done) | (simp (disch := omega) only [lk_128 hL, c1, mK_si, mN_si, mP_si, mT_si, mU_si, mK_sp, mN_sp, mI_sp, mT_sp, mU_sp, qadd, qmul, qcl, qle, qlt, qeq, qlt0, q0le, qeq0, qle0, q0lt, true_or, or_true, false_or, or_false, true_and, and_true, false_and, and_false, eq_self, not_true_eq_false, not_false_eq_true, qz0, qz1, q00, q01, q10, q11, zb_z, zb_0, zb_1, zor, Bool.true_eq_false, Bool.false_eq_true, Bool.and_true, Bool.and_false, Bool.true_and, Bool.false_and, Bool.or_true, Bool.or_false, Bool.true_or, Bool.false_or, decide_eq_true_eq, decide_eq_false_iff_not, reduceCtorEq]; omega))) | (with_reducible apply hF; · (first | omega | (simp (disch := omega) only [lk_128 hL, c1, mK_si, mN_si, mP_si, mT_si, mU_si, mK_sp, mN_sp, mI_sp, mT_sp, mU_sp, qadd, qmul, qcl, qle, qlt, qeq, qlt0, q0le, qeq0, qle0, q0lt, true_or, or_true, false_or, or_false, true_and, and_true, false_and, and_false, eq_self, not_true_eq_false, not_false_eq_true, qz0, qz1, q00, q01, q10, q11, zb_z, zb_0, zb_1, zor, Bool.true_eq_false, Bool.false_eq_true, Bool.and_true, Bool.and_false, Bool.true_and, Bool.false_and, Bool.or_true, Bool.or_false, Bool.true_or, Bool.false_or, decide_eq_true_eq, decide_eq_false_iff_not, reduceCtorEq]; done) | (simp (disch := omega) only [lk_128 hL, c1, mK_si, mN_si, mP_si, mT_si, mU_si, mK_sp, mN_sp, mI_sp, mT_sp, mU_sp, qadd, qmul, qcl, qle, qlt, qeq, qlt0, q0le, qeq0, qle0, q0lt, true_or, or_true, false_or, or_false, true_and, and_true, false_and, and_false, eq_self, not_true_eq_false, not_false_eq_true, qz0, qz1, q00, q01, q10, q11, zb_z, zb_0, zb_1, zor, Bool.true_eq_false, Bool.false_eq_true, Bool.and_true, Bool.and_false, Bool.true_and, Bool.false_and, Bool.or_true, Bool.or_false, Bool.true_or, Bool.false_or, decide_eq_true_eq, decide_eq_false_iff_not, reduceCtorEq]; omega))))
  rw [b1]
  repeat (first | with_reducible refine hE ?_ | with_reducible refine hLi ?_ | (with_reducible apply hT; · (first | omega | (simp (disch := omega) only [lk_128 hL, c2, mK_si, mN_si, mP_si, mT_si, mU_si, mK_sp, mN_sp, mI_sp, mT_sp, mU_sp, qadd, qmul, qcl, qle, qlt, qeq, qlt0, q0le, qeq0, qle0, q0lt, true_or, or_true, false_or, or_false, true_and, and_true, false_and, and_false, eq_self, not_true_eq_false, not_false_eq_true, qz0, qz1, q00, q01, q10, q11, zb_z, zb_0, zb_1, zor, Bool.true_eq_false, Bool.false_eq_true, Bool.and_true, Bool.and_false, Bool.true_and, Bool.false_and, Bool.or_true, Bool.or_false, Bool.true_or, Bool.false_or, decide_eq_true_eq, decide_eq_false_iff_not, reduceCtorEq]; done) | (simp (disch := omega) only [lk_128 hL, c2, mK_si, mN_si, mP_si, mT_si, mU_si, mK_sp, mN_sp, mI_sp, mT_sp, mU_sp, qadd, qmul, qcl, qle, qlt, qeq, qlt0, q0le, qeq0, qle0, q0lt, true_or, or_true, false_or, or_false, true_and, and_true, false_and, and_false, eq_self, not_true_eq_false, not_false_eq_true, qz0, qz1, q00, q01, q10, q11, zb_z, zb_0, zb_1, zor, Bool.true_eq_false, Bool.false_eq_true, Bool.and_true, Bool.and_false, Bool.true_and, Bool.false_and, Bool.or_true, Bool.or_false, Bool.true_or, Bool.false_or, decide_eq_true_eq, decide_eq_false_iff_not, reduceCtorEq]; omega))) | (with_reducible apply hF; · (first | omega | (simp (disch := omega) only [lk_128 hL, c2, mK_si, mN_si, mP_si, mT_si, mU_si, mK_sp, mN_sp, mI_sp, mT_sp, mU_sp, qadd, qmul, qcl, qle, qlt, qeq, qlt0, q0le, qeq0, qle0, q0lt, true_or, or_true, false_or, or_false, true_and, and_true, false_and, and_false, eq_self, not_true_eq_false, not_false_eq_true, qz0, qz1, q00, q01, q10, q11, zb_z, zb_0, zb_1, zor, Bool.true_eq_false, Bool.false_eq_true, Bool.and_true, Bool.and_false, Bool.true_and, Bool.false_and, Bool.or_true, Bool.or_false, Bool.true_or, Bool.false_or, decide_eq_true_eq, decide_eq_false_iff_not, reduceCtorEq]; done) | (simp (disch := omega) only [lk_128 hL, c2, mK_si, mN_si, mP_si, mT_si, mU_si, mK_sp, mN_sp, mI_sp, mT_sp, mU_sp, qadd, qmul, qcl, qle, qlt, qeq, qlt0, q0le, qeq0, qle0, q0lt, true_or, or_true, false_or, or_false, true_and, and_true, false_and, and_false, eq_self, not_true_eq_false, not_false_eq_true, qz0, qz1, q00, q01, q10, q11, zb_z, zb_0, zb_1, zor, Bool.true_eq_false, Bool.false_eq_true, Bool.and_true, Bool.and_false, Bool.true_and, Bool.false_and, Bool.or_true, Bool.or_false, Bool.true_or, Bool.false_or, decide_eq_true_eq, decide_eq_false_iff_not, reduceCtorEq]; omega))))
  rw [c3]
theorem s_ends {g : mh} {s : Ps} (c : NR T n g s) (hL : Lay g) (d : Nat) : ∃ g', N_ends (d + 2) 128 g = some (none, g') ∧ Fi Wnz g g' ∧ NZ g' (if s.1 = n then Sum.inr s else Sum.inl (1, s.1)) := by
  obtain ⟨⟨c0, c1, c2, c3⟩, ⟨c4, c5, c6⟩, c7, c8⟩ := id c
  by_cases z : s.1 = n
  · rw [if_pos z]
    have b1 : mI (msi g 128 14 (nI 0)) 128 12 = nI 0 := by rw [mI_si, if_neg (by omega)]; exact c6
    have e : ∀ x k, ¬ (x = 128 ∧ (k = 14 ∨ k = 15)) → mI (msi (msi g 128 14 (nI 0)) 128 15 (-1)) x k = mI g x k := fun x k w => by rw [mI_si, if_neg (by omega), mI_si, if_neg (by omega)]
    refine ⟨msi (msi g 128 14 (nI 0)) 128 15 (-1), ?_, (Fi.si (Or.inl ⟨rfl, by omega, by omega⟩)).tr (Fi.si (Or.inl ⟨rfl, by omega, by omega⟩)), by rw [e _ _ (by omega)]; exact c6, by rw [mI_si, if_neg (by omega), mI_si, if_pos ⟨rfl, rfl⟩], by rw [mI_si, if_pos ⟨rfl, rfl⟩], by rw [e _ _ (by omega)]; exact c4, c5, fun i hi => by rw [e _ _ (by omega)]; exact c8 i hi⟩
    rw [e_N_ends]
    repeat (first | with_reducible refine hE ?_ | with_reducible refine hLi ?_ | (with_reducible apply hT; · (first | omega | (simp (disch := omega) only [lk_128 hL, c6, c1, c2, mK_si, mN_si, mP_si, mT_si, mU_si, mK_sp, mN_sp, mI_sp, mT_sp, mU_sp, qadd, qmul, qcl, qle, qlt, qeq, qlt0, q0le, qeq0, qle0, q0lt, true_or, or_true, false_or, or_false, true_and, and_true, false_and, and_false, eq_self, not_true_eq_false, not_false_eq_true, qz0, qz1, q00, q01, q10, q11, zb_z, zb_0, zb_1, zor, Bool.true_eq_false, Bool.false_eq_true, Bool.and_true, Bool.and_false, Bool.true_and, Bool.false_and, Bool.or_true, Bool.or_false, Bool.true_or, Bool.false_or, decide_eq_true_eq, decide_eq_false_iff_not, reduceCtorEq]; done) | (simp (disch := omega) only [lk_128 hL, c6, c1, c2, mK_si, mN_si, mP_si, mT_si, mU_si, mK_sp, mN_sp, mI_sp, mT_sp, mU_sp, qadd, qmul, qcl, qle, qlt, qeq, qlt0, q0le, qeq0, qle0, q0lt, true_or, or_true, false_or, or_false, true_and, and_true, false_and, and_false, eq_self, not_true_eq_false, not_false_eq_true, qz0, qz1, q00, q01, q10, q11, zb_z, zb_0, zb_1, zor, Bool.true_eq_false, Bool.false_eq_true, Bool.and_true, Bool.and_false, Bool.true_and, Bool.false_and, Bool.or_true, Bool.or_false, Bool.true_or, Bool.false_or, decide_eq_true_eq, decide_eq_false_iff_not, reduceCtorEq]; omega))) | (with_reducible apply hF; · (first | omega | (simp (disch := omega) only [lk_128 hL, c6, c1, c2, mK_si, mN_si, mP_si, mT_si, mU_si, mK_sp, mN_sp, mI_sp, mT_sp, mU_sp, qadd, qmul, qcl, qle, qlt, qeq, qlt0, q0le, qeq0, qle0, q0lt, true_or, or_true, false_or, or_false, true_and, and_true, false_and, and_false, eq_self, not_true_eq_false, not_false_eq_true, qz0, qz1, q00, q01, q10, q11, zb_z, zb_0, zb_1, zor, Bool.true_eq_false, Bool.false_eq_true, Bool.and_true, Bool.and_false, Bool.true_and, Bool.false_and, Bool.or_true, Bool.or_false, Bool.true_or, Bool.false_or, decide_eq_true_eq, decide_eq_false_iff_not, reduceCtorEq]; done) | (simp (disch := omega) only [lk_128 hL, c6, c1, c2, mK_si, mN_si, mP_si, mT_si, mU_si, mK_sp, mN_sp, mI_sp, mT_sp, mU_sp, qadd, qmul, qcl, qle, qlt, qeq, qlt0, q0le, qeq0, qle0, q0lt, true_or, or_true, false_or, or_false, true_and, and_true, false_and, and_false, eq_self, not_true_eq_false, not_false_eq_true, qz0, qz1, q00, q01, q10, q11, zb_z, zb_0, zb_1, zor, Bool.true_eq_false, Bool.false_eq_true, Bool.and_true, Bool.and_false, Bool.true_and, Bool.false_and, Bool.or_true, Bool.or_false, Bool.true_or, Bool.false_or, decide_eq_true_eq, decide_eq_false_iff_not, reduceCtorEq]; omega))))
    rw [c6]
    repeat (first | with_reducible refine hE ?_ | with_reducible refine hLi ?_ | (with_reducible apply hT; · (first | omega | (simp (disch := omega) only [lk_128 hL, b1, mK_si, mN_si, mP_si, mT_si, mU_si, mK_sp, mN_sp, mI_sp, mT_sp, mU_sp, qadd, qmul, qcl, qle, qlt, qeq, qlt0, q0le, qeq0, qle0, q0lt, true_or, or_true, false_or, or_false, true_and, and_true, false_and, and_false, eq_self, not_true_eq_false, not_false_eq_true, qz0, qz1, q00, q01, q10, q11, zb_z, zb_0, zb_1, zor, Bool.true_eq_false, Bool.false_eq_true, Bool.and_true, Bool.and_false, Bool.true_and, Bool.false_and, Bool.or_true, Bool.or_false, Bool.true_or, Bool.false_or, decide_eq_true_eq, decide_eq_false_iff_not, reduceCtorEq]; done) | (simp (disch := omega) only [lk_128 hL, b1, mK_si, mN_si, mP_si, mT_si, mU_si, mK_sp, mN_sp, mI_sp, mT_sp, mU_sp, qadd, qmul, qcl, qle, qlt, qeq, qlt0, q0le, qeq0, qle0, q0lt, true_or, or_true, false_or, or_false, true_and, and_true, false_and, and_false, eq_self, not_true_eq_false, not_false_eq_true, qz0, qz1, q00, q01, q10, q11, zb_z, zb_0, zb_1, zor, Bool.true_eq_false, Bool.false_eq_true, Bool.and_true, Bool.and_false, Bool.true_and, Bool.false_and, Bool.or_true, Bool.or_false, Bool.true_or, Bool.false_or, decide_eq_true_eq, decide_eq_false_iff_not, reduceCtorEq]; omega))) | (with_reducible apply hF; · (first | omega | (simp (disch := omega) only [lk_128 hL, b1, mK_si, mN_si, mP_si, mT_si, mU_si, mK_sp, mN_sp, mI_sp, mT_sp, mU_sp, qadd, qmul, qcl, qle, qlt, qeq, qlt0, q0le, qeq0, qle0, q0lt, true_or, or_true, false_or, or_false, true_and, and_true, false_and, and_false, eq_self, not_true_eq_false, not_false_eq_true, qz0, qz1, q00, q01, q10, q11, zb_z, zb_0, zb_1, zor, Bool.true_eq_false, Bool.false_eq_true, Bool.and_true, Bool.and_false, Bool.true_and, Bool.false_and, Bool.or_true, Bool.or_false, Bool.true_or, Bool.false_or, decide_eq_true_eq, decide_eq_false_iff_not, reduceCtorEq]; done) | (simp (disch := omega) only [lk_128 hL, b1, mK_si, mN_si, mP_si, mT_si, mU_si, mK_sp, mN_sp, mI_sp, mT_sp, mU_sp, qadd, qmul, qcl, qle, qlt, qeq, qlt0, q0le, qeq0, qle0, q0lt, true_or, or_true, false_or, or_false, true_and, and_true, false_and, and_false, eq_self, not_true_eq_false, not_false_eq_true, qz0, qz1, q00, q01, q10, q11, zb_z, zb_0, zb_1, zor, Bool.true_eq_false, Bool.false_eq_true, Bool.and_true, Bool.and_false, Bool.true_and, Bool.false_and, Bool.or_true, Bool.or_false, Bool.true_or, Bool.false_or, decide_eq_true_eq, decide_eq_false_iff_not, reduceCtorEq]; omega))))
    rfl
  · rw [if_neg z]
    obtain ⟨g1, e1, f1, d1, r1⟩ := s_fails c hL (k := 1) (by decide) (by decide) d
    have hL1 := f1.lay hL
    have r1 : NF g1 (1, s.1) := r1
    obtain ⟨g2, e2, f2, z2⟩ := s_endsF r1 hL1 (d + 1)
    refine ⟨g2, ?_, (f1.mo (fun x k z => by unfold Wnr at z; unfold Wnz; omega)).tr f2, z2⟩
    have cn := r1.ne
    rw [← e2, e_N_ends, e_N_ends]
    repeat (first | with_reducible refine hE ?_ | with_reducible refine hLi ?_ | (with_reducible apply hI; · (first | exact e1 | (simp (disch := omega) only [lk_128 hL, c6, c1, c2, qadd, qmul, qcl, qle, qlt, qeq, qlt0, q0le, qeq0, qle0, q0lt, true_or, or_true, false_or, or_false, true_and, and_true, false_and, and_false, eq_self, not_true_eq_false, not_false_eq_true, qz0, qz1, q00, q01, q10, q11, zb_z, zb_0, zb_1, zor, Bool.true_eq_false, Bool.false_eq_true, Bool.and_true, Bool.and_false, Bool.true_and, Bool.false_and, Bool.or_true, Bool.or_false, Bool.true_or, Bool.false_or, decide_eq_true_eq, decide_eq_false_iff_not, reduceCtorEq]; first | exact e1))) | (with_reducible apply hP; · (first | exact e1 | (simp (disch := omega) only [lk_128 hL, c6, c1, c2, qadd, qmul, qcl, qle, qlt, qeq, qlt0, q0le, qeq0, qle0, q0lt, true_or, or_true, false_or, or_false, true_and, and_true, false_and, and_false, eq_self, not_true_eq_false, not_false_eq_true, qz0, qz1, q00, q01, q10, q11, zb_z, zb_0, zb_1, zor, Bool.true_eq_false, Bool.false_eq_true, Bool.and_true, Bool.and_false, Bool.true_and, Bool.false_and, Bool.or_true, Bool.or_false, Bool.true_or, Bool.false_or, decide_eq_true_eq, decide_eq_false_iff_not, reduceCtorEq]; first | exact e1))) | (with_reducible apply hV; · (first | exact e1 | (simp (disch := omega) only [lk_128 hL, c6, c1, c2, qadd, qmul, qcl, qle, qlt, qeq, qlt0, q0le, qeq0, qle0, q0lt, true_or, or_true, false_or, or_false, true_and, and_true, false_and, and_false, eq_self, not_true_eq_false, not_false_eq_true, qz0, qz1, q00, q01, q10, q11, zb_z, zb_0, zb_1, zor, Bool.true_eq_false, Bool.false_eq_true, Bool.and_true, Bool.and_false, Bool.true_and, Bool.false_and, Bool.or_true, Bool.or_false, Bool.true_or, Bool.false_or, decide_eq_true_eq, decide_eq_false_iff_not, reduceCtorEq]; first | exact e1))) | (with_reducible apply hT; · (first | omega | (simp (disch := omega) only [lk_128 hL, c6, c1, c2, qadd, qmul, qcl, qle, qlt, qeq, qlt0, q0le, qeq0, qle0, q0lt, true_or, or_true, false_or, or_false, true_and, and_true, false_and, and_false, eq_self, not_true_eq_false, not_false_eq_true, qz0, qz1, q00, q01, q10, q11, zb_z, zb_0, zb_1, zor, Bool.true_eq_false, Bool.false_eq_true, Bool.and_true, Bool.and_false, Bool.true_and, Bool.false_and, Bool.or_true, Bool.or_false, Bool.true_or, Bool.false_or, decide_eq_true_eq, decide_eq_false_iff_not, reduceCtorEq]; done) | (simp (disch := omega) only [lk_128 hL, c6, c1, c2, qadd, qmul, qcl, qle, qlt, qeq, qlt0, q0le, qeq0, qle0, q0lt, true_or, or_true, false_or, or_false, true_and, and_true, false_and, and_false, eq_self, not_true_eq_false, not_false_eq_true, qz0, qz1, q00, q01, q10, q11, zb_z, zb_0, zb_1, zor, Bool.true_eq_false, Bool.false_eq_true, Bool.and_true, Bool.and_false, Bool.true_and, Bool.false_and, Bool.or_true, Bool.or_false, Bool.true_or, Bool.false_or, decide_eq_true_eq, decide_eq_false_iff_not, reduceCtorEq]; omega))) | (with_reducible apply hF; · (first | omega | (simp (disch := omega) only [lk_128 hL, c6, c1, c2, qadd, qmul, qcl, qle, qlt, qeq, qlt0, q0le, qeq0, qle0, q0lt, true_or, or_true, false_or, or_false, true_and, and_true, false_and, and_false, eq_self, not_true_eq_false, not_false_eq_true, qz0, qz1, q00, q01, q10, q11, zb_z, zb_0, zb_1, zor, Bool.true_eq_false, Bool.false_eq_true, Bool.and_true, Bool.and_false, Bool.true_and, Bool.false_and, Bool.or_true, Bool.or_false, Bool.true_or, Bool.false_or, decide_eq_true_eq, decide_eq_false_iff_not, reduceCtorEq]; done) | (simp (disch := omega) only [lk_128 hL, c6, c1, c2, qadd, qmul, qcl, qle, qlt, qeq, qlt0, q0le, qeq0, qle0, q0lt, true_or, or_true, false_or, or_false, true_and, and_true, false_and, and_false, eq_self, not_true_eq_false, not_false_eq_true, qz0, qz1, q00, q01, q10, q11, zb_z, zb_0, zb_1, zor, Bool.true_eq_false, Bool.false_eq_true, Bool.and_true, Bool.and_false, Bool.true_and, Bool.false_and, Bool.or_true, Bool.or_false, Bool.true_or, Bool.false_or, decide_eq_true_eq, decide_eq_false_iff_not, reduceCtorEq]; omega))))
    rw [if_pos (lk_128 hL1), if_pos (lk_128 hL1)]
    rw [if_pos (lk_128 hL1), if_neg (by rw [cn]; exact id)]
/-- behind a literal -/
def pD (T : List Nat) (n : Nat) (j : Nat) (s : Ps) : Pr := if s.1 = n then Sum.inr s else if lkb T n s.1 = some 124 then (if j = 0 then Sum.inl (2, s.1) else pC T n j (s.1 + 1, s.2)) else Sum.inl (1, s.1)
theorem pC_s (j : Nat) (s : Ps) : pC T n (j + 1) s = bnd (pL T n s) (pD T n j) := rfl
theorem s_rc9F (d : Nat) (o1 : Option mv) (x2 : Int32) {g : mh} {e : Nat × Nat} (c : NF g e) (hL : Lay g) : ∃ g', N_readsClause_9 (d + 1) 128 o1 x2 g = some (none, g') ∧ Fi Wnz g g' ∧ NZ g' (Sum.inl e) := by
  obtain ⟨g', e1, f1, z1⟩ := s_endsF c hL d
  have c1 := c.ne
  refine ⟨g', ?_, f1, z1⟩
  rw [e_N_readsClause_9]
  repeat (first | with_reducible refine hE ?_ | with_reducible refine hLi ?_ | (with_reducible apply hI; · (first | exact e1 | (simp (disch := omega) only [lk_128 hL, c1, qadd, qmul, qcl, qle, qlt, qeq, qlt0, q0le, qeq0, qle0, q0lt, true_or, or_true, false_or, or_false, true_and, and_true, false_and, and_false, eq_self, not_true_eq_false, not_false_eq_true, qz0, qz1, q00, q01, q10, q11, zb_z, zb_0, zb_1, zor, Bool.true_eq_false, Bool.false_eq_true, Bool.and_true, Bool.and_false, Bool.true_and, Bool.false_and, Bool.or_true, Bool.or_false, Bool.true_or, Bool.false_or, decide_eq_true_eq, decide_eq_false_iff_not, reduceCtorEq]; first | exact e1))) | (with_reducible apply hP; · (first | exact e1 | (simp (disch := omega) only [lk_128 hL, c1, qadd, qmul, qcl, qle, qlt, qeq, qlt0, q0le, qeq0, qle0, q0lt, true_or, or_true, false_or, or_false, true_and, and_true, false_and, and_false, eq_self, not_true_eq_false, not_false_eq_true, qz0, qz1, q00, q01, q10, q11, zb_z, zb_0, zb_1, zor, Bool.true_eq_false, Bool.false_eq_true, Bool.and_true, Bool.and_false, Bool.true_and, Bool.false_and, Bool.or_true, Bool.or_false, Bool.true_or, Bool.false_or, decide_eq_true_eq, decide_eq_false_iff_not, reduceCtorEq]; first | exact e1))) | (with_reducible apply hV; · (first | exact e1 | (simp (disch := omega) only [lk_128 hL, c1, qadd, qmul, qcl, qle, qlt, qeq, qlt0, q0le, qeq0, qle0, q0lt, true_or, or_true, false_or, or_false, true_and, and_true, false_and, and_false, eq_self, not_true_eq_false, not_false_eq_true, qz0, qz1, q00, q01, q10, q11, zb_z, zb_0, zb_1, zor, Bool.true_eq_false, Bool.false_eq_true, Bool.and_true, Bool.and_false, Bool.true_and, Bool.false_and, Bool.or_true, Bool.or_false, Bool.true_or, Bool.false_or, decide_eq_true_eq, decide_eq_false_iff_not, reduceCtorEq]; first | exact e1))) | (with_reducible apply hT; · (first | omega | (simp (disch := omega) only [lk_128 hL, c1, qadd, qmul, qcl, qle, qlt, qeq, qlt0, q0le, qeq0, qle0, q0lt, true_or, or_true, false_or, or_false, true_and, and_true, false_and, and_false, eq_self, not_true_eq_false, not_false_eq_true, qz0, qz1, q00, q01, q10, q11, zb_z, zb_0, zb_1, zor, Bool.true_eq_false, Bool.false_eq_true, Bool.and_true, Bool.and_false, Bool.true_and, Bool.false_and, Bool.or_true, Bool.or_false, Bool.true_or, Bool.false_or, decide_eq_true_eq, decide_eq_false_iff_not, reduceCtorEq]; done) | (simp (disch := omega) only [lk_128 hL, c1, qadd, qmul, qcl, qle, qlt, qeq, qlt0, q0le, qeq0, qle0, q0lt, true_or, or_true, false_or, or_false, true_and, and_true, false_and, and_false, eq_self, not_true_eq_false, not_false_eq_true, qz0, qz1, q00, q01, q10, q11, zb_z, zb_0, zb_1, zor, Bool.true_eq_false, Bool.false_eq_true, Bool.and_true, Bool.and_false, Bool.true_and, Bool.false_and, Bool.or_true, Bool.or_false, Bool.true_or, Bool.false_or, decide_eq_true_eq, decide_eq_false_iff_not, reduceCtorEq]; omega))) | (with_reducible apply hF; · (first | omega | (simp (disch := omega) only [lk_128 hL, c1, qadd, qmul, qcl, qle, qlt, qeq, qlt0, q0le, qeq0, qle0, q0lt, true_or, or_true, false_or, or_false, true_and, and_true, false_and, and_false, eq_self, not_true_eq_false, not_false_eq_true, qz0, qz1, q00, q01, q10, q11, zb_z, zb_0, zb_1, zor, Bool.true_eq_false, Bool.false_eq_true, Bool.and_true, Bool.and_false, Bool.true_and, Bool.false_and, Bool.or_true, Bool.or_false, Bool.true_or, Bool.false_or, decide_eq_true_eq, decide_eq_false_iff_not, reduceCtorEq]; done) | (simp (disch := omega) only [lk_128 hL, c1, qadd, qmul, qcl, qle, qlt, qeq, qlt0, q0le, qeq0, qle0, q0lt, true_or, or_true, false_or, or_false, true_and, and_true, false_and, and_false, eq_self, not_true_eq_false, not_false_eq_true, qz0, qz1, q00, q01, q10, q11, zb_z, zb_0, zb_1, zor, Bool.true_eq_false, Bool.false_eq_true, Bool.and_true, Bool.and_false, Bool.true_and, Bool.false_and, Bool.or_true, Bool.or_false, Bool.true_or, Bool.false_or, decide_eq_true_eq, decide_eq_false_iff_not, reduceCtorEq]; omega))))
  rfl
theorem s_rc9 (d : Nat) (o1 : Option mv) : ∀ j, j < 5 → ∀ g s, Lay g → mI g 128 11 = nI 0 → NR T n g s → ∃ g', N_readsClause_9 (d + 17) 128 o1 (nI (5 - j)) g = some (none, g') ∧ Fi Wnz g g' ∧ NZ g' (pD T n j s) := by
  intro j
  induction j with
  | zero =>
    intro _ g s hL hdd c
    obtain ⟨e1, b1⟩ := c.see hL (d + 16)
    have c6 := c.2.1.2.2
    unfold pD
    by_cases w : lkb T n s.1 = some 124
    · have hne : ¬ s.1 = n := by have := (lkb_s w).1; omega
      rw [if_neg hne, if_pos w, if_pos rfl]
      rw [w] at e1
      have e1 : N_see (d + 17) 128 g = some (some (vi (nI 124)), g) := e1
      obtain ⟨g1, e2, f2, d2, r2⟩ := s_fails c hL (k := 2) (by decide) (by decide) (d + 16)
      have r2 : NF g1 (2, s.1) := r2
      have hL1 := f2.lay hL
      obtain ⟨g2, e3, f3, z3⟩ := s_rc9F (d + 16) o1 (nI (5 - 0) + nI 1) r2 hL1
      have cn := r2.ne
      refine ⟨g2, ?_, (f2.mo (fun x k z => by unfold Wnr at z; unfold Wnz; omega)).tr f3, z3⟩
      rw [e_N_readsClause_9]
      repeat (first | with_reducible refine hE ?_ | with_reducible refine hLi ?_ | (with_reducible apply hI; · (first | exact e1 | exact e2 | (simp (disch := omega) only [lk_128 hL, c6, lk_128 hL1, cn, qadd, qmul, qcl, qle, qlt, qeq, qlt0, q0le, qeq0, qle0, q0lt, true_or, or_true, false_or, or_false, true_and, and_true, false_and, and_false, eq_self, not_true_eq_false, not_false_eq_true, qz0, qz1, q00, q01, q10, q11, zb_z, zb_0, zb_1, zor, Bool.true_eq_false, Bool.false_eq_true, Bool.and_true, Bool.and_false, Bool.true_and, Bool.false_and, Bool.or_true, Bool.or_false, Bool.true_or, Bool.false_or, decide_eq_true_eq, decide_eq_false_iff_not, reduceCtorEq]; first | exact e1 | exact e2))) | (with_reducible apply hP; · (first | exact e1 | exact e2 | (simp (disch := omega) only [lk_128 hL, c6, lk_128 hL1, cn, qadd, qmul, qcl, qle, qlt, qeq, qlt0, q0le, qeq0, qle0, q0lt, true_or, or_true, false_or, or_false, true_and, and_true, false_and, and_false, eq_self, not_true_eq_false, not_false_eq_true, qz0, qz1, q00, q01, q10, q11, zb_z, zb_0, zb_1, zor, Bool.true_eq_false, Bool.false_eq_true, Bool.and_true, Bool.and_false, Bool.true_and, Bool.false_and, Bool.or_true, Bool.or_false, Bool.true_or, Bool.false_or, decide_eq_true_eq, decide_eq_false_iff_not, reduceCtorEq]; first | exact e1 | exact e2))) | (with_reducible apply hV; · (first | exact e1 | exact e2 | (simp (disch := omega) only [lk_128 hL, c6, lk_128 hL1, cn, qadd, qmul, qcl, qle, qlt, qeq, qlt0, q0le, qeq0, qle0, q0lt, true_or, or_true, false_or, or_false, true_and, and_true, false_and, and_false, eq_self, not_true_eq_false, not_false_eq_true, qz0, qz1, q00, q01, q10, q11, zb_z, zb_0, zb_1, zor, Bool.true_eq_false, Bool.false_eq_true, Bool.and_true, Bool.and_false, Bool.true_and, Bool.false_and, Bool.or_true, Bool.or_false, Bool.true_or, Bool.false_or, decide_eq_true_eq, decide_eq_false_iff_not, reduceCtorEq]; first | exact e1 | exact e2))) | (with_reducible apply hT; · (first | omega | (simp (disch := omega) only [lk_128 hL, c6, lk_128 hL1, cn, qadd, qmul, qcl, qle, qlt, qeq, qlt0, q0le, qeq0, qle0, q0lt, true_or, or_true, false_or, or_false, true_and, and_true, false_and, and_false, eq_self, not_true_eq_false, not_false_eq_true, qz0, qz1, q00, q01, q10, q11, zb_z, zb_0, zb_1, zor, Bool.true_eq_false, Bool.false_eq_true, Bool.and_true, Bool.and_false, Bool.true_and, Bool.false_and, Bool.or_true, Bool.or_false, Bool.true_or, Bool.false_or, decide_eq_true_eq, decide_eq_false_iff_not, reduceCtorEq]; done) | (simp (disch := omega) only [lk_128 hL, c6, lk_128 hL1, cn, qadd, qmul, qcl, qle, qlt, qeq, qlt0, q0le, qeq0, qle0, q0lt, true_or, or_true, false_or, or_false, true_and, and_true, false_and, and_false, eq_self, not_true_eq_false, not_false_eq_true, qz0, qz1, q00, q01, q10, q11, zb_z, zb_0, zb_1, zor, Bool.true_eq_false, Bool.false_eq_true, Bool.and_true, Bool.and_false, Bool.true_and, Bool.false_and, Bool.or_true, Bool.or_false, Bool.true_or, Bool.false_or, decide_eq_true_eq, decide_eq_false_iff_not, reduceCtorEq]; omega))) | (with_reducible apply hF; · (first | omega | (simp (disch := omega) only [lk_128 hL, c6, lk_128 hL1, cn, qadd, qmul, qcl, qle, qlt, qeq, qlt0, q0le, qeq0, qle0, q0lt, true_or, or_true, false_or, or_false, true_and, and_true, false_and, and_false, eq_self, not_true_eq_false, not_false_eq_true, qz0, qz1, q00, q01, q10, q11, zb_z, zb_0, zb_1, zor, Bool.true_eq_false, Bool.false_eq_true, Bool.and_true, Bool.and_false, Bool.true_and, Bool.false_and, Bool.or_true, Bool.or_false, Bool.true_or, Bool.false_or, decide_eq_true_eq, decide_eq_false_iff_not, reduceCtorEq]; done) | (simp (disch := omega) only [lk_128 hL, c6, lk_128 hL1, cn, qadd, qmul, qcl, qle, qlt, qeq, qlt0, q0le, qeq0, qle0, q0lt, true_or, or_true, false_or, or_false, true_and, and_true, false_and, and_false, eq_self, not_true_eq_false, not_false_eq_true, qz0, qz1, q00, q01, q10, q11, zb_z, zb_0, zb_1, zor, Bool.true_eq_false, Bool.false_eq_true, Bool.and_true, Bool.and_false, Bool.true_and, Bool.false_and, Bool.or_true, Bool.or_false, Bool.true_or, Bool.false_or, decide_eq_true_eq, decide_eq_false_iff_not, reduceCtorEq]; omega))))
      exact e3
    · have ne := xv_ne b1 (ch := 124) (by decide) w
      obtain ⟨g1, e2, f2, z2⟩ := s_ends c hL (d + 15)
      refine ⟨g1, ?_, f2, ?_⟩
      · rw [e_N_readsClause_9]
        repeat (first | with_reducible refine hE ?_ | with_reducible refine hLi ?_ | (with_reducible apply hI; · (first | exact e1 | exact e2 | (simp (disch := omega) only [lk_128 hL, c6, ne, qadd, qmul, qcl, qle, qlt, qeq, qlt0, q0le, qeq0, qle0, q0lt, true_or, or_true, false_or, or_false, true_and, and_true, false_and, and_false, eq_self, not_true_eq_false, not_false_eq_true, qz0, qz1, q00, q01, q10, q11, zb_z, zb_0, zb_1, zor, Bool.true_eq_false, Bool.false_eq_true, Bool.and_true, Bool.and_false, Bool.true_and, Bool.false_and, Bool.or_true, Bool.or_false, Bool.true_or, Bool.false_or, decide_eq_true_eq, decide_eq_false_iff_not, reduceCtorEq]; first | exact e1 | exact e2))) | (with_reducible apply hP; · (first | exact e1 | exact e2 | (simp (disch := omega) only [lk_128 hL, c6, ne, qadd, qmul, qcl, qle, qlt, qeq, qlt0, q0le, qeq0, qle0, q0lt, true_or, or_true, false_or, or_false, true_and, and_true, false_and, and_false, eq_self, not_true_eq_false, not_false_eq_true, qz0, qz1, q00, q01, q10, q11, zb_z, zb_0, zb_1, zor, Bool.true_eq_false, Bool.false_eq_true, Bool.and_true, Bool.and_false, Bool.true_and, Bool.false_and, Bool.or_true, Bool.or_false, Bool.true_or, Bool.false_or, decide_eq_true_eq, decide_eq_false_iff_not, reduceCtorEq]; first | exact e1 | exact e2))) | (with_reducible apply hV; · (first | exact e1 | exact e2 | (simp (disch := omega) only [lk_128 hL, c6, ne, qadd, qmul, qcl, qle, qlt, qeq, qlt0, q0le, qeq0, qle0, q0lt, true_or, or_true, false_or, or_false, true_and, and_true, false_and, and_false, eq_self, not_true_eq_false, not_false_eq_true, qz0, qz1, q00, q01, q10, q11, zb_z, zb_0, zb_1, zor, Bool.true_eq_false, Bool.false_eq_true, Bool.and_true, Bool.and_false, Bool.true_and, Bool.false_and, Bool.or_true, Bool.or_false, Bool.true_or, Bool.false_or, decide_eq_true_eq, decide_eq_false_iff_not, reduceCtorEq]; first | exact e1 | exact e2))) | (with_reducible apply hT; · (first | omega | (simp (disch := omega) only [lk_128 hL, c6, ne, qadd, qmul, qcl, qle, qlt, qeq, qlt0, q0le, qeq0, qle0, q0lt, true_or, or_true, false_or, or_false, true_and, and_true, false_and, and_false, eq_self, not_true_eq_false, not_false_eq_true, qz0, qz1, q00, q01, q10, q11, zb_z, zb_0, zb_1, zor, Bool.true_eq_false, Bool.false_eq_true, Bool.and_true, Bool.and_false, Bool.true_and, Bool.false_and, Bool.or_true, Bool.or_false, Bool.true_or, Bool.false_or, decide_eq_true_eq, decide_eq_false_iff_not, reduceCtorEq]; done) | (simp (disch := omega) only [lk_128 hL, c6, ne, qadd, qmul, qcl, qle, qlt, qeq, qlt0, q0le, qeq0, qle0, q0lt, true_or, or_true, false_or, or_false, true_and, and_true, false_and, and_false, eq_self, not_true_eq_false, not_false_eq_true, qz0, qz1, q00, q01, q10, q11, zb_z, zb_0, zb_1, zor, Bool.true_eq_false, Bool.false_eq_true, Bool.and_true, Bool.and_false, Bool.true_and, Bool.false_and, Bool.or_true, Bool.or_false, Bool.true_or, Bool.false_or, decide_eq_true_eq, decide_eq_false_iff_not, reduceCtorEq]; omega))) | (with_reducible apply hF; · (first | omega | (simp (disch := omega) only [lk_128 hL, c6, ne, qadd, qmul, qcl, qle, qlt, qeq, qlt0, q0le, qeq0, qle0, q0lt, true_or, or_true, false_or, or_false, true_and, and_true, false_and, and_false, eq_self, not_true_eq_false, not_false_eq_true, qz0, qz1, q00, q01, q10, q11, zb_z, zb_0, zb_1, zor, Bool.true_eq_false, Bool.false_eq_true, Bool.and_true, Bool.and_false, Bool.true_and, Bool.false_and, Bool.or_true, Bool.or_false, Bool.true_or, Bool.false_or, decide_eq_true_eq, decide_eq_false_iff_not, reduceCtorEq]; done) | (simp (disch := omega) only [lk_128 hL, c6, ne, qadd, qmul, qcl, qle, qlt, qeq, qlt0, q0le, qeq0, qle0, q0lt, true_or, or_true, false_or, or_false, true_and, and_true, false_and, and_false, eq_self, not_true_eq_false, not_false_eq_true, qz0, qz1, q00, q01, q10, q11, zb_z, zb_0, zb_1, zor, Bool.true_eq_false, Bool.false_eq_true, Bool.and_true, Bool.and_false, Bool.true_and, Bool.false_and, Bool.or_true, Bool.or_false, Bool.true_or, Bool.false_or, decide_eq_true_eq, decide_eq_false_iff_not, reduceCtorEq]; omega))))
        rfl
      · rw [if_neg w]
        exact z2
  | succ j ih =>
    intro hj g s hL hdd c
    obtain ⟨e1, b1⟩ := c.see hL (d + 16)
    have c6 := c.2.1.2.2
    have c9 := c.1.2.2.1
    unfold pD
    by_cases w : lkb T n s.1 = some 124
    · have hne : ¬ s.1 = n := by have := (lkb_s w).1; omega
      rw [if_neg hne, if_pos w, if_neg (by omega), pC_s]
      rw [w] at e1
      have e1 : N_see (d + 17) 128 g = some (some (vi (nI 124)), g) := e1
      have cA := c.adv (lkb_s w).1
      have f1 : Fi Wnr g (msi g 128 9 (nI (s.1 + 1))) := Fi.si (Or.inl ⟨rfl, by omega, by omega⟩)
      have hL1 := f1.lay hL
      have w12 := cA.2.1.2.2
      obtain ⟨g2, e2, f2, d2, r2⟩ := s_N_readLiteral cA hL1 (by rw [mI_si, if_neg (by omega)]; exact hdd) d
      have hL2 := f2.lay hL1
      have d2' : mI g2 128 11 = nI 0 := by rw [d2, mI_si, if_neg (by omega)]; exact hdd
      have nt : nI (5 - (j + 1)) + nI 1 = nI (5 - j) := by rw [qadd, show 5 - (j + 1) + 1 = 5 - j by omega]
      have n5 : ¬ 5 - (j + 1) = 5 := by omega
      have fz : Fi Wnz g g2 := (f1.tr f2).mo (fun x k z => by unfold Wnr at z; unfold Wnz; omega)
      have tail : ∀ r, (∃ g', N_readsClause_9 (d + 17) 128 o1 (nI (5 - j)) g2 = some (none, g') ∧ Fi Wnz g2 g' ∧ NZ g' r) → ∃ g', N_readsClause_9 (d + 17) 128 o1 (nI (5 - (j + 1))) g = some (none, g') ∧ Fi Wnz g g' ∧ NZ g' r := by
        rintro r ⟨g', e3, f3, z3⟩
        refine ⟨g', ?_, fz.tr f3, z3⟩
        rw [e_N_readsClause_9]
        repeat (first | with_reducible refine hE ?_ | with_reducible refine hLi ?_ | (with_reducible apply hI; · (first | exact e1 | (simp (disch := omega) only [lk_128 hL, c6, n5, qadd, qmul, qcl, qle, qlt, qeq, qlt0, q0le, qeq0, qle0, q0lt, true_or, or_true, false_or, or_false, true_and, and_true, false_and, and_false, eq_self, not_true_eq_false, not_false_eq_true, qz0, qz1, q00, q01, q10, q11, zb_z, zb_0, zb_1, zor, Bool.true_eq_false, Bool.false_eq_true, Bool.and_true, Bool.and_false, Bool.true_and, Bool.false_and, Bool.or_true, Bool.or_false, Bool.true_or, Bool.false_or, decide_eq_true_eq, decide_eq_false_iff_not, reduceCtorEq]; first | exact e1))) | (with_reducible apply hP; · (first | exact e1 | (simp (disch := omega) only [lk_128 hL, c6, n5, qadd, qmul, qcl, qle, qlt, qeq, qlt0, q0le, qeq0, qle0, q0lt, true_or, or_true, false_or, or_false, true_and, and_true, false_and, and_false, eq_self, not_true_eq_false, not_false_eq_true, qz0, qz1, q00, q01, q10, q11, zb_z, zb_0, zb_1, zor, Bool.true_eq_false, Bool.false_eq_true, Bool.and_true, Bool.and_false, Bool.true_and, Bool.false_and, Bool.or_true, Bool.or_false, Bool.true_or, Bool.false_or, decide_eq_true_eq, decide_eq_false_iff_not, reduceCtorEq]; first | exact e1))) | (with_reducible apply hV; · (first | exact e1 | (simp (disch := omega) only [lk_128 hL, c6, n5, qadd, qmul, qcl, qle, qlt, qeq, qlt0, q0le, qeq0, qle0, q0lt, true_or, or_true, false_or, or_false, true_and, and_true, false_and, and_false, eq_self, not_true_eq_false, not_false_eq_true, qz0, qz1, q00, q01, q10, q11, zb_z, zb_0, zb_1, zor, Bool.true_eq_false, Bool.false_eq_true, Bool.and_true, Bool.and_false, Bool.true_and, Bool.false_and, Bool.or_true, Bool.or_false, Bool.true_or, Bool.false_or, decide_eq_true_eq, decide_eq_false_iff_not, reduceCtorEq]; first | exact e1))) | (with_reducible apply hT; · (first | omega | (simp (disch := omega) only [lk_128 hL, c6, n5, qadd, qmul, qcl, qle, qlt, qeq, qlt0, q0le, qeq0, qle0, q0lt, true_or, or_true, false_or, or_false, true_and, and_true, false_and, and_false, eq_self, not_true_eq_false, not_false_eq_true, qz0, qz1, q00, q01, q10, q11, zb_z, zb_0, zb_1, zor, Bool.true_eq_false, Bool.false_eq_true, Bool.and_true, Bool.and_false, Bool.true_and, Bool.false_and, Bool.or_true, Bool.or_false, Bool.true_or, Bool.false_or, decide_eq_true_eq, decide_eq_false_iff_not, reduceCtorEq]; done) | (simp (disch := omega) only [lk_128 hL, c6, n5, qadd, qmul, qcl, qle, qlt, qeq, qlt0, q0le, qeq0, qle0, q0lt, true_or, or_true, false_or, or_false, true_and, and_true, false_and, and_false, eq_self, not_true_eq_false, not_false_eq_true, qz0, qz1, q00, q01, q10, q11, zb_z, zb_0, zb_1, zor, Bool.true_eq_false, Bool.false_eq_true, Bool.and_true, Bool.and_false, Bool.true_and, Bool.false_and, Bool.or_true, Bool.or_false, Bool.true_or, Bool.false_or, decide_eq_true_eq, decide_eq_false_iff_not, reduceCtorEq]; omega))) | (with_reducible apply hF; · (first | omega | (simp (disch := omega) only [lk_128 hL, c6, n5, qadd, qmul, qcl, qle, qlt, qeq, qlt0, q0le, qeq0, qle0, q0lt, true_or, or_true, false_or, or_false, true_and, and_true, false_and, and_false, eq_self, not_true_eq_false, not_false_eq_true, qz0, qz1, q00, q01, q10, q11, zb_z, zb_0, zb_1, zor, Bool.true_eq_false, Bool.false_eq_true, Bool.and_true, Bool.and_false, Bool.true_and, Bool.false_and, Bool.or_true, Bool.or_false, Bool.true_or, Bool.false_or, decide_eq_true_eq, decide_eq_false_iff_not, reduceCtorEq]; done) | (simp (disch := omega) only [lk_128 hL, c6, n5, qadd, qmul, qcl, qle, qlt, qeq, qlt0, q0le, qeq0, qle0, q0lt, true_or, or_true, false_or, or_false, true_and, and_true, false_and, and_false, eq_self, not_true_eq_false, not_false_eq_true, qz0, qz1, q00, q01, q10, q11, zb_z, zb_0, zb_1, zor, Bool.true_eq_false, Bool.false_eq_true, Bool.and_true, Bool.and_false, Bool.true_and, Bool.false_and, Bool.or_true, Bool.or_false, Bool.true_or, Bool.false_or, decide_eq_true_eq, decide_eq_false_iff_not, reduceCtorEq]; omega))))
        rw [c9, qadd]
        repeat (first | with_reducible refine hE ?_ | with_reducible refine hLi ?_ | (with_reducible apply hI; · (first | exact e2 | (simp (disch := omega) only [lk_128 hL1, w12, qadd, qmul, qcl, qle, qlt, qeq, qlt0, q0le, qeq0, qle0, q0lt, true_or, or_true, false_or, or_false, true_and, and_true, false_and, and_false, eq_self, not_true_eq_false, not_false_eq_true, qz0, qz1, q00, q01, q10, q11, zb_z, zb_0, zb_1, zor, Bool.true_eq_false, Bool.false_eq_true, Bool.and_true, Bool.and_false, Bool.true_and, Bool.false_and, Bool.or_true, Bool.or_false, Bool.true_or, Bool.false_or, decide_eq_true_eq, decide_eq_false_iff_not, reduceCtorEq]; first | exact e2))) | (with_reducible apply hP; · (first | exact e2 | (simp (disch := omega) only [lk_128 hL1, w12, qadd, qmul, qcl, qle, qlt, qeq, qlt0, q0le, qeq0, qle0, q0lt, true_or, or_true, false_or, or_false, true_and, and_true, false_and, and_false, eq_self, not_true_eq_false, not_false_eq_true, qz0, qz1, q00, q01, q10, q11, zb_z, zb_0, zb_1, zor, Bool.true_eq_false, Bool.false_eq_true, Bool.and_true, Bool.and_false, Bool.true_and, Bool.false_and, Bool.or_true, Bool.or_false, Bool.true_or, Bool.false_or, decide_eq_true_eq, decide_eq_false_iff_not, reduceCtorEq]; first | exact e2))) | (with_reducible apply hV; · (first | exact e2 | (simp (disch := omega) only [lk_128 hL1, w12, qadd, qmul, qcl, qle, qlt, qeq, qlt0, q0le, qeq0, qle0, q0lt, true_or, or_true, false_or, or_false, true_and, and_true, false_and, and_false, eq_self, not_true_eq_false, not_false_eq_true, qz0, qz1, q00, q01, q10, q11, zb_z, zb_0, zb_1, zor, Bool.true_eq_false, Bool.false_eq_true, Bool.and_true, Bool.and_false, Bool.true_and, Bool.false_and, Bool.or_true, Bool.or_false, Bool.true_or, Bool.false_or, decide_eq_true_eq, decide_eq_false_iff_not, reduceCtorEq]; first | exact e2))) | (with_reducible apply hT; · (first | omega | (simp (disch := omega) only [lk_128 hL1, w12, qadd, qmul, qcl, qle, qlt, qeq, qlt0, q0le, qeq0, qle0, q0lt, true_or, or_true, false_or, or_false, true_and, and_true, false_and, and_false, eq_self, not_true_eq_false, not_false_eq_true, qz0, qz1, q00, q01, q10, q11, zb_z, zb_0, zb_1, zor, Bool.true_eq_false, Bool.false_eq_true, Bool.and_true, Bool.and_false, Bool.true_and, Bool.false_and, Bool.or_true, Bool.or_false, Bool.true_or, Bool.false_or, decide_eq_true_eq, decide_eq_false_iff_not, reduceCtorEq]; done) | (simp (disch := omega) only [lk_128 hL1, w12, qadd, qmul, qcl, qle, qlt, qeq, qlt0, q0le, qeq0, qle0, q0lt, true_or, or_true, false_or, or_false, true_and, and_true, false_and, and_false, eq_self, not_true_eq_false, not_false_eq_true, qz0, qz1, q00, q01, q10, q11, zb_z, zb_0, zb_1, zor, Bool.true_eq_false, Bool.false_eq_true, Bool.and_true, Bool.and_false, Bool.true_and, Bool.false_and, Bool.or_true, Bool.or_false, Bool.true_or, Bool.false_or, decide_eq_true_eq, decide_eq_false_iff_not, reduceCtorEq]; omega))) | (with_reducible apply hF; · (first | omega | (simp (disch := omega) only [lk_128 hL1, w12, qadd, qmul, qcl, qle, qlt, qeq, qlt0, q0le, qeq0, qle0, q0lt, true_or, or_true, false_or, or_false, true_and, and_true, false_and, and_false, eq_self, not_true_eq_false, not_false_eq_true, qz0, qz1, q00, q01, q10, q11, zb_z, zb_0, zb_1, zor, Bool.true_eq_false, Bool.false_eq_true, Bool.and_true, Bool.and_false, Bool.true_and, Bool.false_and, Bool.or_true, Bool.or_false, Bool.true_or, Bool.false_or, decide_eq_true_eq, decide_eq_false_iff_not, reduceCtorEq]; done) | (simp (disch := omega) only [lk_128 hL1, w12, qadd, qmul, qcl, qle, qlt, qeq, qlt0, q0le, qeq0, qle0, q0lt, true_or, or_true, false_or, or_false, true_and, and_true, false_and, and_false, eq_self, not_true_eq_false, not_false_eq_true, qz0, qz1, q00, q01, q10, q11, zb_z, zb_0, zb_1, zor, Bool.true_eq_false, Bool.false_eq_true, Bool.and_true, Bool.and_false, Bool.true_and, Bool.false_and, Bool.or_true, Bool.or_false, Bool.true_or, Bool.false_or, decide_eq_true_eq, decide_eq_false_iff_not, reduceCtorEq]; omega))))
        rw [nt]
        exact e3
      refine tail _ ?_
      cases hx : pL T n (s.1 + 1, s.2) with
      | inl e =>
        rw [hx] at r2
        exact s_rc9F (d + 16) o1 (nI (5 - j)) r2 hL2
      | inr s2 =>
        rw [hx] at r2
        exact ih (by omega) g2 s2 hL2 d2' r2
    · have ne := xv_ne b1 (ch := 124) (by decide) w
      obtain ⟨g1, e2, f2, z2⟩ := s_ends c hL (d + 15)
      refine ⟨g1, ?_, f2, ?_⟩
      · rw [e_N_readsClause_9]
        repeat (first | with_reducible refine hE ?_ | with_reducible refine hLi ?_ | (with_reducible apply hI; · (first | exact e1 | exact e2 | (simp (disch := omega) only [lk_128 hL, c6, ne, qadd, qmul, qcl, qle, qlt, qeq, qlt0, q0le, qeq0, qle0, q0lt, true_or, or_true, false_or, or_false, true_and, and_true, false_and, and_false, eq_self, not_true_eq_false, not_false_eq_true, qz0, qz1, q00, q01, q10, q11, zb_z, zb_0, zb_1, zor, Bool.true_eq_false, Bool.false_eq_true, Bool.and_true, Bool.and_false, Bool.true_and, Bool.false_and, Bool.or_true, Bool.or_false, Bool.true_or, Bool.false_or, decide_eq_true_eq, decide_eq_false_iff_not, reduceCtorEq]; first | exact e1 | exact e2))) | (with_reducible apply hP; · (first | exact e1 | exact e2 | (simp (disch := omega) only [lk_128 hL, c6, ne, qadd, qmul, qcl, qle, qlt, qeq, qlt0, q0le, qeq0, qle0, q0lt, true_or, or_true, false_or, or_false, true_and, and_true, false_and, and_false, eq_self, not_true_eq_false, not_false_eq_true, qz0, qz1, q00, q01, q10, q11, zb_z, zb_0, zb_1, zor, Bool.true_eq_false, Bool.false_eq_true, Bool.and_true, Bool.and_false, Bool.true_and, Bool.false_and, Bool.or_true, Bool.or_false, Bool.true_or, Bool.false_or, decide_eq_true_eq, decide_eq_false_iff_not, reduceCtorEq]; first | exact e1 | exact e2))) | (with_reducible apply hV; · (first | exact e1 | exact e2 | (simp (disch := omega) only [lk_128 hL, c6, ne, qadd, qmul, qcl, qle, qlt, qeq, qlt0, q0le, qeq0, qle0, q0lt, true_or, or_true, false_or, or_false, true_and, and_true, false_and, and_false, eq_self, not_true_eq_false, not_false_eq_true, qz0, qz1, q00, q01, q10, q11, zb_z, zb_0, zb_1, zor, Bool.true_eq_false, Bool.false_eq_true, Bool.and_true, Bool.and_false, Bool.true_and, Bool.false_and, Bool.or_true, Bool.or_false, Bool.true_or, Bool.false_or, decide_eq_true_eq, decide_eq_false_iff_not, reduceCtorEq]; first | exact e1 | exact e2))) | (with_reducible apply hT; · (first | omega | (simp (disch := omega) only [lk_128 hL, c6, ne, qadd, qmul, qcl, qle, qlt, qeq, qlt0, q0le, qeq0, qle0, q0lt, true_or, or_true, false_or, or_false, true_and, and_true, false_and, and_false, eq_self, not_true_eq_false, not_false_eq_true, qz0, qz1, q00, q01, q10, q11, zb_z, zb_0, zb_1, zor, Bool.true_eq_false, Bool.false_eq_true, Bool.and_true, Bool.and_false, Bool.true_and, Bool.false_and, Bool.or_true, Bool.or_false, Bool.true_or, Bool.false_or, decide_eq_true_eq, decide_eq_false_iff_not, reduceCtorEq]; done) | (simp (disch := omega) only [lk_128 hL, c6, ne, qadd, qmul, qcl, qle, qlt, qeq, qlt0, q0le, qeq0, qle0, q0lt, true_or, or_true, false_or, or_false, true_and, and_true, false_and, and_false, eq_self, not_true_eq_false, not_false_eq_true, qz0, qz1, q00, q01, q10, q11, zb_z, zb_0, zb_1, zor, Bool.true_eq_false, Bool.false_eq_true, Bool.and_true, Bool.and_false, Bool.true_and, Bool.false_and, Bool.or_true, Bool.or_false, Bool.true_or, Bool.false_or, decide_eq_true_eq, decide_eq_false_iff_not, reduceCtorEq]; omega))) | (with_reducible apply hF; · (first | omega | (simp (disch := omega) only [lk_128 hL, c6, ne, qadd, qmul, qcl, qle, qlt, qeq, qlt0, q0le, qeq0, qle0, q0lt, true_or, or_true, false_or, or_false, true_and, and_true, false_and, and_false, eq_self, not_true_eq_false, not_false_eq_true, qz0, qz1, q00, q01, q10, q11, zb_z, zb_0, zb_1, zor, Bool.true_eq_false, Bool.false_eq_true, Bool.and_true, Bool.and_false, Bool.true_and, Bool.false_and, Bool.or_true, Bool.or_false, Bool.true_or, Bool.false_or, decide_eq_true_eq, decide_eq_false_iff_not, reduceCtorEq]; done) | (simp (disch := omega) only [lk_128 hL, c6, ne, qadd, qmul, qcl, qle, qlt, qeq, qlt0, q0le, qeq0, qle0, q0lt, true_or, or_true, false_or, or_false, true_and, and_true, false_and, and_false, eq_self, not_true_eq_false, not_false_eq_true, qz0, qz1, q00, q01, q10, q11, zb_z, zb_0, zb_1, zor, Bool.true_eq_false, Bool.false_eq_true, Bool.and_true, Bool.and_false, Bool.true_and, Bool.false_and, Bool.or_true, Bool.or_false, Bool.true_or, Bool.false_or, decide_eq_true_eq, decide_eq_false_iff_not, reduceCtorEq]; omega))))
        rfl
      · rw [if_neg w]
        exact z2
theorem s_begins {g : mh} (hL : Lay g) (t : TN g T) (hn : n ≤ T.length) (d : Nat) : ∃ g', N_begins (d + 1) 128 (nI n) g = some (none, g') ∧ Fi Wnb g g' ∧ NR T n g' (0, [], []) ∧ mI g' 128 7 = nI 0 ∧ mI g' 128 11 = nI 0 := by
  have t1 := t.1
  obtain ⟨G, hG⟩ : ∃ G, G = msi (msi (msi (msi (msi (msi g 128 8 (nI n)) 128 7 (nI 0)) 128 9 (nI 0)) 128 10 (nI 0)) 128 11 (nI 0)) 128 12 (nI 0) := ⟨_, rfl⟩
  have rd : ∀ x k, mI G x k = if x = 128 ∧ k = 12 then nI 0 else if x = 128 ∧ k = 11 then nI 0 else if x = 128 ∧ k = 10 then nI 0 else if x = 128 ∧ k = 9 then nI 0 else if x = 128 ∧ k = 7 then nI 0 else if x = 128 ∧ k = 8 then nI n else mI g x k := fun x k => by rw [hG]; rfl
  refine ⟨G, ?_, ⟨by rw [hG]; rfl, fun x k hw => by unfold Wnb at hw; rw [rd, if_neg (by omega), if_neg (by omega), if_neg (by omega), if_neg (by omega), if_neg (by omega), if_neg (by omega)]⟩, ⟨⟨by omega, ?_, ?_, Nat.zero_le _⟩, ⟨?_, Nat.zero_le _, ?_⟩, fun i hi => ⟨(t.2.2 i (by omega)).1, ?_⟩, fun i hi => absurd hi (Nat.not_lt_zero _)⟩, ?_, ?_⟩
  · rw [e_N_begins]
    repeat (first | with_reducible refine hE ?_ | with_reducible refine hLi ?_ | (with_reducible apply hT; · (first | omega | (simp (disch := omega) only [lk_128 hL, mK_si, mN_si, mP_si, mT_si, mU_si, mK_sp, mN_sp, mI_sp, mT_sp, mU_sp, qadd, qmul, qcl, qle, qlt, qeq, qlt0, q0le, qeq0, qle0, q0lt, true_or, or_true, false_or, or_false, true_and, and_true, false_and, and_false, eq_self, not_true_eq_false, not_false_eq_true, qz0, qz1, q00, q01, q10, q11, zb_z, zb_0, zb_1, zor, Bool.true_eq_false, Bool.false_eq_true, Bool.and_true, Bool.and_false, Bool.true_and, Bool.false_and, Bool.or_true, Bool.or_false, Bool.true_or, Bool.false_or, decide_eq_true_eq, decide_eq_false_iff_not, reduceCtorEq]; done) | (simp (disch := omega) only [lk_128 hL, mK_si, mN_si, mP_si, mT_si, mU_si, mK_sp, mN_sp, mI_sp, mT_sp, mU_sp, qadd, qmul, qcl, qle, qlt, qeq, qlt0, q0le, qeq0, qle0, q0lt, true_or, or_true, false_or, or_false, true_and, and_true, false_and, and_false, eq_self, not_true_eq_false, not_false_eq_true, qz0, qz1, q00, q01, q10, q11, zb_z, zb_0, zb_1, zor, Bool.true_eq_false, Bool.false_eq_true, Bool.and_true, Bool.and_false, Bool.true_and, Bool.false_and, Bool.or_true, Bool.or_false, Bool.true_or, Bool.false_or, decide_eq_true_eq, decide_eq_false_iff_not, reduceCtorEq]; omega))) | (with_reducible apply hF; · (first | omega | (simp (disch := omega) only [lk_128 hL, mK_si, mN_si, mP_si, mT_si, mU_si, mK_sp, mN_sp, mI_sp, mT_sp, mU_sp, qadd, qmul, qcl, qle, qlt, qeq, qlt0, q0le, qeq0, qle0, q0lt, true_or, or_true, false_or, or_false, true_and, and_true, false_and, and_false, eq_self, not_true_eq_false, not_false_eq_true, qz0, qz1, q00, q01, q10, q11, zb_z, zb_0, zb_1, zor, Bool.true_eq_false, Bool.false_eq_true, Bool.and_true, Bool.and_false, Bool.true_and, Bool.false_and, Bool.or_true, Bool.or_false, Bool.true_or, Bool.false_or, decide_eq_true_eq, decide_eq_false_iff_not, reduceCtorEq]; done) | (simp (disch := omega) only [lk_128 hL, mK_si, mN_si, mP_si, mT_si, mU_si, mK_sp, mN_sp, mI_sp, mT_sp, mU_sp, qadd, qmul, qcl, qle, qlt, qeq, qlt0, q0le, qeq0, qle0, q0lt, true_or, or_true, false_or, or_false, true_and, and_true, false_and, and_false, eq_self, not_true_eq_false, not_false_eq_true, qz0, qz1, q00, q01, q10, q11, zb_z, zb_0, zb_1, zor, Bool.true_eq_false, Bool.false_eq_true, Bool.and_true, Bool.and_false, Bool.true_and, Bool.false_and, Bool.or_true, Bool.or_false, Bool.true_or, Bool.false_or, decide_eq_true_eq, decide_eq_false_iff_not, reduceCtorEq]; omega))))
    rw [e_N_begins_15]
    repeat (first | with_reducible refine hE ?_ | with_reducible refine hLi ?_ | (with_reducible apply hT; · (first | omega | (simp (disch := omega) only [lk_128 hL, mK_si, mN_si, mP_si, mT_si, mU_si, mK_sp, mN_sp, mI_sp, mT_sp, mU_sp, qadd, qmul, qcl, qle, qlt, qeq, qlt0, q0le, qeq0, qle0, q0lt, true_or, or_true, false_or, or_false, true_and, and_true, false_and, and_false, eq_self, not_true_eq_false, not_false_eq_true, qz0, qz1, q00, q01, q10, q11, zb_z, zb_0, zb_1, zor, Bool.true_eq_false, Bool.false_eq_true, Bool.and_true, Bool.and_false, Bool.true_and, Bool.false_and, Bool.or_true, Bool.or_false, Bool.true_or, Bool.false_or, decide_eq_true_eq, decide_eq_false_iff_not, reduceCtorEq]; done) | (simp (disch := omega) only [lk_128 hL, mK_si, mN_si, mP_si, mT_si, mU_si, mK_sp, mN_sp, mI_sp, mT_sp, mU_sp, qadd, qmul, qcl, qle, qlt, qeq, qlt0, q0le, qeq0, qle0, q0lt, true_or, or_true, false_or, or_false, true_and, and_true, false_and, and_false, eq_self, not_true_eq_false, not_false_eq_true, qz0, qz1, q00, q01, q10, q11, zb_z, zb_0, zb_1, zor, Bool.true_eq_false, Bool.false_eq_true, Bool.and_true, Bool.and_false, Bool.true_and, Bool.false_and, Bool.or_true, Bool.or_false, Bool.true_or, Bool.false_or, decide_eq_true_eq, decide_eq_false_iff_not, reduceCtorEq]; omega))) | (with_reducible apply hF; · (first | omega | (simp (disch := omega) only [lk_128 hL, mK_si, mN_si, mP_si, mT_si, mU_si, mK_sp, mN_sp, mI_sp, mT_sp, mU_sp, qadd, qmul, qcl, qle, qlt, qeq, qlt0, q0le, qeq0, qle0, q0lt, true_or, or_true, false_or, or_false, true_and, and_true, false_and, and_false, eq_self, not_true_eq_false, not_false_eq_true, qz0, qz1, q00, q01, q10, q11, zb_z, zb_0, zb_1, zor, Bool.true_eq_false, Bool.false_eq_true, Bool.and_true, Bool.and_false, Bool.true_and, Bool.false_and, Bool.or_true, Bool.or_false, Bool.true_or, Bool.false_or, decide_eq_true_eq, decide_eq_false_iff_not, reduceCtorEq]; done) | (simp (disch := omega) only [lk_128 hL, mK_si, mN_si, mP_si, mT_si, mU_si, mK_sp, mN_sp, mI_sp, mT_sp, mU_sp, qadd, qmul, qcl, qle, qlt, qeq, qlt0, q0le, qeq0, qle0, q0lt, true_or, or_true, false_or, or_false, true_and, and_true, false_and, and_false, eq_self, not_true_eq_false, not_false_eq_true, qz0, qz1, q00, q01, q10, q11, zb_z, zb_0, zb_1, zor, Bool.true_eq_false, Bool.false_eq_true, Bool.and_true, Bool.and_false, Bool.true_and, Bool.false_and, Bool.or_true, Bool.or_false, Bool.true_or, Bool.false_or, decide_eq_true_eq, decide_eq_false_iff_not, reduceCtorEq]; omega))))
    rw [hG]
  · rw [rd, if_neg (by omega), if_neg (by omega), if_neg (by omega), if_neg (by omega), if_neg (by omega), if_pos ⟨rfl, rfl⟩]
  · rw [rd, if_neg (by omega), if_neg (by omega), if_neg (by omega), if_pos ⟨rfl, rfl⟩]
  · rw [rd, if_neg (by omega), if_neg (by omega), if_pos ⟨rfl, rfl⟩]
    rfl
  · rw [rd, if_pos ⟨rfl, rfl⟩]
  · rw [rd, if_neg (by omega), if_neg (by omega), if_neg (by omega), if_neg (by omega), if_neg (by omega), if_neg (by omega)]
    exact (t.2.2 i (by omega)).2
  · rw [rd, if_neg (by omega), if_neg (by omega), if_neg (by omega), if_neg (by omega), if_pos ⟨rfl, rfl⟩]
  · rw [rd, if_neg (by omega), if_pos ⟨rfl, rfl⟩]
theorem Wnr_z {g g' : mh} (f : Fi Wnr g g') : Fi Wnz g g' := f.mo (fun x k z => by unfold Wnr at z; unfold Wnz; omega)
theorem Wnz_b {g g' : mh} (f : Fi Wnz g g') : Fi Wnb g g' := f.mo (fun x k z => by unfold Wnz at z; unfold Wnb; omega)
theorem s_readsClause {g : mh} (hL : Lay g) (t : TN g T) (hn : n ≤ T.length) (d : Nat) : ∃ g', N_readsClause (d + 18) 128 (nI n) g = some (none, g') ∧ Fi Wnb g g' ∧ mI g' 128 7 = nI 0 ∧ NZ g' (pcl T n) := by
  obtain ⟨g1, e1, f1, c1, d7, dd⟩ := s_begins hL t hn (d + 16)
  have hL1 := f1.lay hL
  have t1 := t.1
  unfold pcl
  by_cases n0 : n = 0
  · rw [if_pos n0]
    obtain ⟨g2, e2, f2, z2⟩ := s_rc9 d (some (vi (nI n))) 4 (by decide) g1 (0, [], []) hL1 dd c1
    have e9 : pD T n 4 (0, [], []) = Sum.inr (0, [], []) := if_pos n0.symm
    rw [e9] at z2
    refine ⟨g2, ?_, f1.tr (Wnz_b f2), by rw [f2.2 _ _ (by unfold Wnz; omega)]; exact d7, z2⟩
    rw [e_N_readsClause]
    repeat (first | with_reducible refine hE ?_ | with_reducible refine hLi ?_ | (with_reducible apply hI; · (first | exact e1 | (simp (disch := omega) only [lk_128 hL, n0, qadd, qmul, qcl, qle, qlt, qeq, qlt0, q0le, qeq0, qle0, q0lt, true_or, or_true, false_or, or_false, true_and, and_true, false_and, and_false, eq_self, not_true_eq_false, not_false_eq_true, qz0, qz1, q00, q01, q10, q11, zb_z, zb_0, zb_1, zor, Bool.true_eq_false, Bool.false_eq_true, Bool.and_true, Bool.and_false, Bool.true_and, Bool.false_and, Bool.or_true, Bool.or_false, Bool.true_or, Bool.false_or, decide_eq_true_eq, decide_eq_false_iff_not, reduceCtorEq]; first | exact e1))) | (with_reducible apply hP; · (first | exact e1 | (simp (disch := omega) only [lk_128 hL, n0, qadd, qmul, qcl, qle, qlt, qeq, qlt0, q0le, qeq0, qle0, q0lt, true_or, or_true, false_or, or_false, true_and, and_true, false_and, and_false, eq_self, not_true_eq_false, not_false_eq_true, qz0, qz1, q00, q01, q10, q11, zb_z, zb_0, zb_1, zor, Bool.true_eq_false, Bool.false_eq_true, Bool.and_true, Bool.and_false, Bool.true_and, Bool.false_and, Bool.or_true, Bool.or_false, Bool.true_or, Bool.false_or, decide_eq_true_eq, decide_eq_false_iff_not, reduceCtorEq]; first | exact e1))) | (with_reducible apply hV; · (first | exact e1 | (simp (disch := omega) only [lk_128 hL, n0, qadd, qmul, qcl, qle, qlt, qeq, qlt0, q0le, qeq0, qle0, q0lt, true_or, or_true, false_or, or_false, true_and, and_true, false_and, and_false, eq_self, not_true_eq_false, not_false_eq_true, qz0, qz1, q00, q01, q10, q11, zb_z, zb_0, zb_1, zor, Bool.true_eq_false, Bool.false_eq_true, Bool.and_true, Bool.and_false, Bool.true_and, Bool.false_and, Bool.or_true, Bool.or_false, Bool.true_or, Bool.false_or, decide_eq_true_eq, decide_eq_false_iff_not, reduceCtorEq]; first | exact e1))) | (with_reducible apply hT; · (first | omega | (simp (disch := omega) only [lk_128 hL, n0, qadd, qmul, qcl, qle, qlt, qeq, qlt0, q0le, qeq0, qle0, q0lt, true_or, or_true, false_or, or_false, true_and, and_true, false_and, and_false, eq_self, not_true_eq_false, not_false_eq_true, qz0, qz1, q00, q01, q10, q11, zb_z, zb_0, zb_1, zor, Bool.true_eq_false, Bool.false_eq_true, Bool.and_true, Bool.and_false, Bool.true_and, Bool.false_and, Bool.or_true, Bool.or_false, Bool.true_or, Bool.false_or, decide_eq_true_eq, decide_eq_false_iff_not, reduceCtorEq]; done) | (simp (disch := omega) only [lk_128 hL, n0, qadd, qmul, qcl, qle, qlt, qeq, qlt0, q0le, qeq0, qle0, q0lt, true_or, or_true, false_or, or_false, true_and, and_true, false_and, and_false, eq_self, not_true_eq_false, not_false_eq_true, qz0, qz1, q00, q01, q10, q11, zb_z, zb_0, zb_1, zor, Bool.true_eq_false, Bool.false_eq_true, Bool.and_true, Bool.and_false, Bool.true_and, Bool.false_and, Bool.or_true, Bool.or_false, Bool.true_or, Bool.false_or, decide_eq_true_eq, decide_eq_false_iff_not, reduceCtorEq]; omega))) | (with_reducible apply hF; · (first | omega | (simp (disch := omega) only [lk_128 hL, n0, qadd, qmul, qcl, qle, qlt, qeq, qlt0, q0le, qeq0, qle0, q0lt, true_or, or_true, false_or, or_false, true_and, and_true, false_and, and_false, eq_self, not_true_eq_false, not_false_eq_true, qz0, qz1, q00, q01, q10, q11, zb_z, zb_0, zb_1, zor, Bool.true_eq_false, Bool.false_eq_true, Bool.and_true, Bool.and_false, Bool.true_and, Bool.false_and, Bool.or_true, Bool.or_false, Bool.true_or, Bool.false_or, decide_eq_true_eq, decide_eq_false_iff_not, reduceCtorEq]; done) | (simp (disch := omega) only [lk_128 hL, n0, qadd, qmul, qcl, qle, qlt, qeq, qlt0, q0le, qeq0, qle0, q0lt, true_or, or_true, false_or, or_false, true_and, and_true, false_and, and_false, eq_self, not_true_eq_false, not_false_eq_true, qz0, qz1, q00, q01, q10, q11, zb_z, zb_0, zb_1, zor, Bool.true_eq_false, Bool.false_eq_true, Bool.and_true, Bool.and_false, Bool.true_and, Bool.false_and, Bool.or_true, Bool.or_false, Bool.true_or, Bool.false_or, decide_eq_true_eq, decide_eq_false_iff_not, reduceCtorEq]; omega))))
    exact e2
  · rw [if_neg n0, pC_s]
    obtain ⟨g2, e2, f2, d2, r2⟩ := s_N_readLiteral c1 hL1 dd d
    have hL2 := f2.lay hL1
    have fin : ∀ r, (∃ g', N_readsClause_9 (d + 17) 128 (some (vi (nI n))) (nI 1) g2 = some (none, g') ∧ Fi Wnz g2 g' ∧ NZ g' r) → ∃ g', N_readsClause (d + 18) 128 (nI n) g = some (none, g') ∧ Fi Wnb g g' ∧ mI g' 128 7 = nI 0 ∧ NZ g' r := by
      rintro r ⟨g', e3, f3, z3⟩
      refine ⟨g', ?_, (f1.tr (Wnz_b (Wnr_z f2))).tr (Wnz_b f3), by rw [f3.2 _ _ (by unfold Wnz; omega), f2.2 _ _ (by unfold Wnr; omega)]; exact d7, z3⟩
      rw [e_N_readsClause]
      repeat (first | with_reducible refine hE ?_ | with_reducible refine hLi ?_ | (with_reducible apply hI; · (first | exact e1 | exact e2 | (simp (disch := omega) only [lk_128 hL, n0, lk_128 hL1, qadd, qmul, qcl, qle, qlt, qeq, qlt0, q0le, qeq0, qle0, q0lt, true_or, or_true, false_or, or_false, true_and, and_true, false_and, and_false, eq_self, not_true_eq_false, not_false_eq_true, qz0, qz1, q00, q01, q10, q11, zb_z, zb_0, zb_1, zor, Bool.true_eq_false, Bool.false_eq_true, Bool.and_true, Bool.and_false, Bool.true_and, Bool.false_and, Bool.or_true, Bool.or_false, Bool.true_or, Bool.false_or, decide_eq_true_eq, decide_eq_false_iff_not, reduceCtorEq]; first | exact e1 | exact e2))) | (with_reducible apply hP; · (first | exact e1 | exact e2 | (simp (disch := omega) only [lk_128 hL, n0, lk_128 hL1, qadd, qmul, qcl, qle, qlt, qeq, qlt0, q0le, qeq0, qle0, q0lt, true_or, or_true, false_or, or_false, true_and, and_true, false_and, and_false, eq_self, not_true_eq_false, not_false_eq_true, qz0, qz1, q00, q01, q10, q11, zb_z, zb_0, zb_1, zor, Bool.true_eq_false, Bool.false_eq_true, Bool.and_true, Bool.and_false, Bool.true_and, Bool.false_and, Bool.or_true, Bool.or_false, Bool.true_or, Bool.false_or, decide_eq_true_eq, decide_eq_false_iff_not, reduceCtorEq]; first | exact e1 | exact e2))) | (with_reducible apply hV; · (first | exact e1 | exact e2 | (simp (disch := omega) only [lk_128 hL, n0, lk_128 hL1, qadd, qmul, qcl, qle, qlt, qeq, qlt0, q0le, qeq0, qle0, q0lt, true_or, or_true, false_or, or_false, true_and, and_true, false_and, and_false, eq_self, not_true_eq_false, not_false_eq_true, qz0, qz1, q00, q01, q10, q11, zb_z, zb_0, zb_1, zor, Bool.true_eq_false, Bool.false_eq_true, Bool.and_true, Bool.and_false, Bool.true_and, Bool.false_and, Bool.or_true, Bool.or_false, Bool.true_or, Bool.false_or, decide_eq_true_eq, decide_eq_false_iff_not, reduceCtorEq]; first | exact e1 | exact e2))) | (with_reducible apply hT; · (first | omega | (simp (disch := omega) only [lk_128 hL, n0, lk_128 hL1, qadd, qmul, qcl, qle, qlt, qeq, qlt0, q0le, qeq0, qle0, q0lt, true_or, or_true, false_or, or_false, true_and, and_true, false_and, and_false, eq_self, not_true_eq_false, not_false_eq_true, qz0, qz1, q00, q01, q10, q11, zb_z, zb_0, zb_1, zor, Bool.true_eq_false, Bool.false_eq_true, Bool.and_true, Bool.and_false, Bool.true_and, Bool.false_and, Bool.or_true, Bool.or_false, Bool.true_or, Bool.false_or, decide_eq_true_eq, decide_eq_false_iff_not, reduceCtorEq]; done) | (simp (disch := omega) only [lk_128 hL, n0, lk_128 hL1, qadd, qmul, qcl, qle, qlt, qeq, qlt0, q0le, qeq0, qle0, q0lt, true_or, or_true, false_or, or_false, true_and, and_true, false_and, and_false, eq_self, not_true_eq_false, not_false_eq_true, qz0, qz1, q00, q01, q10, q11, zb_z, zb_0, zb_1, zor, Bool.true_eq_false, Bool.false_eq_true, Bool.and_true, Bool.and_false, Bool.true_and, Bool.false_and, Bool.or_true, Bool.or_false, Bool.true_or, Bool.false_or, decide_eq_true_eq, decide_eq_false_iff_not, reduceCtorEq]; omega))) | (with_reducible apply hF; · (first | omega | (simp (disch := omega) only [lk_128 hL, n0, lk_128 hL1, qadd, qmul, qcl, qle, qlt, qeq, qlt0, q0le, qeq0, qle0, q0lt, true_or, or_true, false_or, or_false, true_and, and_true, false_and, and_false, eq_self, not_true_eq_false, not_false_eq_true, qz0, qz1, q00, q01, q10, q11, zb_z, zb_0, zb_1, zor, Bool.true_eq_false, Bool.false_eq_true, Bool.and_true, Bool.and_false, Bool.true_and, Bool.false_and, Bool.or_true, Bool.or_false, Bool.true_or, Bool.false_or, decide_eq_true_eq, decide_eq_false_iff_not, reduceCtorEq]; done) | (simp (disch := omega) only [lk_128 hL, n0, lk_128 hL1, qadd, qmul, qcl, qle, qlt, qeq, qlt0, q0le, qeq0, qle0, q0lt, true_or, or_true, false_or, or_false, true_and, and_true, false_and, and_false, eq_self, not_true_eq_false, not_false_eq_true, qz0, qz1, q00, q01, q10, q11, zb_z, zb_0, zb_1, zor, Bool.true_eq_false, Bool.false_eq_true, Bool.and_true, Bool.and_false, Bool.true_and, Bool.false_and, Bool.or_true, Bool.or_false, Bool.true_or, Bool.false_or, decide_eq_true_eq, decide_eq_false_iff_not, reduceCtorEq]; omega))))
      exact e3
    refine fin _ ?_
    cases hx : pL T n (0, [], []) with
    | inl e =>
      rw [hx] at r2
      exact s_rc9F (d + 16) (some (vi (nI n))) (nI 1) r2 hL2
    | inr s2 =>
      rw [hx] at r2
      exact s_rc9 d (some (vi (nI n))) 4 (by decide) g2 s2 hL2 (by rw [d2]; exact dd) r2
-- what is read
/-- more terms behind s, at a depth -/
def AT (k dp : Nat) (s s' : Ps) : Prop := ∃ t dt, s'.2.1 = s.2.1 ++ t ∧ s'.2.2 = s.2.2 ++ dt ∧ tl t k = true ∧ ∀ x s0, s0.length + 1 = dp → dl ((k + x) :: s0) t = dt
theorem AT.tr {a b dp : Nat} {s s1 s2 : Ps} (h1 : AT a dp s s1) (h2 : AT b dp s1 s2) : AT (a + b) dp s s2 := by
  obtain ⟨t, dt, e1, e2, e3, e4⟩ := h1
  obtain ⟨t', dt', g1, g2, g3, g4⟩ := h2
  refine ⟨t ++ t', dt ++ dt', by rw [g1, e1, List.append_assoc], by rw [g2, e2, List.append_assoc], tl_app t a b t' e3 g3, fun x s0 hs => ?_⟩
  rw [show a + b + x = a + (b + x) by omega, dl_tl e3 (b + x) s0 t', e4 (b + x) s0 hs, g4 x s0 hs]
theorem AT.z {dp : Nat} {s s' : Ps} (e1 : s'.2 = s.2) : AT 0 dp s s' := ⟨[], [], by rw [e1, List.append_nil], by rw [e1, List.append_nil], rfl, fun _ _ _ => rfl⟩
theorem pX_at {ch dp : Nat} {s s' : Ps} (h : pX T n ch s = Sum.inr s') : AT 0 dp s s' := by
  unfold pX at h
  split at h
  · injection h with h
    subst h
    exact AT.z rfl
  · cases h
theorem bnd_r {r : Pr} {F : Ps → Pr} {s' : Ps} (h : bnd r F = Sum.inr s') : ∃ s1, r = Sum.inr s1 ∧ F s1 = Sum.inr s' := by
  cases r with
  | inl e => cases h
  | inr s1 => exact ⟨s1, rfl, h⟩
theorem pP_at {F : Ps → Pr} {dp k : Nat} (hk : k ≤ 2) (hG : ∀ s s', F s = Sum.inr s' → AT 1 dp s s') {s s' : Ps} (h : pP T n F k s = Sum.inr s') : AT k dp s s' := by
  unfold pP at h
  split at h
  · rename_i k0
    injection h with h
    subst h
    rw [k0]
    exact AT.z rfl
  · obtain ⟨s1, h1, h⟩ := bnd_r h
    obtain ⟨s2, h2, h⟩ := bnd_r h
    have a2 := (pX_at (dp := dp) h1).tr (hG s1 s2 h2)
    split at h
    · rename_i k2
      obtain ⟨s3, h3, h⟩ := bnd_r h
      obtain ⟨s4, h4, h⟩ := bnd_r h
      have := ((a2.tr (pX_at (dp := dp) h3)).tr (hG s3 s4 h4)).tr (pX_at (dp := dp) h)
      rw [k2]
      exact this
    · have := a2.tr (pX_at (dp := dp) h)
      have k1 : k = 0 + 1 + 0 := by omega
      rw [k1]
      exact this
theorem pT_at : ∀ f dp s s', pT T n f dp s = Sum.inr s' → AT 1 dp s s' := by
  intro f
  induction f with
  | zero => intro dp s s' h; cases h
  | succ f ih =>
    intro dp s s' h
    have h : (match tcd (lkb T n s.1) with | none => Sum.inl (1, s.1) | some c => bnd (pS c dp s) (pP T n (pT T n f (dp + 1)) (ar c))) = Sum.inr s' := h
    cases ht : tcd (lkb T n s.1) with
    | none => rw [ht] at h; cases h
    | some c =>
      rw [ht] at h
      obtain ⟨s1, h1, h2⟩ := bnd_r h
      obtain ⟨-, tc⟩ := tcd_lt ht
      obtain ⟨t, dt, e1, e2, e3, e4⟩ := pP_at (ar_le c) (fun s s' h => ih (dp + 1) s s' h) h2
      have hs1 : s1 = (s.1 + 1, s.2.1 ++ [c], s.2.2 ++ [dp]) := by
        unfold pS at h1
        split at h1
        · cases h1
        · split at h1
          · cases h1
          · injection h1 with h1
            exact h1.symm
      subst hs1
      refine ⟨c :: t, dp :: dt, by rw [e1]; exact (List.append_assoc ..).trans rfl, by rw [e2]; exact (List.append_assoc ..).trans rfl, ?_, fun x s0 hs => ?_⟩
      · show (tcode c && tl t (0 + ar c)) = true
        rw [tc, Nat.zero_add, e3, Bool.and_self]
      · have c100 := tcode_100 tc
        show (if c < 100 then (nz ((1 + x) :: s0)).length else 0) :: dl (stp ((1 + x) :: s0) c) t = dp :: dt
        rw [show 1 + x = x + 1 by omega]
        have n1 : nz ((x + 1) :: s0) = (x + 1) :: s0 := rfl
        have n2 : stp ((x + 1) :: s0) c = (ar c + 0) :: x :: s0 := by
          unfold stp
          rw [if_pos c100, n1]
          rfl
        rw [if_pos c100, n1, n2, e4 0 (x :: s0) (by show s0.length + 1 + 1 = dp + 1; omega)]
        congr 1
/-- codes of whole literals, with their depths -/
def GC (s : Ps) (m : Nat) : Prop := wf s.2.1 0 = true ∧ s.2.2 = dl [] s.2.1 ∧ nlit s.2.1 = m
theorem dl_wf : ∀ (A : List Nat) (s B : List Nat), wf A s.sum = true → wf B 0 = true → dl s (A ++ B) = dl s A ++ dl [] B
  | [], s, B, hA, hB => by
    have : s.sum = 0 := Nat.eq_of_beq_eq_true hA
    show dl s B = [] ++ dl [] B
    rw [List.nil_append]
    apply dl_nz
    have := nz_z (u := s) (v := []) this
    rw [List.append_nil] at this
    exact this
  | c :: A, s, B, hA, hB => by
    show (if c < 100 then (nz s).length else 0) :: dl (stp s c) (A ++ B) = ((if c < 100 then (nz s).length else 0) :: dl (stp s c) A) ++ dl [] B
    rw [List.cons_append]
    congr 1
    refine dl_wf A (stp s c) B ?_ hB
    rcases Nat.eq_zero_or_pos s.sum with z | z
    · rw [z] at hA
      have hA : ((Nat.ble 100 c && Nat.ble c 107) && wf A (ar c)) = true := hA
      rw [Bool.and_eq_true, Bool.and_eq_true] at hA
      have hc : ¬ c < 100 := by
        have := Nat.le_of_ble_eq_true hA.1.1
        omega
      have e : stp s c = [ar c] := if_neg hc
      rw [e]
      exact hA.2
    · obtain ⟨m, hm⟩ : ∃ m, s.sum = m + 1 := ⟨s.sum - 1, by omega⟩
      rw [hm] at hA
      have hA : (tcode c && wf A (m + ar c)) = true := hA
      rw [Bool.and_eq_true] at hA
      obtain ⟨a, s', e1, e2⟩ := nz_ne z
      have e : stp s c = ar c :: a :: s' := by
        unfold stp
        rw [if_pos (tcode_100 hA.1), e1]
        rfl
      rw [e]
      have : (ar c :: a :: s').sum = m + ar c := by
        show ar c + (a + s'.sum) = _
        omega
      rw [this]
      exact hA.2
theorem pL_gc {s s' : Ps} {m : Nat} (g : GC s m) (h : pL T n s = Sum.inr s') : GC s' (m + 1) := by
  have key : ∀ (sg : Nat), sg < 2 → ∀ (s s' : Ps), GC s m → pQ T n sg s = Sum.inr s' → GC s' (m + 1) := by
    intro sg hsg s s' g h
    unfold pQ at h
    split at h
    · cases h
    · rename_i b hb
      split at h
      · rename_i z
        obtain ⟨s1, h1, h2⟩ := bnd_r h
        obtain ⟨c, hc⟩ : ∃ c, c = 100 + 2 * (b - 112) + sg := ⟨_, rfl⟩
        rw [← hc] at h1 h2
        obtain ⟨t, dt, e1, e2, e3, e4⟩ := pP_at (dp := 1) (ar_le c) (fun s s' h => pT_at 6 1 s s' h) h2
        have hs1 : s1 = (s.1 + 1, s.2.1 ++ [c], s.2.2 ++ [0]) := by
          unfold pS at h1
          split at h1
          · cases h1
          · split at h1
            · cases h1
            · injection h1 with h1
              exact h1.symm
        subst hs1
        have e1 : s'.2.1 = s.2.1 ++ c :: t := by rw [e1]; exact (List.append_assoc ..).trans rfl
        have e2 : s'.2.2 = s.2.2 ++ 0 :: dt := by rw [e2]; exact (List.append_assoc ..).trans rfl
        obtain ⟨g1, g2, g3⟩ := g
        have c1 : ¬ c < 100 := by omega
        have wB : wf (c :: t) 0 = true := by
          show ((Nat.ble 100 c && Nat.ble c 107) && wf t (ar c)) = true
          rw [tl_wf t _ e3, Nat.ble_eq_true_of_le (show 100 ≤ c by omega), Nat.ble_eq_true_of_le (show c ≤ 107 by omega)]
          rfl
        refine ⟨by rw [e1]; exact wf_app _ 0 _ g1 wB, ?_, ?_⟩
        · rw [e1, e2, dl_wf s.2.1 [] _ g1 wB, g2, dl_pred c1]
          have := e4 0 [] rfl
          rw [Nat.add_zero] at this
          rw [this]
        · rw [e1, nlit_app, g3, nlit_cons, if_neg c1, nlit_tl t _ e3]
      · cases h
  unfold pL at h
  split at h
  · exact key 1 (by decide) (s.1 + 1, s.2) s' g h
  · exact key 0 (by decide) s s' g h
theorem pC_gc : ∀ j s s' m, GC s m → m + j ≤ 5 → pC T n j s = Sum.inr s' → ∃ m', m' ≤ 5 ∧ GC s' m' := by
  intro j
  induction j with
  | zero => intro s s' m _ _ h; cases h
  | succ j ih =>
    intro s s' m g hm h
    rw [pC_s] at h
    obtain ⟨s1, h1, h⟩ := bnd_r h
    have g1 := pL_gc g h1
    unfold pD at h
    split at h
    · injection h with h
      subst h
      exact ⟨m + 1, by omega, g1⟩
    · split at h
      · split at h
        · cases h
        · exact ih (s1.1 + 1, s1.2) s' (m + 1) g1 (by omega) h
      · cases h
theorem pcl_wf {s : Ps} (h : pcl T n = Sum.inr s) (hl : s.2.1.length ≤ 30) (hd : ∀ i, i < s.2.2.length → cd s.2.2 i ≤ 5) : WF s.2.1 ∧ ∀ i, i < s.2.1.length → cd s.2.2 i = dep s.2.1 i := by
  obtain ⟨m, m5, g1, g2, g3⟩ : ∃ m, m ≤ 5 ∧ GC s m := by
    unfold pcl at h
    split at h
    · injection h with h
      subst h
      exact ⟨0, by decide, rfl, rfl, rfl⟩
    · exact pC_gc 5 _ s 0 ⟨rfl, rfl, rfl⟩ (by decide) h
  have e : ∀ i, i < s.2.1.length → cd s.2.2 i = dep s.2.1 i := fun i hi => by rw [g2]; exact dep_dl g1 hi
  refine ⟨⟨g1, hl, by omega, fun i hi => ?_⟩, e⟩
  rw [← e i hi]
  exact hd i (by rw [g2, dl_len]; exact hi)
end
