/-! ===== the reference takes a clause up ===== -/
theorem s_factor56 {A : List Nat} {k : Nat} (hk : k ≤ 24) (hA : A.length ≤ 30) (d : Nat) (x2 x3 : Int32) (o5 o6 o7 : Option mv) : ∀ l i R g, A.drop i = l → i ≤ A.length → Lay g → MC g 129 0 k A → RPt g R → R.length + l.length < 1900 → ∃ g', N_factor_56 (d + 1) 128 (nI k) x2 x3 (nI i) o5 o6 o7 g = N_factor_56 (d + 1) 128 (nI k) x2 x3 (nI A.length) o5 o6 o7 g' ∧ Fi Wpt g g' ∧ RPt g' (R ++ l) := by
  intro l
  induction l with
  | nil =>
    intro i R g hi hil hL m r hl
    have hi := drop_nil hi
    have hi : i = A.length := by omega
    rw [hi, List.append_nil]
    exact ⟨g, rfl, Fi.rf, r⟩
  | cons c l ih =>
    intro i R g hi hil hL m r hl
    obtain ⟨a1, a2, a3⟩ := drop_cons hi
    have hl : R.length + (l.length + 1) < 1900 := hl
    have m2 := m.2.1
    rw [Nat.zero_add] at m2
    have m3 := m.2.2 i a1
    rw [Nat.zero_add, a2] at m3
    have e1 := s_longOf hL d (k := k) hk
    rw [m2] at e1
    have e2 := s_codeAt hL d (k := k) (i := i) hk (by omega)
    rw [m3] at e2
    obtain ⟨g1, e3, f3, -, r3⟩ := s_puts hL r (by omega) c d
    obtain ⟨g', e4, f4, r4⟩ := ih (i + 1) (R ++ [c]) g1 a3 (by omega) (f3.lay hL) (m.fr hA (fun j _ _ => f3.2 _ _ (by unfold Wpt; omega))) r3 (by rw [List.length_append]; show R.length + 1 + _ < _; omega)
    rw [List.append_assoc] at r4
    refine ⟨g', ?_, f3.tr f4, r4⟩
    rw [← e4, ← qadd, e_N_factor_56]
    repeat (first | with_reducible refine hE ?_ | with_reducible refine hLi ?_ | (with_reducible apply hI; · (first | exact e1 | exact e2 | exact e3 | (simp (disch := omega) only [lk_128 hL, qadd, qmul, qcl, qle, qlt, qeq, qlt0, q0le, qeq0, qle0, q0lt, true_or, or_true, false_or, or_false, true_and, and_true, false_and, and_false, eq_self, not_true_eq_false, not_false_eq_true, qz0, qz1, q00, q01, q10, q11, zb_z, zb_0, zb_1, zor, Bool.true_eq_false, Bool.false_eq_true, Bool.and_true, Bool.and_false, Bool.true_and, Bool.false_and, Bool.or_true, Bool.or_false, Bool.true_or, Bool.false_or, decide_eq_true_eq, decide_eq_false_iff_not, reduceCtorEq]; first | exact e1 | exact e2 | exact e3))) | (with_reducible apply hP; · (first | exact e1 | exact e2 | exact e3 | (simp (disch := omega) only [lk_128 hL, qadd, qmul, qcl, qle, qlt, qeq, qlt0, q0le, qeq0, qle0, q0lt, true_or, or_true, false_or, or_false, true_and, and_true, false_and, and_false, eq_self, not_true_eq_false, not_false_eq_true, qz0, qz1, q00, q01, q10, q11, zb_z, zb_0, zb_1, zor, Bool.true_eq_false, Bool.false_eq_true, Bool.and_true, Bool.and_false, Bool.true_and, Bool.false_and, Bool.or_true, Bool.or_false, Bool.true_or, Bool.false_or, decide_eq_true_eq, decide_eq_false_iff_not, reduceCtorEq]; first | exact e1 | exact e2 | exact e3))) | (with_reducible apply hV; · (first | exact e1 | exact e2 | exact e3 | (simp (disch := omega) only [lk_128 hL, qadd, qmul, qcl, qle, qlt, qeq, qlt0, q0le, qeq0, qle0, q0lt, true_or, or_true, false_or, or_false, true_and, and_true, false_and, and_false, eq_self, not_true_eq_false, not_false_eq_true, qz0, qz1, q00, q01, q10, q11, zb_z, zb_0, zb_1, zor, Bool.true_eq_false, Bool.false_eq_true, Bool.and_true, Bool.and_false, Bool.true_and, Bool.false_and, Bool.or_true, Bool.or_false, Bool.true_or, Bool.false_or, decide_eq_true_eq, decide_eq_false_iff_not, reduceCtorEq]; first | exact e1 | exact e2 | exact e3))) | (with_reducible apply hT; · (first | omega | (simp (disch := omega) only [lk_128 hL, qadd, qmul, qcl, qle, qlt, qeq, qlt0, q0le, qeq0, qle0, q0lt, true_or, or_true, false_or, or_false, true_and, and_true, false_and, and_false, eq_self, not_true_eq_false, not_false_eq_true, qz0, qz1, q00, q01, q10, q11, zb_z, zb_0, zb_1, zor, Bool.true_eq_false, Bool.false_eq_true, Bool.and_true, Bool.and_false, Bool.true_and, Bool.false_and, Bool.or_true, Bool.or_false, Bool.true_or, Bool.false_or, decide_eq_true_eq, decide_eq_false_iff_not, reduceCtorEq]; done) | (simp (disch := omega) only [lk_128 hL, qadd, qmul, qcl, qle, qlt, qeq, qlt0, q0le, qeq0, qle0, q0lt, true_or, or_true, false_or, or_false, true_and, and_true, false_and, and_false, eq_self, not_true_eq_false, not_false_eq_true, qz0, qz1, q00, q01, q10, q11, zb_z, zb_0, zb_1, zor, Bool.true_eq_false, Bool.false_eq_true, Bool.and_true, Bool.and_false, Bool.true_and, Bool.false_and, Bool.or_true, Bool.or_false, Bool.true_or, Bool.false_or, decide_eq_true_eq, decide_eq_false_iff_not, reduceCtorEq]; omega))) | (with_reducible apply hF; · (first | omega | (simp (disch := omega) only [lk_128 hL, qadd, qmul, qcl, qle, qlt, qeq, qlt0, q0le, qeq0, qle0, q0lt, true_or, or_true, false_or, or_false, true_and, and_true, false_and, and_false, eq_self, not_true_eq_false, not_false_eq_true, qz0, qz1, q00, q01, q10, q11, zb_z, zb_0, zb_1, zor, Bool.true_eq_false, Bool.false_eq_true, Bool.and_true, Bool.and_false, Bool.true_and, Bool.false_and, Bool.or_true, Bool.or_false, Bool.true_or, Bool.false_or, decide_eq_true_eq, decide_eq_false_iff_not, reduceCtorEq]; done) | (simp (disch := omega) only [lk_128 hL, qadd, qmul, qcl, qle, qlt, qeq, qlt0, q0le, qeq0, qle0, q0lt, true_or, or_true, false_or, or_false, true_and, and_true, false_and, and_false, eq_self, not_true_eq_false, not_false_eq_true, qz0, qz1, q00, q01, q10, q11, zb_z, zb_0, zb_1, zor, Bool.true_eq_false, Bool.false_eq_true, Bool.and_true, Bool.and_false, Bool.true_and, Bool.false_and, Bool.or_true, Bool.or_false, Bool.true_or, Bool.false_or, decide_eq_true_eq, decide_eq_false_iff_not, reduceCtorEq]; omega))))
    rfl
/-- a variable at a's side, a term at b's -/
def UT (i j : Nat) (W : List Nat) (o a b : Nat) (t r : List Nat) : Prop := ((a = i ∧ b = j) ∨ (a = j ∧ b = i ∧ iv (cd W (beg W i + o)) = false)) ∧ iv (cd W (beg W a + o)) = true ∧ W.drop (beg W b + o) = t ++ r ∧ tl t 1 = true ∧ t.length = endp W (beg W b + o) - (beg W b + o)
/-- what becomes of two literals that are made the same: refused (5, 4), or the codes -/
def UN (i j : Nat) : Nat → List Nat → Nat → Nat ⊕ List Nat → Prop
  | 0, _, _, _ => False
  | f + 1, W, o, R => (beg W (i + 1) = beg W i + o ∧ R = Sum.inr W) ∨ (beg W i + o < beg W (i + 1) ∧ ((cd W (beg W i + o) = cd W (beg W j + o) ∧ UN i j f W (o + 1) R) ∨ (cd W (beg W i + o) ≠ cd W (beg W j + o) ∧ ((iv (cd W (beg W i + o)) = false ∧ iv (cd W (beg W j + o)) = false ∧ R = Sum.inl 5) ∨ ∃ a b t r, UT i j W o a b t r ∧ (((∃ x, x < t.length ∧ cd t x = cd W (beg W a + o)) ∧ R = Sum.inl 5) ∨ ((∀ x, x < t.length → cd t x ≠ cd W (beg W a + o)) ∧ ((¬ okR (ins (cd W (beg W a + o)) t W) ∧ R = Sum.inl 4) ∨ (okR (ins (cd W (beg W a + o)) t W) ∧ UN i j f (ins (cd W (beg W a + o)) t W) (o + 1) R))))))))
