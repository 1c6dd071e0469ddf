/-! ===== chains: the class ===== -/
def LH (h : mh) (R : Nat) (l : Nat → Nat) : Prop := ∀ k, k < 24 → mI h (R + 3) k = nI (l k)
def kt : Nat → Bool := fun _ => true
theorem mk_t (M : Nat → Nat → Bool) : MK M kt := fun _ _ _ => ⟨rfl, rfl⟩
section
variable {K : Ks} {m R : Nat} {h : mh}
theorem s_fol (hR : R = 94 ∨ R = 99) (hL : Lay h) {l : Nat → Nat} (lh : LH h R l) (hl : ∀ k, k < 24 → l k ≤ 100) (p : Nat → Bool) (d : Nat) : Rl_firstOfLongest (d + 1) R (bs p 24) h = some (some (vi (nI (fl p l))), h) := by
  obtain ⟨a1, a2, a3, a4, a5, -, -, ⟨a6, a7⟩, -⟩ := RA_of hL hR
  have lp : ∀ j k b g, k + j = 24 → b < 24 → g ≤ 100 → Rl_firstOfLongest_6 d R (bs p 24) (nI b) (nI g) (nI k) h = some (some (vi (nI (fo p l j k b g))), h) := by
    intro j
    induction j with
    | zero =>
      intro k b g hk hb hg
      obtain rfl : k = 24 := by omega
      rw [e_Rl_firstOfLongest_6]
      repeat (first | with_reducible refine hE ?_ | with_reducible refine hLi ?_ | (with_reducible apply hT; · (first | omega | (simp (disch := omega) only [qadd, qmul, qcl, qle, qlt, qeq, qlt0, q0le, qeq0, qle0, q0lt, true_or, or_true, false_or, or_false, true_and, and_true, false_and, and_false, eq_self, not_true_eq_false, not_false_eq_true, qz0, qz1, q00, q01, q10, q11, zb_z, zb_0, zb_1, zor, Bool.true_eq_false, Bool.false_eq_true, Bool.and_true, Bool.and_false, Bool.true_and, Bool.false_and, Bool.or_true, Bool.or_false, Bool.true_or, Bool.false_or, decide_eq_true_eq, decide_eq_false_iff_not, reduceCtorEq]; done) | (simp (disch := omega) only [qadd, qmul, qcl, qle, qlt, qeq, qlt0, q0le, qeq0, qle0, q0lt, true_or, or_true, false_or, or_false, true_and, and_true, false_and, and_false, eq_self, not_true_eq_false, not_false_eq_true, qz0, qz1, q00, q01, q10, q11, zb_z, zb_0, zb_1, zor, Bool.true_eq_false, Bool.false_eq_true, Bool.and_true, Bool.and_false, Bool.true_and, Bool.false_and, Bool.or_true, Bool.or_false, Bool.true_or, Bool.false_or, decide_eq_true_eq, decide_eq_false_iff_not, reduceCtorEq]; omega))) | (with_reducible apply hF; · (first | omega | (simp (disch := omega) only [qadd, qmul, qcl, qle, qlt, qeq, qlt0, q0le, qeq0, qle0, q0lt, true_or, or_true, false_or, or_false, true_and, and_true, false_and, and_false, eq_self, not_true_eq_false, not_false_eq_true, qz0, qz1, q00, q01, q10, q11, zb_z, zb_0, zb_1, zor, Bool.true_eq_false, Bool.false_eq_true, Bool.and_true, Bool.and_false, Bool.true_and, Bool.false_and, Bool.or_true, Bool.or_false, Bool.true_or, Bool.false_or, decide_eq_true_eq, decide_eq_false_iff_not, reduceCtorEq]; done) | (simp (disch := omega) only [qadd, qmul, qcl, qle, qlt, qeq, qlt0, q0le, qeq0, qle0, q0lt, true_or, or_true, false_or, or_false, true_and, and_true, false_and, and_false, eq_self, not_true_eq_false, not_false_eq_true, qz0, qz1, q00, q01, q10, q11, zb_z, zb_0, zb_1, zor, Bool.true_eq_false, Bool.false_eq_true, Bool.and_true, Bool.and_false, Bool.true_and, Bool.false_and, Bool.or_true, Bool.or_false, Bool.true_or, Bool.false_or, decide_eq_true_eq, decide_eq_false_iff_not, reduceCtorEq]; omega))))
      rfl
    | succ j ih =>
      intro k b g hk hb hg
      have tst := bt_test (x := bs p 24) (k := k) (by omega)
      rw [bt_bs24 (show k < 24 by omega)] at tst
      have lk := lh k (by omega)
      have lk2 := hl k (by omega)
      rw [e_Rl_firstOfLongest_6]
      cases hp : p k with
      | false =>
        have e : fo p l (j + 1) k b g = fo p l j (k + 1) b g := if_neg (fun z => by rw [hp] at z; cases z.1)
        rw [e, ← ih (k + 1) b g (by omega) hb hg]
        repeat (first | with_reducible refine hE ?_ | with_reducible refine hLi ?_ | (with_reducible apply hT; · (first | omega | (simp (disch := omega) only [a1, a4, a6, a7, tst, hp, lk, qadd, qmul, qcl, qle, qlt, qeq, qlt0, q0le, qeq0, qle0, q0lt, true_or, or_true, false_or, or_false, true_and, and_true, false_and, and_false, eq_self, not_true_eq_false, not_false_eq_true, qz0, qz1, q00, q01, q10, q11, zb_z, zb_0, zb_1, zor, Bool.true_eq_false, Bool.false_eq_true, Bool.and_true, Bool.and_false, Bool.true_and, Bool.false_and, Bool.or_true, Bool.or_false, Bool.true_or, Bool.false_or, decide_eq_true_eq, decide_eq_false_iff_not, reduceCtorEq]; done) | (simp (disch := omega) only [a1, a4, a6, a7, tst, hp, lk, qadd, qmul, qcl, qle, qlt, qeq, qlt0, q0le, qeq0, qle0, q0lt, true_or, or_true, false_or, or_false, true_and, and_true, false_and, and_false, eq_self, not_true_eq_false, not_false_eq_true, qz0, qz1, q00, q01, q10, q11, zb_z, zb_0, zb_1, zor, Bool.true_eq_false, Bool.false_eq_true, Bool.and_true, Bool.and_false, Bool.true_and, Bool.false_and, Bool.or_true, Bool.or_false, Bool.true_or, Bool.false_or, decide_eq_true_eq, decide_eq_false_iff_not, reduceCtorEq]; omega))) | (with_reducible apply hF; · (first | omega | (simp (disch := omega) only [a1, a4, a6, a7, tst, hp, lk, qadd, qmul, qcl, qle, qlt, qeq, qlt0, q0le, qeq0, qle0, q0lt, true_or, or_true, false_or, or_false, true_and, and_true, false_and, and_false, eq_self, not_true_eq_false, not_false_eq_true, qz0, qz1, q00, q01, q10, q11, zb_z, zb_0, zb_1, zor, Bool.true_eq_false, Bool.false_eq_true, Bool.and_true, Bool.and_false, Bool.true_and, Bool.false_and, Bool.or_true, Bool.or_false, Bool.true_or, Bool.false_or, decide_eq_true_eq, decide_eq_false_iff_not, reduceCtorEq]; done) | (simp (disch := omega) only [a1, a4, a6, a7, tst, hp, lk, qadd, qmul, qcl, qle, qlt, qeq, qlt0, q0le, qeq0, qle0, q0lt, true_or, or_true, false_or, or_false, true_and, and_true, false_and, and_false, eq_self, not_true_eq_false, not_false_eq_true, qz0, qz1, q00, q01, q10, q11, zb_z, zb_0, zb_1, zor, Bool.true_eq_false, Bool.false_eq_true, Bool.and_true, Bool.and_false, Bool.true_and, Bool.false_and, Bool.or_true, Bool.or_false, Bool.true_or, Bool.false_or, decide_eq_true_eq, decide_eq_false_iff_not, reduceCtorEq]; omega))))
        rw [qadd]
      | true =>
        by_cases z : g < l k
        · have e : fo p l (j + 1) k b g = fo p l j (k + 1) k (l k) := if_pos ⟨hp, z⟩
          rw [e, ← ih (k + 1) k (l k) (by omega) (by omega) lk2]
          repeat (first | with_reducible refine hE ?_ | with_reducible refine hLi ?_ | (with_reducible apply hT; · (first | omega | (simp (disch := omega) only [a1, a4, a6, a7, tst, hp, lk, qadd, qmul, qcl, qle, qlt, qeq, qlt0, q0le, qeq0, qle0, q0lt, true_or, or_true, false_or, or_false, true_and, and_true, false_and, and_false, eq_self, not_true_eq_false, not_false_eq_true, qz0, qz1, q00, q01, q10, q11, zb_z, zb_0, zb_1, zor, Bool.true_eq_false, Bool.false_eq_true, Bool.and_true, Bool.and_false, Bool.true_and, Bool.false_and, Bool.or_true, Bool.or_false, Bool.true_or, Bool.false_or, decide_eq_true_eq, decide_eq_false_iff_not, reduceCtorEq]; done) | (simp (disch := omega) only [a1, a4, a6, a7, tst, hp, lk, qadd, qmul, qcl, qle, qlt, qeq, qlt0, q0le, qeq0, qle0, q0lt, true_or, or_true, false_or, or_false, true_and, and_true, false_and, and_false, eq_self, not_true_eq_false, not_false_eq_true, qz0, qz1, q00, q01, q10, q11, zb_z, zb_0, zb_1, zor, Bool.true_eq_false, Bool.false_eq_true, Bool.and_true, Bool.and_false, Bool.true_and, Bool.false_and, Bool.or_true, Bool.or_false, Bool.true_or, Bool.false_or, decide_eq_true_eq, decide_eq_false_iff_not, reduceCtorEq]; omega))) | (with_reducible apply hF; · (first | omega | (simp (disch := omega) only [a1, a4, a6, a7, tst, hp, lk, qadd, qmul, qcl, qle, qlt, qeq, qlt0, q0le, qeq0, qle0, q0lt, true_or, or_true, false_or, or_false, true_and, and_true, false_and, and_false, eq_self, not_true_eq_false, not_false_eq_true, qz0, qz1, q00, q01, q10, q11, zb_z, zb_0, zb_1, zor, Bool.true_eq_false, Bool.false_eq_true, Bool.and_true, Bool.and_false, Bool.true_and, Bool.false_and, Bool.or_true, Bool.or_false, Bool.true_or, Bool.false_or, decide_eq_true_eq, decide_eq_false_iff_not, reduceCtorEq]; done) | (simp (disch := omega) only [a1, a4, a6, a7, tst, hp, lk, qadd, qmul, qcl, qle, qlt, qeq, qlt0, q0le, qeq0, qle0, q0lt, true_or, or_true, false_or, or_false, true_and, and_true, false_and, and_false, eq_self, not_true_eq_false, not_false_eq_true, qz0, qz1, q00, q01, q10, q11, zb_z, zb_0, zb_1, zor, Bool.true_eq_false, Bool.false_eq_true, Bool.and_true, Bool.and_false, Bool.true_and, Bool.false_and, Bool.or_true, Bool.or_false, Bool.true_or, Bool.false_or, decide_eq_true_eq, decide_eq_false_iff_not, reduceCtorEq]; omega))))
          rw [qadd, a4, qcl (by omega), lk]
        · have e : fo p l (j + 1) k b g = fo p l j (k + 1) b g := if_neg (fun y => z y.2)
          rw [e, ← ih (k + 1) b g (by omega) hb hg]
          repeat (first | with_reducible refine hE ?_ | with_reducible refine hLi ?_ | (with_reducible apply hT; · (first | omega | (simp (disch := omega) only [a1, a4, a6, a7, tst, hp, lk, qadd, qmul, qcl, qle, qlt, qeq, qlt0, q0le, qeq0, qle0, q0lt, true_or, or_true, false_or, or_false, true_and, and_true, false_and, and_false, eq_self, not_true_eq_false, not_false_eq_true, qz0, qz1, q00, q01, q10, q11, zb_z, zb_0, zb_1, zor, Bool.true_eq_false, Bool.false_eq_true, Bool.and_true, Bool.and_false, Bool.true_and, Bool.false_and, Bool.or_true, Bool.or_false, Bool.true_or, Bool.false_or, decide_eq_true_eq, decide_eq_false_iff_not, reduceCtorEq]; done) | (simp (disch := omega) only [a1, a4, a6, a7, tst, hp, lk, qadd, qmul, qcl, qle, qlt, qeq, qlt0, q0le, qeq0, qle0, q0lt, true_or, or_true, false_or, or_false, true_and, and_true, false_and, and_false, eq_self, not_true_eq_false, not_false_eq_true, qz0, qz1, q00, q01, q10, q11, zb_z, zb_0, zb_1, zor, Bool.true_eq_false, Bool.false_eq_true, Bool.and_true, Bool.and_false, Bool.true_and, Bool.false_and, Bool.or_true, Bool.or_false, Bool.true_or, Bool.false_or, decide_eq_true_eq, decide_eq_false_iff_not, reduceCtorEq]; omega))) | (with_reducible apply hF; · (first | omega | (simp (disch := omega) only [a1, a4, a6, a7, tst, hp, lk, qadd, qmul, qcl, qle, qlt, qeq, qlt0, q0le, qeq0, qle0, q0lt, true_or, or_true, false_or, or_false, true_and, and_true, false_and, and_false, eq_self, not_true_eq_false, not_false_eq_true, qz0, qz1, q00, q01, q10, q11, zb_z, zb_0, zb_1, zor, Bool.true_eq_false, Bool.false_eq_true, Bool.and_true, Bool.and_false, Bool.true_and, Bool.false_and, Bool.or_true, Bool.or_false, Bool.true_or, Bool.false_or, decide_eq_true_eq, decide_eq_false_iff_not, reduceCtorEq]; done) | (simp (disch := omega) only [a1, a4, a6, a7, tst, hp, lk, qadd, qmul, qcl, qle, qlt, qeq, qlt0, q0le, qeq0, qle0, q0lt, true_or, or_true, false_or, or_false, true_and, and_true, false_and, and_false, eq_self, not_true_eq_false, not_false_eq_true, qz0, qz1, q00, q01, q10, q11, zb_z, zb_0, zb_1, zor, Bool.true_eq_false, Bool.false_eq_true, Bool.and_true, Bool.and_false, Bool.true_and, Bool.false_and, Bool.or_true, Bool.or_false, Bool.true_or, Bool.false_or, decide_eq_true_eq, decide_eq_false_iff_not, reduceCtorEq]; omega))))
          rw [qadd]
  rw [e_Rl_firstOfLongest]
  exact lp 24 0 0 0 rfl (by decide) (Nat.zero_le _)
theorem s_mr2 (hR : R = 94 ∨ R = 99) (d : Nat) (o2 o3 o4 o5 : Option mv) : ∀ j a h, a + j = 24 → Lay h → (∀ u, u < a → mI h (R + 3) u = nI 1) → ∃ h', Rl_measureRows_2 d R (nI a) o2 o3 o4 o5 h = Rl_measureRows_16 d R (nI 1) (nI 0) o3 o4 o5 h' ∧ Fi (fun x _ => x = R + 3) h h' ∧ LH h' R (fun _ => 1) := by
  intro j
  induction j with
  | zero =>
    intro a h ha hL b
    obtain rfl : a = 24 := by omega
    refine ⟨h, ?_, Fi.rf, b⟩
    rw [e_Rl_measureRows_2]
    repeat (first | with_reducible refine hE ?_ | with_reducible refine hLi ?_ | (with_reducible apply hT; · (first | omega | (simp (disch := omega) only [qadd, qmul, qcl, qle, qlt, qeq, qlt0, q0le, qeq0, qle0, q0lt, true_or, or_true, false_or, or_false, true_and, and_true, false_and, and_false, eq_self, not_true_eq_false, not_false_eq_true, qz0, qz1, q00, q01, q10, q11, zb_z, zb_0, zb_1, zor, Bool.true_eq_false, Bool.false_eq_true, Bool.and_true, Bool.and_false, Bool.true_and, Bool.false_and, Bool.or_true, Bool.or_false, Bool.true_or, Bool.false_or, decide_eq_true_eq, decide_eq_false_iff_not, reduceCtorEq]; done) | (simp (disch := omega) only [qadd, qmul, qcl, qle, qlt, qeq, qlt0, q0le, qeq0, qle0, q0lt, true_or, or_true, false_or, or_false, true_and, and_true, false_and, and_false, eq_self, not_true_eq_false, not_false_eq_true, qz0, qz1, q00, q01, q10, q11, zb_z, zb_0, zb_1, zor, Bool.true_eq_false, Bool.false_eq_true, Bool.and_true, Bool.and_false, Bool.true_and, Bool.false_and, Bool.or_true, Bool.or_false, Bool.true_or, Bool.false_or, decide_eq_true_eq, decide_eq_false_iff_not, reduceCtorEq]; omega))) | (with_reducible apply hF; · (first | omega | (simp (disch := omega) only [qadd, qmul, qcl, qle, qlt, qeq, qlt0, q0le, qeq0, qle0, q0lt, true_or, or_true, false_or, or_false, true_and, and_true, false_and, and_false, eq_self, not_true_eq_false, not_false_eq_true, qz0, qz1, q00, q01, q10, q11, zb_z, zb_0, zb_1, zor, Bool.true_eq_false, Bool.false_eq_true, Bool.and_true, Bool.and_false, Bool.true_and, Bool.false_and, Bool.or_true, Bool.or_false, Bool.true_or, Bool.false_or, decide_eq_true_eq, decide_eq_false_iff_not, reduceCtorEq]; done) | (simp (disch := omega) only [qadd, qmul, qcl, qle, qlt, qeq, qlt0, q0le, qeq0, qle0, q0lt, true_or, or_true, false_or, or_false, true_and, and_true, false_and, and_false, eq_self, not_true_eq_false, not_false_eq_true, qz0, qz1, q00, q01, q10, q11, zb_z, zb_0, zb_1, zor, Bool.true_eq_false, Bool.false_eq_true, Bool.and_true, Bool.and_false, Bool.true_and, Bool.false_and, Bool.or_true, Bool.or_false, Bool.true_or, Bool.false_or, decide_eq_true_eq, decide_eq_false_iff_not, reduceCtorEq]; omega))))
    rfl
  | succ j ih =>
    intro a h ha hL b
    obtain ⟨a1, a2, a3, a4, a5, -, -, ⟨a6, a7⟩, -⟩ := RA_of hL hR
    have f0 : Fi (fun x _ => x = R + 3) h (msi h (R + 3) a (nI 1)) := Fi.si rfl
    obtain ⟨h', e1, f1, b1⟩ := ih (a + 1) (msi h (R + 3) a (nI 1)) (by omega) (f0.lay hL) (fun u hu => by
      rw [mI_si]
      by_cases z : u = a
      · rw [if_pos ⟨rfl, z⟩]
      · rw [if_neg (by omega)]
        exact b u (by omega))
    refine ⟨h', ?_, f0.tr f1, b1⟩
    rw [← e1, e_Rl_measureRows_2]
    repeat (first | with_reducible refine hE ?_ | with_reducible refine hLi ?_ | (with_reducible apply hT; · (first | omega | (simp (disch := omega) only [a1, a4, a6, a7, qadd, qmul, qcl, qle, qlt, qeq, qlt0, q0le, qeq0, qle0, q0lt, true_or, or_true, false_or, or_false, true_and, and_true, false_and, and_false, eq_self, not_true_eq_false, not_false_eq_true, qz0, qz1, q00, q01, q10, q11, zb_z, zb_0, zb_1, zor, Bool.true_eq_false, Bool.false_eq_true, Bool.and_true, Bool.and_false, Bool.true_and, Bool.false_and, Bool.or_true, Bool.or_false, Bool.true_or, Bool.false_or, decide_eq_true_eq, decide_eq_false_iff_not, reduceCtorEq]; done) | (simp (disch := omega) only [a1, a4, a6, a7, qadd, qmul, qcl, qle, qlt, qeq, qlt0, q0le, qeq0, qle0, q0lt, true_or, or_true, false_or, or_false, true_and, and_true, false_and, and_false, eq_self, not_true_eq_false, not_false_eq_true, qz0, qz1, q00, q01, q10, q11, zb_z, zb_0, zb_1, zor, Bool.true_eq_false, Bool.false_eq_true, Bool.and_true, Bool.and_false, Bool.true_and, Bool.false_and, Bool.or_true, Bool.or_false, Bool.true_or, Bool.false_or, decide_eq_true_eq, decide_eq_false_iff_not, reduceCtorEq]; omega))) | (with_reducible apply hF; · (first | omega | (simp (disch := omega) only [a1, a4, a6, a7, qadd, qmul, qcl, qle, qlt, qeq, qlt0, q0le, qeq0, qle0, q0lt, true_or, or_true, false_or, or_false, true_and, and_true, false_and, and_false, eq_self, not_true_eq_false, not_false_eq_true, qz0, qz1, q00, q01, q10, q11, zb_z, zb_0, zb_1, zor, Bool.true_eq_false, Bool.false_eq_true, Bool.and_true, Bool.and_false, Bool.true_and, Bool.false_and, Bool.or_true, Bool.or_false, Bool.true_or, Bool.false_or, decide_eq_true_eq, decide_eq_false_iff_not, reduceCtorEq]; done) | (simp (disch := omega) only [a1, a4, a6, a7, qadd, qmul, qcl, qle, qlt, qeq, qlt0, q0le, qeq0, qle0, q0lt, true_or, or_true, false_or, or_false, true_and, and_true, false_and, and_false, eq_self, not_true_eq_false, not_false_eq_true, qz0, qz1, q00, q01, q10, q11, zb_z, zb_0, zb_1, zor, Bool.true_eq_false, Bool.false_eq_true, Bool.and_true, Bool.and_false, Bool.true_and, Bool.false_and, Bool.or_true, Bool.or_false, Bool.true_or, Bool.false_or, decide_eq_true_eq, decide_eq_false_iff_not, reduceCtorEq]; omega))))
    rw [qadd, a4, qcl (by omega)]
theorem s_mr25 (wk : WK K) (hR : R = 94 ∨ R = 99) {n : Nat} (hn : n < 24) (d : Nat) : ∀ j a l g h, a + j = 24 → Lay h → TT h R (rel K m) → LH h R l → UP (mg K m) kt l → LO (mg K m) kt l n 24 → LO (mg K m) kt l (n + 1) a → (g = false → ∀ u b, u < a → b < 24 → mg K m u b = true → l b + 1 ≤ l u) → ∃ l' g' h', (∀ Q, (∀ o3 o4 o5, Rl_measureRows_16 (d + 1) R (zb g') (nI (n + 1)) o3 o4 o5 h' = Q) → ∀ o4 o5, Rl_measureRows_25 (d + 1) R (zb g) (nI n) (nI a) o4 o5 h = Q) ∧ Fi (fun x _ => x = R + 3) h h' ∧ LH h' R l' ∧ UP (mg K m) kt l' ∧ LO (mg K m) kt l' (n + 1) 24 ∧ (g' = false → ∀ u b, u < 24 → b < 24 → mg K m u b = true → l' b + 1 ≤ l' u) := by
  have o := mg_or wk m
  intro j
  induction j with
  | zero =>
    intro a l g h ha hL tt lh up lo lo1 cl
    obtain rfl : a = 24 := by omega
    refine ⟨l, g, h, fun Q nx o4 o5 => ?_, Fi.rf, lh, up, lo1, cl⟩
    rw [e_Rl_measureRows_25]
    repeat (first | with_reducible refine hE ?_ | with_reducible refine hLi ?_ | (with_reducible apply hT; · (first | omega | (simp (disch := omega) only [qadd, qmul, qcl, qle, qlt, qeq, qlt0, q0le, qeq0, qle0, q0lt, true_or, or_true, false_or, or_false, true_and, and_true, false_and, and_false, eq_self, not_true_eq_false, not_false_eq_true, qz0, qz1, q00, q01, q10, q11, zb_z, zb_0, zb_1, zor, Bool.true_eq_false, Bool.false_eq_true, Bool.and_true, Bool.and_false, Bool.true_and, Bool.false_and, Bool.or_true, Bool.or_false, Bool.true_or, Bool.false_or, decide_eq_true_eq, decide_eq_false_iff_not, reduceCtorEq]; done) | (simp (disch := omega) only [qadd, qmul, qcl, qle, qlt, qeq, qlt0, q0le, qeq0, qle0, q0lt, true_or, or_true, false_or, or_false, true_and, and_true, false_and, and_false, eq_self, not_true_eq_false, not_false_eq_true, qz0, qz1, q00, q01, q10, q11, zb_z, zb_0, zb_1, zor, Bool.true_eq_false, Bool.false_eq_true, Bool.and_true, Bool.and_false, Bool.true_and, Bool.false_and, Bool.or_true, Bool.or_false, Bool.true_or, Bool.false_or, decide_eq_true_eq, decide_eq_false_iff_not, reduceCtorEq]; omega))) | (with_reducible apply hF; · (first | omega | (simp (disch := omega) only [qadd, qmul, qcl, qle, qlt, qeq, qlt0, q0le, qeq0, qle0, q0lt, true_or, or_true, false_or, or_false, true_and, and_true, false_and, and_false, eq_self, not_true_eq_false, not_false_eq_true, qz0, qz1, q00, q01, q10, q11, zb_z, zb_0, zb_1, zor, Bool.true_eq_false, Bool.false_eq_true, Bool.and_true, Bool.and_false, Bool.true_and, Bool.false_and, Bool.or_true, Bool.or_false, Bool.true_or, Bool.false_or, decide_eq_true_eq, decide_eq_false_iff_not, reduceCtorEq]; done) | (simp (disch := omega) only [qadd, qmul, qcl, qle, qlt, qeq, qlt0, q0le, qeq0, qle0, q0lt, true_or, or_true, false_or, or_false, true_and, and_true, false_and, and_false, eq_self, not_true_eq_false, not_false_eq_true, qz0, qz1, q00, q01, q10, q11, zb_z, zb_0, zb_1, zor, Bool.true_eq_false, Bool.false_eq_true, Bool.and_true, Bool.and_false, Bool.true_and, Bool.false_and, Bool.or_true, Bool.or_false, Bool.true_or, Bool.false_or, decide_eq_true_eq, decide_eq_false_iff_not, reduceCtorEq]; omega))))
    rw [qadd]
    exact nx _ _ _
  | succ j ih =>
    intro a l g h ha hL tt lh up lo lo1 cl
    have ha' : a < 24 := by omega
    obtain ⟨a1, a2, a3, a4, a5, ⟨a6, a7⟩, ⟨a8, a9⟩, ⟨a10, a11⟩, -⟩ := RA_of hL hR
    have tk := tt a ha'
    have ez : mI h (R + 1) a &&& (mI h (R + 2) a ^^^ (-1)) = bs (mg K m a) 24 := by rw [tk.1, tk.2, bs_gm]
    have la := lh a ha'
    obtain ⟨ua, va⟩ := up a ha' rfl
    have hl : ∀ k, k < 24 → l k ≤ 100 := fun k hk => by
      have h1 := (up k hk rfl).2
      have h2 := Ls_le (M := mg K m) k
      omega
    have hla := hl a ha'
    by_cases z : ∀ i, i < 24 → mg K m a i = false
    · have zM : (bs (mg K m a) 24 = 0) = True := by
        rw [bs_z]
        exact eq_true z
      obtain ⟨l', g', h', q, rest⟩ := ih (a + 1) l g h (by omega) hL tt lh up lo (fun u hu hk hr => by
        by_cases y : u = a
        · subst y
          exact lo_one o (mk_t _) up lo ha' rfl (by omega) (fun b hb hM => by rw [z b hb] at hM; cases hM)
        · exact lo1 u (by omega) hk hr) (fun hg u b hu hb hM => by
        by_cases y : u = a
        · subst y
          rw [z b hb] at hM
          cases hM
        · exact cl hg u b (by omega) hb hM)
      refine ⟨l', g', h', fun Q nx o4 o5 => ?_, rest⟩
      rw [e_Rl_measureRows_25]
      repeat (first | with_reducible refine hE ?_ | with_reducible refine hLi ?_ | (with_reducible apply hT; · (first | omega | (simp (disch := omega) only [a1, a2, a3, a4, a6, a7, a8, a9, a10, a11, ez, zM, la, qadd, qmul, qcl, qle, qlt, qeq, qlt0, q0le, qeq0, qle0, q0lt, true_or, or_true, false_or, or_false, true_and, and_true, false_and, and_false, eq_self, not_true_eq_false, not_false_eq_true, qz0, qz1, q00, q01, q10, q11, zb_z, zb_0, zb_1, zor, Bool.true_eq_false, Bool.false_eq_true, Bool.and_true, Bool.and_false, Bool.true_and, Bool.false_and, Bool.or_true, Bool.or_false, Bool.true_or, Bool.false_or, decide_eq_true_eq, decide_eq_false_iff_not, reduceCtorEq]; done) | (simp (disch := omega) only [a1, a2, a3, a4, a6, a7, a8, a9, a10, a11, ez, zM, la, qadd, qmul, qcl, qle, qlt, qeq, qlt0, q0le, qeq0, qle0, q0lt, true_or, or_true, false_or, or_false, true_and, and_true, false_and, and_false, eq_self, not_true_eq_false, not_false_eq_true, qz0, qz1, q00, q01, q10, q11, zb_z, zb_0, zb_1, zor, Bool.true_eq_false, Bool.false_eq_true, Bool.and_true, Bool.and_false, Bool.true_and, Bool.false_and, Bool.or_true, Bool.or_false, Bool.true_or, Bool.false_or, decide_eq_true_eq, decide_eq_false_iff_not, reduceCtorEq]; omega))) | (with_reducible apply hF; · (first | omega | (simp (disch := omega) only [a1, a2, a3, a4, a6, a7, a8, a9, a10, a11, ez, zM, la, qadd, qmul, qcl, qle, qlt, qeq, qlt0, q0le, qeq0, qle0, q0lt, true_or, or_true, false_or, or_false, true_and, and_true, false_and, and_false, eq_self, not_true_eq_false, not_false_eq_true, qz0, qz1, q00, q01, q10, q11, zb_z, zb_0, zb_1, zor, Bool.true_eq_false, Bool.false_eq_true, Bool.and_true, Bool.and_false, Bool.true_and, Bool.false_and, Bool.or_true, Bool.or_false, Bool.true_or, Bool.false_or, decide_eq_true_eq, decide_eq_false_iff_not, reduceCtorEq]; done) | (simp (disch := omega) only [a1, a2, a3, a4, a6, a7, a8, a9, a10, a11, ez, zM, la, qadd, qmul, qcl, qle, qlt, qeq, qlt0, q0le, qeq0, qle0, q0lt, true_or, or_true, false_or, or_false, true_and, and_true, false_and, and_false, eq_self, not_true_eq_false, not_false_eq_true, qz0, qz1, q00, q01, q10, q11, zb_z, zb_0, zb_1, zor, Bool.true_eq_false, Bool.false_eq_true, Bool.and_true, Bool.and_false, Bool.true_and, Bool.false_and, Bool.or_true, Bool.or_false, Bool.true_or, Bool.false_or, decide_eq_true_eq, decide_eq_false_iff_not, reduceCtorEq]; omega))))
      rw [qadd]
      exact q Q nx _ _
    · have zM : (bs (mg K m a) 24 = 0) = False := by
        rw [bs_z]
        exact eq_false z
      obtain ⟨i, hi, hMi⟩ : ∃ i, i < 24 ∧ mg K m a i = true := by
        apply Classical.byContradiction
        intro q
        apply z
        intro i hi
        cases hc : mg K m a i with
        | false => rfl
        | true => exact absurd ⟨i, hi, hc⟩ q
      have e1 := s_fol hR hL lh hl (mg K m a) d
      obtain ⟨f1, f2, f3, -⟩ := fl_is (p := mg K m a) (l := l) (fun i hi _ => (up i hi rfl).1) ⟨i, hi, hMi⟩
      obtain ⟨k, hk⟩ : ∃ k, k = fl (mg K m a) l := ⟨_, rfl⟩
      rw [← hk] at e1 f1 f2 f3
      have lk := lh k f1
      have hlk := hl k f1
      have mb : ∀ b, b < 24 → mg K m a b = true → l b ≤ l k := fun b hb hM => by
        rw [f3]
        exact mp_ge hb hM
      have hka : k ≠ a := by
        rintro rfl
        rw [o.1] at f2
        cases f2
      have k1 := Ls_ge o ha' f1 f2
      have k2 := (up k f1 rfl).2
      by_cases y : 1 + l k ≤ l a
      · obtain ⟨l', g', h', q, rest⟩ := ih (a + 1) l g h (by omega) hL tt lh up lo (fun u hu hk hr => by
          by_cases y2 : u = a
          · subst y2
            exact lo_one o (mk_t _) up lo ha' rfl (by omega) (fun b hb hM => by have := mb b hb hM; omega)
          · exact lo1 u (by omega) hk hr) (fun hg u b hu hb hM => by
          by_cases y2 : u = a
          · subst y2
            have := mb b hb hM
            omega
          · exact cl hg u b (by omega) hb hM)
        refine ⟨l', g', h', fun Q nx o4 o5 => ?_, rest⟩
        rw [e_Rl_measureRows_25]
        repeat (first | with_reducible refine hE ?_ | with_reducible refine hLi ?_ | (with_reducible apply hI; · (first | exact e1 | (simp (disch := omega) only [a1, a2, a3, a4, a6, a7, a8, a9, a10, a11, ez, zM, la, lk, qadd, qmul, qcl, qle, qlt, qeq, qlt0, q0le, qeq0, qle0, q0lt, true_or, or_true, false_or, or_false, true_and, and_true, false_and, and_false, eq_self, not_true_eq_false, not_false_eq_true, qz0, qz1, q00, q01, q10, q11, zb_z, zb_0, zb_1, zor, Bool.true_eq_false, Bool.false_eq_true, Bool.and_true, Bool.and_false, Bool.true_and, Bool.false_and, Bool.or_true, Bool.or_false, Bool.true_or, Bool.false_or, decide_eq_true_eq, decide_eq_false_iff_not, reduceCtorEq]; first | exact e1))) | (with_reducible apply hP; · (first | exact e1 | (simp (disch := omega) only [a1, a2, a3, a4, a6, a7, a8, a9, a10, a11, ez, zM, la, lk, qadd, qmul, qcl, qle, qlt, qeq, qlt0, q0le, qeq0, qle0, q0lt, true_or, or_true, false_or, or_false, true_and, and_true, false_and, and_false, eq_self, not_true_eq_false, not_false_eq_true, qz0, qz1, q00, q01, q10, q11, zb_z, zb_0, zb_1, zor, Bool.true_eq_false, Bool.false_eq_true, Bool.and_true, Bool.and_false, Bool.true_and, Bool.false_and, Bool.or_true, Bool.or_false, Bool.true_or, Bool.false_or, decide_eq_true_eq, decide_eq_false_iff_not, reduceCtorEq]; first | exact e1))) | (with_reducible apply hV; · (first | exact e1 | (simp (disch := omega) only [a1, a2, a3, a4, a6, a7, a8, a9, a10, a11, ez, zM, la, lk, qadd, qmul, qcl, qle, qlt, qeq, qlt0, q0le, qeq0, qle0, q0lt, true_or, or_true, false_or, or_false, true_and, and_true, false_and, and_false, eq_self, not_true_eq_false, not_false_eq_true, qz0, qz1, q00, q01, q10, q11, zb_z, zb_0, zb_1, zor, Bool.true_eq_false, Bool.false_eq_true, Bool.and_true, Bool.and_false, Bool.true_and, Bool.false_and, Bool.or_true, Bool.or_false, Bool.true_or, Bool.false_or, decide_eq_true_eq, decide_eq_false_iff_not, reduceCtorEq]; first | exact e1))) | (with_reducible apply hT; · (first | omega | (simp (disch := omega) only [a1, a2, a3, a4, a6, a7, a8, a9, a10, a11, ez, zM, la, lk, qadd, qmul, qcl, qle, qlt, qeq, qlt0, q0le, qeq0, qle0, q0lt, true_or, or_true, false_or, or_false, true_and, and_true, false_and, and_false, eq_self, not_true_eq_false, not_false_eq_true, qz0, qz1, q00, q01, q10, q11, zb_z, zb_0, zb_1, zor, Bool.true_eq_false, Bool.false_eq_true, Bool.and_true, Bool.and_false, Bool.true_and, Bool.false_and, Bool.or_true, Bool.or_false, Bool.true_or, Bool.false_or, decide_eq_true_eq, decide_eq_false_iff_not, reduceCtorEq]; done) | (simp (disch := omega) only [a1, a2, a3, a4, a6, a7, a8, a9, a10, a11, ez, zM, la, lk, qadd, qmul, qcl, qle, qlt, qeq, qlt0, q0le, qeq0, qle0, q0lt, true_or, or_true, false_or, or_false, true_and, and_true, false_and, and_false, eq_self, not_true_eq_false, not_false_eq_true, qz0, qz1, q00, q01, q10, q11, zb_z, zb_0, zb_1, zor, Bool.true_eq_false, Bool.false_eq_true, Bool.and_true, Bool.and_false, Bool.true_and, Bool.false_and, Bool.or_true, Bool.or_false, Bool.true_or, Bool.false_or, decide_eq_true_eq, decide_eq_false_iff_not, reduceCtorEq]; omega))) | (with_reducible apply hF; · (first | omega | (simp (disch := omega) only [a1, a2, a3, a4, a6, a7, a8, a9, a10, a11, ez, zM, la, lk, qadd, qmul, qcl, qle, qlt, qeq, qlt0, q0le, qeq0, qle0, q0lt, true_or, or_true, false_or, or_false, true_and, and_true, false_and, and_false, eq_self, not_true_eq_false, not_false_eq_true, qz0, qz1, q00, q01, q10, q11, zb_z, zb_0, zb_1, zor, Bool.true_eq_false, Bool.false_eq_true, Bool.and_true, Bool.and_false, Bool.true_and, Bool.false_and, Bool.or_true, Bool.or_false, Bool.true_or, Bool.false_or, decide_eq_true_eq, decide_eq_false_iff_not, reduceCtorEq]; done) | (simp (disch := omega) only [a1, a2, a3, a4, a6, a7, a8, a9, a10, a11, ez, zM, la, lk, qadd, qmul, qcl, qle, qlt, qeq, qlt0, q0le, qeq0, qle0, q0lt, true_or, or_true, false_or, or_false, true_and, and_true, false_and, and_false, eq_self, not_true_eq_false, not_false_eq_true, qz0, qz1, q00, q01, q10, q11, zb_z, zb_0, zb_1, zor, Bool.true_eq_false, Bool.false_eq_true, Bool.and_true, Bool.and_false, Bool.true_and, Bool.false_and, Bool.or_true, Bool.or_false, Bool.true_or, Bool.false_or, decide_eq_true_eq, decide_eq_false_iff_not, reduceCtorEq]; omega))))
        rw [qadd]
        exact q Q nx _ _
      · obtain ⟨l2, hl2⟩ : ∃ l2 : Nat → Nat, l2 = fun u => if u = a then 1 + l k else l u := ⟨_, rfl⟩
        have l2a : l2 a = 1 + l k := by rw [hl2]; exact if_pos rfl
        have l2o : ∀ u, u ≠ a → l2 u = l u := fun u hu => by rw [hl2]; exact if_neg hu
        have f0 : Fi (fun x _ => x = R + 3) h (msi h (R + 3) a (nI (1 + l k))) := Fi.si rfl
        have up2 : UP (mg K m) kt l2 := by
          intro u hu hk2
          by_cases y2 : u = a
          · subst y2
            rw [l2a]
            omega
          · rw [l2o u y2]
            exact up u hu hk2
        have lo2 : LO (mg K m) kt l2 n 24 := by
          intro u hu hk2 hr
          by_cases y2 : u = a
          · subst y2
            have := lo u hu hk2 hr
            omega
          · rw [l2o u y2]
            exact lo u hu hk2 hr
        have lo3 : LO (mg K m) kt l2 (n + 1) (a + 1) := by
          intro u hu hk2 hr
          by_cases y2 : u = a
          · subst y2
            refine lo_one o (mk_t _) up2 lo2 ha' rfl (by omega) (fun b hb hM => ?_)
            have hb2 : b ≠ u := by
              rintro rfl
              rw [o.1] at hM
              cases hM
            rw [l2a, l2o b hb2]
            have := mb b hb hM
            omega
          · rw [l2o u y2]
            exact lo1 u (by omega) hk2 hr
        have lh2 : LH (msi h (R + 3) a (nI (1 + l k))) R l2 := by
          intro u hu
          rw [mI_si]
          by_cases y2 : u = a
          · subst y2
            rw [if_pos ⟨rfl, rfl⟩, l2a]
          · rw [if_neg (by omega), l2o u y2]
            exact lh u hu
        obtain ⟨l', g', h', q, r1, rest⟩ := ih (a + 1) l2 true _ (by omega) (f0.lay hL) (tt.fi f0 (fun k => by omega) (fun k => by omega)) lh2 up2 lo2 lo3 (fun hg => by cases hg)
        refine ⟨l', g', h', fun Q nx o4 o5 => ?_, f0.tr r1, rest⟩
        rw [e_Rl_measureRows_25]
        repeat (first | with_reducible refine hE ?_ | with_reducible refine hLi ?_ | (with_reducible apply hI; · (first | exact e1 | (simp (disch := omega) only [a1, a2, a3, a4, a6, a7, a8, a9, a10, a11, ez, zM, la, lk, qadd, qmul, qcl, qle, qlt, qeq, qlt0, q0le, qeq0, qle0, q0lt, true_or, or_true, false_or, or_false, true_and, and_true, false_and, and_false, eq_self, not_true_eq_false, not_false_eq_true, qz0, qz1, q00, q01, q10, q11, zb_z, zb_0, zb_1, zor, Bool.true_eq_false, Bool.false_eq_true, Bool.and_true, Bool.and_false, Bool.true_and, Bool.false_and, Bool.or_true, Bool.or_false, Bool.true_or, Bool.false_or, decide_eq_true_eq, decide_eq_false_iff_not, reduceCtorEq]; first | exact e1))) | (with_reducible apply hP; · (first | exact e1 | (simp (disch := omega) only [a1, a2, a3, a4, a6, a7, a8, a9, a10, a11, ez, zM, la, lk, qadd, qmul, qcl, qle, qlt, qeq, qlt0, q0le, qeq0, qle0, q0lt, true_or, or_true, false_or, or_false, true_and, and_true, false_and, and_false, eq_self, not_true_eq_false, not_false_eq_true, qz0, qz1, q00, q01, q10, q11, zb_z, zb_0, zb_1, zor, Bool.true_eq_false, Bool.false_eq_true, Bool.and_true, Bool.and_false, Bool.true_and, Bool.false_and, Bool.or_true, Bool.or_false, Bool.true_or, Bool.false_or, decide_eq_true_eq, decide_eq_false_iff_not, reduceCtorEq]; first | exact e1))) | (with_reducible apply hV; · (first | exact e1 | (simp (disch := omega) only [a1, a2, a3, a4, a6, a7, a8, a9, a10, a11, ez, zM, la, lk, qadd, qmul, qcl, qle, qlt, qeq, qlt0, q0le, qeq0, qle0, q0lt, true_or, or_true, false_or, or_false, true_and, and_true, false_and, and_false, eq_self, not_true_eq_false, not_false_eq_true, qz0, qz1, q00, q01, q10, q11, zb_z, zb_0, zb_1, zor, Bool.true_eq_false, Bool.false_eq_true, Bool.and_true, Bool.and_false, Bool.true_and, Bool.false_and, Bool.or_true, Bool.or_false, Bool.true_or, Bool.false_or, decide_eq_true_eq, decide_eq_false_iff_not, reduceCtorEq]; first | exact e1))) | (with_reducible apply hT; · (first | omega | (simp (disch := omega) only [a1, a2, a3, a4, a6, a7, a8, a9, a10, a11, ez, zM, la, lk, qadd, qmul, qcl, qle, qlt, qeq, qlt0, q0le, qeq0, qle0, q0lt, true_or, or_true, false_or, or_false, true_and, and_true, false_and, and_false, eq_self, not_true_eq_false, not_false_eq_true, qz0, qz1, q00, q01, q10, q11, zb_z, zb_0, zb_1, zor, Bool.true_eq_false, Bool.false_eq_true, Bool.and_true, Bool.and_false, Bool.true_and, Bool.false_and, Bool.or_true, Bool.or_false, Bool.true_or, Bool.false_or, decide_eq_true_eq, decide_eq_false_iff_not, reduceCtorEq]; done) | (simp (disch := omega) only [a1, a2, a3, a4, a6, a7, a8, a9, a10, a11, ez, zM, la, lk, qadd, qmul, qcl, qle, qlt, qeq, qlt0, q0le, qeq0, qle0, q0lt, true_or, or_true, false_or, or_false, true_and, and_true, false_and, and_false, eq_self, not_true_eq_false, not_false_eq_true, qz0, qz1, q00, q01, q10, q11, zb_z, zb_0, zb_1, zor, Bool.true_eq_false, Bool.false_eq_true, Bool.and_true, Bool.and_false, Bool.true_and, Bool.false_and, Bool.or_true, Bool.or_false, Bool.true_or, Bool.false_or, decide_eq_true_eq, decide_eq_false_iff_not, reduceCtorEq]; omega))) | (with_reducible apply hF; · (first | omega | (simp (disch := omega) only [a1, a2, a3, a4, a6, a7, a8, a9, a10, a11, ez, zM, la, lk, qadd, qmul, qcl, qle, qlt, qeq, qlt0, q0le, qeq0, qle0, q0lt, true_or, or_true, false_or, or_false, true_and, and_true, false_and, and_false, eq_self, not_true_eq_false, not_false_eq_true, qz0, qz1, q00, q01, q10, q11, zb_z, zb_0, zb_1, zor, Bool.true_eq_false, Bool.false_eq_true, Bool.and_true, Bool.and_false, Bool.true_and, Bool.false_and, Bool.or_true, Bool.or_false, Bool.true_or, Bool.false_or, decide_eq_true_eq, decide_eq_false_iff_not, reduceCtorEq]; done) | (simp (disch := omega) only [a1, a2, a3, a4, a6, a7, a8, a9, a10, a11, ez, zM, la, lk, qadd, qmul, qcl, qle, qlt, qeq, qlt0, q0le, qeq0, qle0, q0lt, true_or, or_true, false_or, or_false, true_and, and_true, false_and, and_false, eq_self, not_true_eq_false, not_false_eq_true, qz0, qz1, q00, q01, q10, q11, zb_z, zb_0, zb_1, zor, Bool.true_eq_false, Bool.false_eq_true, Bool.and_true, Bool.and_false, Bool.true_and, Bool.false_and, Bool.or_true, Bool.or_false, Bool.true_or, Bool.false_or, decide_eq_true_eq, decide_eq_false_iff_not, reduceCtorEq]; omega))))
        simp (disch := omega) only [a4, qadd, qmul, qcl, qle, qlt, qeq, qlt0, q0le, qeq0, qle0, q0lt, lk]
        exact q Q nx _ _
theorem s_mr16 (wk : WK K) (hR : R = 94 ∨ R = 99) (d : Nat) : ∀ j n l g h, n + j = 24 → Lay h → TT h R (rel K m) → LH h R l → UP (mg K m) kt l → LO (mg K m) kt l n 24 → (g = false → ∀ u b, u < 24 → b < 24 → mg K m u b = true → l b + 1 ≤ l u) → ∃ h', (∀ o3 o4 o5, Rl_measureRows_16 (d + 1) R (zb g) (nI n) o3 o4 o5 h = some (none, h')) ∧ Fi (fun x _ => x = R + 3) h h' ∧ LH h' R (Ls (mg K m)) := by
  have o := mg_or wk m
  intro j
  induction j with
  | zero =>
    intro n l g h hn hL tt lh up lo cl
    obtain rfl : n = 24 := by omega
    refine ⟨h, fun o3 o4 o5 => ?_, Fi.rf, fun u hu => ?_⟩
    · rw [e_Rl_measureRows_16]
      repeat (first | with_reducible refine hE ?_ | with_reducible refine hLi ?_ | (with_reducible apply hT; · (first | omega | (simp (disch := omega) only [qadd, qmul, qcl, qle, qlt, qeq, qlt0, q0le, qeq0, qle0, q0lt, true_or, or_true, false_or, or_false, true_and, and_true, false_and, and_false, eq_self, not_true_eq_false, not_false_eq_true, qz0, qz1, q00, q01, q10, q11, zb_z, zb_0, zb_1, zor, Bool.true_eq_false, Bool.false_eq_true, Bool.and_true, Bool.and_false, Bool.true_and, Bool.false_and, Bool.or_true, Bool.or_false, Bool.true_or, Bool.false_or, decide_eq_true_eq, decide_eq_false_iff_not, reduceCtorEq]; done) | (simp (disch := omega) only [qadd, qmul, qcl, qle, qlt, qeq, qlt0, q0le, qeq0, qle0, q0lt, true_or, or_true, false_or, or_false, true_and, and_true, false_and, and_false, eq_self, not_true_eq_false, not_false_eq_true, qz0, qz1, q00, q01, q10, q11, zb_z, zb_0, zb_1, zor, Bool.true_eq_false, Bool.false_eq_true, Bool.and_true, Bool.and_false, Bool.true_and, Bool.false_and, Bool.or_true, Bool.or_false, Bool.true_or, Bool.false_or, decide_eq_true_eq, decide_eq_false_iff_not, reduceCtorEq]; omega))) | (with_reducible apply hF; · (first | omega | (simp (disch := omega) only [qadd, qmul, qcl, qle, qlt, qeq, qlt0, q0le, qeq0, qle0, q0lt, true_or, or_true, false_or, or_false, true_and, and_true, false_and, and_false, eq_self, not_true_eq_false, not_false_eq_true, qz0, qz1, q00, q01, q10, q11, zb_z, zb_0, zb_1, zor, Bool.true_eq_false, Bool.false_eq_true, Bool.and_true, Bool.and_false, Bool.true_and, Bool.false_and, Bool.or_true, Bool.or_false, Bool.true_or, Bool.false_or, decide_eq_true_eq, decide_eq_false_iff_not, reduceCtorEq]; done) | (simp (disch := omega) only [qadd, qmul, qcl, qle, qlt, qeq, qlt0, q0le, qeq0, qle0, q0lt, true_or, or_true, false_or, or_false, true_and, and_true, false_and, and_false, eq_self, not_true_eq_false, not_false_eq_true, qz0, qz1, q00, q01, q10, q11, zb_z, zb_0, zb_1, zor, Bool.true_eq_false, Bool.false_eq_true, Bool.and_true, Bool.and_false, Bool.true_and, Bool.false_and, Bool.or_true, Bool.or_false, Bool.true_or, Bool.false_or, decide_eq_true_eq, decide_eq_false_iff_not, reduceCtorEq]; omega))))
      rfl
    · rw [lh u hu, lo_24 o lo u hu rfl]
  | succ j ih =>
    intro n l g h hn hL tt lh up lo cl
    cases g with
    | false =>
      have lo' := cl_all o (mk_t _) up (cl rfl) 24
      refine ⟨h, fun o3 o4 o5 => ?_, Fi.rf, fun u hu => ?_⟩
      · rw [e_Rl_measureRows_16]
        repeat (first | with_reducible refine hE ?_ | with_reducible refine hLi ?_ | (with_reducible apply hT; · (first | omega | (simp (disch := omega) only [qadd, qmul, qcl, qle, qlt, qeq, qlt0, q0le, qeq0, qle0, q0lt, true_or, or_true, false_or, or_false, true_and, and_true, false_and, and_false, eq_self, not_true_eq_false, not_false_eq_true, qz0, qz1, q00, q01, q10, q11, zb_z, zb_0, zb_1, zor, Bool.true_eq_false, Bool.false_eq_true, Bool.and_true, Bool.and_false, Bool.true_and, Bool.false_and, Bool.or_true, Bool.or_false, Bool.true_or, Bool.false_or, decide_eq_true_eq, decide_eq_false_iff_not, reduceCtorEq]; done) | (simp (disch := omega) only [qadd, qmul, qcl, qle, qlt, qeq, qlt0, q0le, qeq0, qle0, q0lt, true_or, or_true, false_or, or_false, true_and, and_true, false_and, and_false, eq_self, not_true_eq_false, not_false_eq_true, qz0, qz1, q00, q01, q10, q11, zb_z, zb_0, zb_1, zor, Bool.true_eq_false, Bool.false_eq_true, Bool.and_true, Bool.and_false, Bool.true_and, Bool.false_and, Bool.or_true, Bool.or_false, Bool.true_or, Bool.false_or, decide_eq_true_eq, decide_eq_false_iff_not, reduceCtorEq]; omega))) | (with_reducible apply hF; · (first | omega | (simp (disch := omega) only [qadd, qmul, qcl, qle, qlt, qeq, qlt0, q0le, qeq0, qle0, q0lt, true_or, or_true, false_or, or_false, true_and, and_true, false_and, and_false, eq_self, not_true_eq_false, not_false_eq_true, qz0, qz1, q00, q01, q10, q11, zb_z, zb_0, zb_1, zor, Bool.true_eq_false, Bool.false_eq_true, Bool.and_true, Bool.and_false, Bool.true_and, Bool.false_and, Bool.or_true, Bool.or_false, Bool.true_or, Bool.false_or, decide_eq_true_eq, decide_eq_false_iff_not, reduceCtorEq]; done) | (simp (disch := omega) only [qadd, qmul, qcl, qle, qlt, qeq, qlt0, q0le, qeq0, qle0, q0lt, true_or, or_true, false_or, or_false, true_and, and_true, false_and, and_false, eq_self, not_true_eq_false, not_false_eq_true, qz0, qz1, q00, q01, q10, q11, zb_z, zb_0, zb_1, zor, Bool.true_eq_false, Bool.false_eq_true, Bool.and_true, Bool.and_false, Bool.true_and, Bool.false_and, Bool.or_true, Bool.or_false, Bool.true_or, Bool.false_or, decide_eq_true_eq, decide_eq_false_iff_not, reduceCtorEq]; omega))))
        rfl
      · rw [lh u hu, lo_24 o lo' u hu rfl]
    | true =>
      obtain ⟨l', g', h1, q, r1, r2, r3, r4, r5⟩ := s_mr25 wk hR (n := n) (by omega) d 24 0 l false h (Nat.zero_add _) hL tt lh up lo (fun u hu => absurd hu (Nat.not_lt_zero _)) (fun _ u b hu => absurd hu (Nat.not_lt_zero _))
      obtain ⟨h', i1, i2, i3⟩ := ih (n + 1) l' g' h1 (by omega) (r1.lay hL) (tt.fi r1 (fun k => by omega) (fun k => by omega)) r2 r3 r4 r5
      refine ⟨h', fun o3 o4 o5 => ?_, r1.tr i2, i3⟩
      rw [e_Rl_measureRows_16]
      repeat (first | with_reducible refine hE ?_ | with_reducible refine hLi ?_ | (with_reducible apply hT; · (first | omega | (simp (disch := omega) only [qadd, qmul, qcl, qle, qlt, qeq, qlt0, q0le, qeq0, qle0, q0lt, true_or, or_true, false_or, or_false, true_and, and_true, false_and, and_false, eq_self, not_true_eq_false, not_false_eq_true, qz0, qz1, q00, q01, q10, q11, zb_z, zb_0, zb_1, zor, Bool.true_eq_false, Bool.false_eq_true, Bool.and_true, Bool.and_false, Bool.true_and, Bool.false_and, Bool.or_true, Bool.or_false, Bool.true_or, Bool.false_or, decide_eq_true_eq, decide_eq_false_iff_not, reduceCtorEq]; done) | (simp (disch := omega) only [qadd, qmul, qcl, qle, qlt, qeq, qlt0, q0le, qeq0, qle0, q0lt, true_or, or_true, false_or, or_false, true_and, and_true, false_and, and_false, eq_self, not_true_eq_false, not_false_eq_true, qz0, qz1, q00, q01, q10, q11, zb_z, zb_0, zb_1, zor, Bool.true_eq_false, Bool.false_eq_true, Bool.and_true, Bool.and_false, Bool.true_and, Bool.false_and, Bool.or_true, Bool.or_false, Bool.true_or, Bool.false_or, decide_eq_true_eq, decide_eq_false_iff_not, reduceCtorEq]; omega))) | (with_reducible apply hF; · (first | omega | (simp (disch := omega) only [qadd, qmul, qcl, qle, qlt, qeq, qlt0, q0le, qeq0, qle0, q0lt, true_or, or_true, false_or, or_false, true_and, and_true, false_and, and_false, eq_self, not_true_eq_false, not_false_eq_true, qz0, qz1, q00, q01, q10, q11, zb_z, zb_0, zb_1, zor, Bool.true_eq_false, Bool.false_eq_true, Bool.and_true, Bool.and_false, Bool.true_and, Bool.false_and, Bool.or_true, Bool.or_false, Bool.true_or, Bool.false_or, decide_eq_true_eq, decide_eq_false_iff_not, reduceCtorEq]; done) | (simp (disch := omega) only [qadd, qmul, qcl, qle, qlt, qeq, qlt0, q0le, qeq0, qle0, q0lt, true_or, or_true, false_or, or_false, true_and, and_true, false_and, and_false, eq_self, not_true_eq_false, not_false_eq_true, qz0, qz1, q00, q01, q10, q11, zb_z, zb_0, zb_1, zor, Bool.true_eq_false, Bool.false_eq_true, Bool.and_true, Bool.and_false, Bool.true_and, Bool.false_and, Bool.or_true, Bool.or_false, Bool.true_or, Bool.false_or, decide_eq_true_eq, decide_eq_false_iff_not, reduceCtorEq]; omega))))
      exact q _ i1 _ _
theorem s_measureRows (wk : WK K) (hR : R = 94 ∨ R = 99) (hL : Lay h) (tt : TT h R (rel K m)) (d : Nat) : ∃ h', Rl_measureRows (d + 2) R h = some (none, h') ∧ Fi (fun x _ => x = R + 3) h h' ∧ LH h' R (Ls (mg K m)) := by
  have o := mg_or wk m
  obtain ⟨h1, e1, f1, l1⟩ := s_mr2 hR (d + 1) none none none none 24 0 h (Nat.zero_add _) hL (fun u hu => absurd hu (Nat.not_lt_zero _))
  obtain ⟨h', e2, f2, l2⟩ := s_mr16 (m := m) wk hR d 24 0 (fun _ => 1) true h1 (Nat.zero_add _) (f1.lay hL) (tt.fi f1 (fun k => by omega) (fun k => by omega)) l1 (fun u hu _ => ⟨Nat.le_refl _, Ls_pos o hu⟩) (fun u _ _ hr => absurd hr (Nat.not_lt_zero _)) (fun hg => by cases hg)
  refine ⟨h', ?_, f1.tr f2, l2⟩
  rw [e_Rl_measureRows, e1]
  exact e2 _ _ _
theorem s_lay9 (wk : WK K) (hR : R = 94 ∨ R = 99) (d : Nat) : ∀ j i p h, i + j ≤ 24 → mp p (Ls (mg K m)) = j → Lay h → TT h R (rel K m) → LH h R (Ls (mg K m)) → ∃ h', (∀ o4, Rl_layLongestRow_9 (d + 1) R (bs p 24) (nI i) (nI i) o4 h = some (some (vi (nI (i + j))), h')) ∧ Fi (fun x _ => x = R + 4) h h' ∧ (∀ t, t < i → mI h' (R + 4) t = mI h (R + 4) t) ∧ ∀ t, t < j → mI h' (R + 4) (i + t) = nI (sq (mg K m) p t) := by
  have o := mg_or wk m
  intro j
  induction j with
  | zero =>
    intro i p h hi hp hL tt lh
    have zM : (bs p 24 = 0) = True := by
      rw [bs_z]
      refine eq_true (fun b hb => ?_)
      cases hq : p b with
      | false => rfl
      | true =>
        have h1 := mp_ge (l := Ls (mg K m)) hb hq
        have h2 := Ls_pos o hb
        omega
    refine ⟨h, fun o4 => ?_, Fi.rf, fun t _ => rfl, fun t ht => absurd ht (Nat.not_lt_zero _)⟩
    rw [e_Rl_layLongestRow_9]
    by_cases z : i = 24
    · repeat (first | with_reducible refine hE ?_ | with_reducible refine hLi ?_ | (with_reducible apply hT; · (first | omega | (simp (disch := omega) only [qadd, qmul, qcl, qle, qlt, qeq, qlt0, q0le, qeq0, qle0, q0lt, true_or, or_true, false_or, or_false, true_and, and_true, false_and, and_false, eq_self, not_true_eq_false, not_false_eq_true, qz0, qz1, q00, q01, q10, q11, zb_z, zb_0, zb_1, zor, Bool.true_eq_false, Bool.false_eq_true, Bool.and_true, Bool.and_false, Bool.true_and, Bool.false_and, Bool.or_true, Bool.or_false, Bool.true_or, Bool.false_or, decide_eq_true_eq, decide_eq_false_iff_not, reduceCtorEq]; done) | (simp (disch := omega) only [qadd, qmul, qcl, qle, qlt, qeq, qlt0, q0le, qeq0, qle0, q0lt, true_or, or_true, false_or, or_false, true_and, and_true, false_and, and_false, eq_self, not_true_eq_false, not_false_eq_true, qz0, qz1, q00, q01, q10, q11, zb_z, zb_0, zb_1, zor, Bool.true_eq_false, Bool.false_eq_true, Bool.and_true, Bool.and_false, Bool.true_and, Bool.false_and, Bool.or_true, Bool.or_false, Bool.true_or, Bool.false_or, decide_eq_true_eq, decide_eq_false_iff_not, reduceCtorEq]; omega))) | (with_reducible apply hF; · (first | omega | (simp (disch := omega) only [qadd, qmul, qcl, qle, qlt, qeq, qlt0, q0le, qeq0, qle0, q0lt, true_or, or_true, false_or, or_false, true_and, and_true, false_and, and_false, eq_self, not_true_eq_false, not_false_eq_true, qz0, qz1, q00, q01, q10, q11, zb_z, zb_0, zb_1, zor, Bool.true_eq_false, Bool.false_eq_true, Bool.and_true, Bool.and_false, Bool.true_and, Bool.false_and, Bool.or_true, Bool.or_false, Bool.true_or, Bool.false_or, decide_eq_true_eq, decide_eq_false_iff_not, reduceCtorEq]; done) | (simp (disch := omega) only [qadd, qmul, qcl, qle, qlt, qeq, qlt0, q0le, qeq0, qle0, q0lt, true_or, or_true, false_or, or_false, true_and, and_true, false_and, and_false, eq_self, not_true_eq_false, not_false_eq_true, qz0, qz1, q00, q01, q10, q11, zb_z, zb_0, zb_1, zor, Bool.true_eq_false, Bool.false_eq_true, Bool.and_true, Bool.and_false, Bool.true_and, Bool.false_and, Bool.or_true, Bool.or_false, Bool.true_or, Bool.false_or, decide_eq_true_eq, decide_eq_false_iff_not, reduceCtorEq]; omega))))
      rfl
    · repeat (first | with_reducible refine hE ?_ | with_reducible refine hLi ?_ | (with_reducible apply hT; · (first | omega | (simp (disch := omega) only [zM, qadd, qmul, qcl, qle, qlt, qeq, qlt0, q0le, qeq0, qle0, q0lt, true_or, or_true, false_or, or_false, true_and, and_true, false_and, and_false, eq_self, not_true_eq_false, not_false_eq_true, qz0, qz1, q00, q01, q10, q11, zb_z, zb_0, zb_1, zor, Bool.true_eq_false, Bool.false_eq_true, Bool.and_true, Bool.and_false, Bool.true_and, Bool.false_and, Bool.or_true, Bool.or_false, Bool.true_or, Bool.false_or, decide_eq_true_eq, decide_eq_false_iff_not, reduceCtorEq]; done) | (simp (disch := omega) only [zM, qadd, qmul, qcl, qle, qlt, qeq, qlt0, q0le, qeq0, qle0, q0lt, true_or, or_true, false_or, or_false, true_and, and_true, false_and, and_false, eq_self, not_true_eq_false, not_false_eq_true, qz0, qz1, q00, q01, q10, q11, zb_z, zb_0, zb_1, zor, Bool.true_eq_false, Bool.false_eq_true, Bool.and_true, Bool.and_false, Bool.true_and, Bool.false_and, Bool.or_true, Bool.or_false, Bool.true_or, Bool.false_or, decide_eq_true_eq, decide_eq_false_iff_not, reduceCtorEq]; omega))) | (with_reducible apply hF; · (first | omega | (simp (disch := omega) only [zM, qadd, qmul, qcl, qle, qlt, qeq, qlt0, q0le, qeq0, qle0, q0lt, true_or, or_true, false_or, or_false, true_and, and_true, false_and, and_false, eq_self, not_true_eq_false, not_false_eq_true, qz0, qz1, q00, q01, q10, q11, zb_z, zb_0, zb_1, zor, Bool.true_eq_false, Bool.false_eq_true, Bool.and_true, Bool.and_false, Bool.true_and, Bool.false_and, Bool.or_true, Bool.or_false, Bool.true_or, Bool.false_or, decide_eq_true_eq, decide_eq_false_iff_not, reduceCtorEq]; done) | (simp (disch := omega) only [zM, qadd, qmul, qcl, qle, qlt, qeq, qlt0, q0le, qeq0, qle0, q0lt, true_or, or_true, false_or, or_false, true_and, and_true, false_and, and_false, eq_self, not_true_eq_false, not_false_eq_true, qz0, qz1, q00, q01, q10, q11, zb_z, zb_0, zb_1, zor, Bool.true_eq_false, Bool.false_eq_true, Bool.and_true, Bool.and_false, Bool.true_and, Bool.false_and, Bool.or_true, Bool.or_false, Bool.true_or, Bool.false_or, decide_eq_true_eq, decide_eq_false_iff_not, reduceCtorEq]; omega))))
      rfl
  | succ j ih =>
    intro i p h hi hp hL tt lh
    obtain ⟨a1, a2, a3, a4, a5, ⟨a6, a7⟩, ⟨a8, a9⟩, -, a12, a13⟩ := RA_of hL hR
    obtain ⟨b, hb, hpb, -⟩ := mp_at (show 0 < mp p (Ls (mg K m)) by omega)
    have zM : (bs p 24 = 0) = False := by
      rw [bs_z]
      refine eq_false (fun z => ?_)
      rw [z b hb] at hpb
      cases hpb
    have e1 := s_fol hR hL lh (fun k _ => by have := Ls_le (M := mg K m) k; omega) p d
    obtain ⟨f1, f2, f3, -⟩ := fl_is (p := p) (l := Ls (mg K m)) (fun i hi _ => Ls_pos o hi) ⟨b, hb, hpb⟩
    have es : ∀ t, sq (mg K m) p (t + 1) = sq (mg K m) (mg K m (fl p (Ls (mg K m)))) t := fun _ => rfl
    have es0 : sq (mg K m) p 0 = fl p (Ls (mg K m)) := rfl
    obtain ⟨k, hk⟩ : ∃ k, k = fl p (Ls (mg K m)) := ⟨_, rfl⟩
    rw [← hk] at e1 f1 f2 f3 es es0
    obtain ⟨G, hG⟩ : ∃ G, G = msi h (R + 4) i (nI k) := ⟨_, rfl⟩
    have f0 : Fi (fun x _ => x = R + 4) h G := by rw [hG]; exact Fi.si rfl
    have tt2 : TT G R (rel K m) := tt.fi f0 (fun k => by omega) (fun k => by omega)
    have tk := tt2 k f1
    have ez : mI G (R + 1) k &&& (mI G (R + 2) k ^^^ (-1)) = bs (mg K m k) 24 := by rw [tk.1, tk.2, bs_gm]
    have hj : mp (mg K m k) (Ls (mg K m)) = j := by
      have := Ls_fix o f1
      omega
    obtain ⟨h', q, r1, r2, r3⟩ := ih (i + 1) (mg K m k) G (by omega) hj (f0.lay hL) tt2 (fun u hu => by rw [f0.2 _ _ (by omega)]; exact lh u hu)
    refine ⟨h', fun o4 => ?_, f0.tr r1, fun t ht => ?_, fun t ht => ?_⟩
    · rw [e_Rl_layLongestRow_9]
      repeat (first | with_reducible refine hE ?_ | with_reducible refine hLi ?_ | (with_reducible apply hI; · (first | exact e1 | (simp (disch := omega) only [a1, a2, a3, a5, a6, a7, a8, a9, a12, a13, zM, mK_si, mN_si, mP_si, mT_si, mU_si, mK_sp, mN_sp, mI_sp, mT_sp, mU_sp, qadd, qmul, qcl, qle, qlt, qeq, qlt0, q0le, qeq0, qle0, q0lt, true_or, or_true, false_or, or_false, true_and, and_true, false_and, and_false, eq_self, not_true_eq_false, not_false_eq_true, qz0, qz1, q00, q01, q10, q11, zb_z, zb_0, zb_1, zor, Bool.true_eq_false, Bool.false_eq_true, Bool.and_true, Bool.and_false, Bool.true_and, Bool.false_and, Bool.or_true, Bool.or_false, Bool.true_or, Bool.false_or, decide_eq_true_eq, decide_eq_false_iff_not, reduceCtorEq]; first | exact e1))) | (with_reducible apply hP; · (first | exact e1 | (simp (disch := omega) only [a1, a2, a3, a5, a6, a7, a8, a9, a12, a13, zM, mK_si, mN_si, mP_si, mT_si, mU_si, mK_sp, mN_sp, mI_sp, mT_sp, mU_sp, qadd, qmul, qcl, qle, qlt, qeq, qlt0, q0le, qeq0, qle0, q0lt, true_or, or_true, false_or, or_false, true_and, and_true, false_and, and_false, eq_self, not_true_eq_false, not_false_eq_true, qz0, qz1, q00, q01, q10, q11, zb_z, zb_0, zb_1, zor, Bool.true_eq_false, Bool.false_eq_true, Bool.and_true, Bool.and_false, Bool.true_and, Bool.false_and, Bool.or_true, Bool.or_false, Bool.true_or, Bool.false_or, decide_eq_true_eq, decide_eq_false_iff_not, reduceCtorEq]; first | exact e1))) | (with_reducible apply hV; · (first | exact e1 | (simp (disch := omega) only [a1, a2, a3, a5, a6, a7, a8, a9, a12, a13, zM, mK_si, mN_si, mP_si, mT_si, mU_si, mK_sp, mN_sp, mI_sp, mT_sp, mU_sp, qadd, qmul, qcl, qle, qlt, qeq, qlt0, q0le, qeq0, qle0, q0lt, true_or, or_true, false_or, or_false, true_and, and_true, false_and, and_false, eq_self, not_true_eq_false, not_false_eq_true, qz0, qz1, q00, q01, q10, q11, zb_z, zb_0, zb_1, zor, Bool.true_eq_false, Bool.false_eq_true, Bool.and_true, Bool.and_false, Bool.true_and, Bool.false_and, Bool.or_true, Bool.or_false, Bool.true_or, Bool.false_or, decide_eq_true_eq, decide_eq_false_iff_not, reduceCtorEq]; first | exact e1))) | (with_reducible apply hT; · (first | omega | (simp (disch := omega) only [a1, a2, a3, a5, a6, a7, a8, a9, a12, a13, zM, mK_si, mN_si, mP_si, mT_si, mU_si, mK_sp, mN_sp, mI_sp, mT_sp, mU_sp, qadd, qmul, qcl, qle, qlt, qeq, qlt0, q0le, qeq0, qle0, q0lt, true_or, or_true, false_or, or_false, true_and, and_true, false_and, and_false, eq_self, not_true_eq_false, not_false_eq_true, qz0, qz1, q00, q01, q10, q11, zb_z, zb_0, zb_1, zor, Bool.true_eq_false, Bool.false_eq_true, Bool.and_true, Bool.and_false, Bool.true_and, Bool.false_and, Bool.or_true, Bool.or_false, Bool.true_or, Bool.false_or, decide_eq_true_eq, decide_eq_false_iff_not, reduceCtorEq]; done) | (simp (disch := omega) only [a1, a2, a3, a5, a6, a7, a8, a9, a12, a13, zM, mK_si, mN_si, mP_si, mT_si, mU_si, mK_sp, mN_sp, mI_sp, mT_sp, mU_sp, qadd, qmul, qcl, qle, qlt, qeq, qlt0, q0le, qeq0, qle0, q0lt, true_or, or_true, false_or, or_false, true_and, and_true, false_and, and_false, eq_self, not_true_eq_false, not_false_eq_true, qz0, qz1, q00, q01, q10, q11, zb_z, zb_0, zb_1, zor, Bool.true_eq_false, Bool.false_eq_true, Bool.and_true, Bool.and_false, Bool.true_and, Bool.false_and, Bool.or_true, Bool.or_false, Bool.true_or, Bool.false_or, decide_eq_true_eq, decide_eq_false_iff_not, reduceCtorEq]; omega))) | (with_reducible apply hF; · (first | omega | (simp (disch := omega) only [a1, a2, a3, a5, a6, a7, a8, a9, a12, a13, zM, mK_si, mN_si, mP_si, mT_si, mU_si, mK_sp, mN_sp, mI_sp, mT_sp, mU_sp, qadd, qmul, qcl, qle, qlt, qeq, qlt0, q0le, qeq0, qle0, q0lt, true_or, or_true, false_or, or_false, true_and, and_true, false_and, and_false, eq_self, not_true_eq_false, not_false_eq_true, qz0, qz1, q00, q01, q10, q11, zb_z, zb_0, zb_1, zor, Bool.true_eq_false, Bool.false_eq_true, Bool.and_true, Bool.and_false, Bool.true_and, Bool.false_and, Bool.or_true, Bool.or_false, Bool.true_or, Bool.false_or, decide_eq_true_eq, decide_eq_false_iff_not, reduceCtorEq]; done) | (simp (disch := omega) only [a1, a2, a3, a5, a6, a7, a8, a9, a12, a13, zM, mK_si, mN_si, mP_si, mT_si, mU_si, mK_sp, mN_sp, mI_sp, mT_sp, mU_sp, qadd, qmul, qcl, qle, qlt, qeq, qlt0, q0le, qeq0, qle0, q0lt, true_or, or_true, false_or, or_false, true_and, and_true, false_and, and_false, eq_self, not_true_eq_false, not_false_eq_true, qz0, qz1, q00, q01, q10, q11, zb_z, zb_0, zb_1, zor, Bool.true_eq_false, Bool.false_eq_true, Bool.and_true, Bool.and_false, Bool.true_and, Bool.false_and, Bool.or_true, Bool.or_false, Bool.true_or, Bool.false_or, decide_eq_true_eq, decide_eq_false_iff_not, reduceCtorEq]; omega))))
      rw [a5, qcl (show i < 2147483648 by omega), ← hG]
      rw [hG] at ez
      have b1 : mP G R 0 = R + 1 := by rw [hG, mP_si]; exact a2
      have b2 : mP G R 1 = R + 2 := by rw [hG, mP_si]; exact a3
      rw [← hG] at ez
      rw [b1, b2, qcl (show k < 2147483648 by omega), ez, qadd, show i + (j + 1) = i + 1 + j by omega]
      exact q _
    · rw [r2 t (by omega), hG, mI_si, if_neg (by omega)]
    · cases t with
      | zero =>
        show mI h' (R + 4) i = nI (sq (mg K m) p 0)
        rw [r2 i (by omega), hG, mI_si, if_pos ⟨rfl, rfl⟩, es0]
      | succ t =>
        rw [es, ← r3 t (by omega), show i + (t + 1) = i + 1 + t by omega]
theorem s_layLongest (wk : WK K) (hR : R = 94 ∨ R = 99) (hL : Lay h) (rt : RT h K m R) (d : Nat) : ∃ h', Rl_layLongestRow (d + 3) R h = some (some (vi (nI (mp (kk K) (Ls (mg K m))))), h') ∧ Fi (fun x _ => x = R + 3 ∨ x = R + 4) h h' ∧ ∀ t, t < mp (kk K) (Ls (mg K m)) → mI h' (R + 4) t = nI (sq (mg K m) (kk K) t) := by
  obtain ⟨a1, -⟩ := RA_of hL hR
  obtain ⟨h1, e1, f1, l1⟩ := s_measureRows (m := m) wk hR hL rt.2 d
  have hL1 := f1.lay hL
  obtain ⟨b1, -⟩ := RA_of hL1 hR
  have hb : mI h1 R 4 = bs (kk K) 24 := by rw [f1.2 _ _ (by omega)]; exact rt.1
  have hN : mp (kk K) (Ls (mg K m)) ≤ 24 := mp_le (fun b _ _ => Ls_le b)
  obtain ⟨h', e2, f2, -, r2⟩ := s_lay9 (m := m) wk hR (d + 1) (mp (kk K) (Ls (mg K m))) 0 (kk K) h1 (by omega) rfl hL1 (rt.2.fi f1 (fun k => by omega) (fun k => by omega)) l1
  refine ⟨h', ?_, (f1.mo (fun x k z => Or.inl z)).tr (f2.mo (fun x k z => Or.inr z)), fun t ht => ?_⟩
  · rw [e_Rl_layLongestRow]
    repeat (first | with_reducible refine hE ?_ | with_reducible refine hLi ?_ | (with_reducible apply hI; · (first | exact e1 | (simp (disch := omega) only [a1, b1, qadd, qmul, qcl, qle, qlt, qeq, qlt0, q0le, qeq0, qle0, q0lt, true_or, or_true, false_or, or_false, true_and, and_true, false_and, and_false, eq_self, not_true_eq_false, not_false_eq_true, qz0, qz1, q00, q01, q10, q11, zb_z, zb_0, zb_1, zor, Bool.true_eq_false, Bool.false_eq_true, Bool.and_true, Bool.and_false, Bool.true_and, Bool.false_and, Bool.or_true, Bool.or_false, Bool.true_or, Bool.false_or, decide_eq_true_eq, decide_eq_false_iff_not, reduceCtorEq]; first | exact e1))) | (with_reducible apply hP; · (first | exact e1 | (simp (disch := omega) only [a1, b1, qadd, qmul, qcl, qle, qlt, qeq, qlt0, q0le, qeq0, qle0, q0lt, true_or, or_true, false_or, or_false, true_and, and_true, false_and, and_false, eq_self, not_true_eq_false, not_false_eq_true, qz0, qz1, q00, q01, q10, q11, zb_z, zb_0, zb_1, zor, Bool.true_eq_false, Bool.false_eq_true, Bool.and_true, Bool.and_false, Bool.true_and, Bool.false_and, Bool.or_true, Bool.or_false, Bool.true_or, Bool.false_or, decide_eq_true_eq, decide_eq_false_iff_not, reduceCtorEq]; first | exact e1))) | (with_reducible apply hV; · (first | exact e1 | (simp (disch := omega) only [a1, b1, qadd, qmul, qcl, qle, qlt, qeq, qlt0, q0le, qeq0, qle0, q0lt, true_or, or_true, false_or, or_false, true_and, and_true, false_and, and_false, eq_self, not_true_eq_false, not_false_eq_true, qz0, qz1, q00, q01, q10, q11, zb_z, zb_0, zb_1, zor, Bool.true_eq_false, Bool.false_eq_true, Bool.and_true, Bool.and_false, Bool.true_and, Bool.false_and, Bool.or_true, Bool.or_false, Bool.true_or, Bool.false_or, decide_eq_true_eq, decide_eq_false_iff_not, reduceCtorEq]; first | exact e1))) | (with_reducible apply hT; · (first | omega | (simp (disch := omega) only [a1, b1, qadd, qmul, qcl, qle, qlt, qeq, qlt0, q0le, qeq0, qle0, q0lt, true_or, or_true, false_or, or_false, true_and, and_true, false_and, and_false, eq_self, not_true_eq_false, not_false_eq_true, qz0, qz1, q00, q01, q10, q11, zb_z, zb_0, zb_1, zor, Bool.true_eq_false, Bool.false_eq_true, Bool.and_true, Bool.and_false, Bool.true_and, Bool.false_and, Bool.or_true, Bool.or_false, Bool.true_or, Bool.false_or, decide_eq_true_eq, decide_eq_false_iff_not, reduceCtorEq]; done) | (simp (disch := omega) only [a1, b1, qadd, qmul, qcl, qle, qlt, qeq, qlt0, q0le, qeq0, qle0, q0lt, true_or, or_true, false_or, or_false, true_and, and_true, false_and, and_false, eq_self, not_true_eq_false, not_false_eq_true, qz0, qz1, q00, q01, q10, q11, zb_z, zb_0, zb_1, zor, Bool.true_eq_false, Bool.false_eq_true, Bool.and_true, Bool.and_false, Bool.true_and, Bool.false_and, Bool.or_true, Bool.or_false, Bool.true_or, Bool.false_or, decide_eq_true_eq, decide_eq_false_iff_not, reduceCtorEq]; omega))) | (with_reducible apply hF; · (first | omega | (simp (disch := omega) only [a1, b1, qadd, qmul, qcl, qle, qlt, qeq, qlt0, q0le, qeq0, qle0, q0lt, true_or, or_true, false_or, or_false, true_and, and_true, false_and, and_false, eq_self, not_true_eq_false, not_false_eq_true, qz0, qz1, q00, q01, q10, q11, zb_z, zb_0, zb_1, zor, Bool.true_eq_false, Bool.false_eq_true, Bool.and_true, Bool.and_false, Bool.true_and, Bool.false_and, Bool.or_true, Bool.or_false, Bool.true_or, Bool.false_or, decide_eq_true_eq, decide_eq_false_iff_not, reduceCtorEq]; done) | (simp (disch := omega) only [a1, b1, qadd, qmul, qcl, qle, qlt, qeq, qlt0, q0le, qeq0, qle0, q0lt, true_or, or_true, false_or, or_false, true_and, and_true, false_and, and_false, eq_self, not_true_eq_false, not_false_eq_true, qz0, qz1, q00, q01, q10, q11, zb_z, zb_0, zb_1, zor, Bool.true_eq_false, Bool.false_eq_true, Bool.and_true, Bool.and_false, Bool.true_and, Bool.false_and, Bool.or_true, Bool.or_false, Bool.true_or, Bool.false_or, decide_eq_true_eq, decide_eq_false_iff_not, reduceCtorEq]; omega))))
    rw [hb, e2, Nat.zero_add]
  · have := r2 t ht
    rw [Nat.zero_add] at this
    exact this
end
