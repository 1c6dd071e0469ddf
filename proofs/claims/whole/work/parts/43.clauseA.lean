/-! ===== one clause: both sides ===== -/
theorem qrem {a m : Nat} (ha : a < 2147483648) (h0 : 0 < m) (hm : m < 2147483648) : nI a - nI a / nI m * nI m = nI (a % m) := by
  rw [qdiv ha h0 hm, qmul, qsub (Nat.div_mul_le_self a m)]
  congr 1
  rw [Nat.mul_comm]
  have := Nat.div_add_mod a m
  omega
/-- f holds of all of the j numbers from k on -/
def al (f : Nat → Bool) : Nat → Nat → Bool
  | 0, _ => true
  | j + 1, k => if f k = true then al f j (k + 1) else false
def ex (f : Nat → Bool) : Nat → Nat → Bool
  | 0, _ => false
  | j + 1, k => if f k = true then true else ex f j (k + 1)
theorem al_t {f : Nat → Bool} : ∀ {j k : Nat}, (al f j k = true) ↔ ∀ i, k ≤ i → i < k + j → f i = true
  | 0, k => ⟨fun _ i h1 h2 => by omega, fun _ => rfl⟩
  | j + 1, k => by
    unfold al
    constructor
    · intro h i h1 h2
      by_cases hf : f k = true
      · rw [if_pos hf] at h
        by_cases hi : i = k
        · subst hi; exact hf
        · exact al_t.mp h i (by omega) (by omega)
      · rw [if_neg hf] at h; cases h
    · intro h
      rw [if_pos (h k (by omega) (by omega))]
      exact al_t.mpr (fun i h1 h2 => h i (by omega) (by omega))
theorem ex_t {f : Nat → Bool} : ∀ {j k : Nat}, (ex f j k = true) ↔ ∃ i, k ≤ i ∧ i < k + j ∧ f i = true
  | 0, k => Iff.intro (fun h => by cases h) (fun ⟨i, h1, h2, _⟩ => by omega)
  | j + 1, k => by
    unfold ex
    by_cases hf : f k = true
    · rw [if_pos hf]
      exact ⟨fun _ => ⟨k, by omega, by omega, hf⟩, fun _ => rfl⟩
    · rw [if_neg hf, ex_t]
      constructor
      · rintro ⟨i, h1, h2, h3⟩
        exact ⟨i, by omega, by omega, h3⟩
      · rintro ⟨i, h1, h2, h3⟩
        refine ⟨i, ?_, by omega, h3⟩
        rcases Nat.lt_or_ge k i with z | z
        · exact z
        · have : i = k := by omega
          subst this
          exact absurd h3 hf
theorem beq_t {a b : Nat} : (Nat.beq a b = true) = (a = b) := propext ⟨Nat.eq_of_beq_eq_true, fun h => by subst h; exact Nat.beq_refl a⟩
theorem beq_f {a b : Nat} : (Nat.beq a b = false) = ¬ (a = b) := by
  rw [← beq_t]
  cases Nat.beq a b <;> simp
/-- as many symbols from p and from q on are the same -/
def sm (cs : List Nat) (p q i : Nat) : Bool := Nat.beq (cd cs (p + i)) (cd cs (q + i))
theorem CW.same_22 {h : mh} {a : Nat} {cs : List Nat} (c : CW h a cs) (w : WF cs) (d : Nat) {p q n : Nat} (hp : p + n ≤ cs.length) (hq : q + n ≤ cs.length) : ∀ j k, k + j = n → Cl_sameRun_22 d a (nI p) (nI q) (nI n) (nI k) h = some (some (vi (zb (al (sm cs p q) j k))), h) := by
  have := w.2.1
  intro j
  induction j with
  | zero =>
    intro k hk
    rw [e_Cl_sameRun_22]
    simp (disch := omega) only [qadd, qmul, qcl, qle, qlt, qeq, qlt0, q0le, qeq0, qle0, q0lt, bI, bP, bV, bE, bL, if_true, if_false, eq_self, true_or, or_true, false_or, or_false, true_and, and_true, false_and, and_false, qz0, qz1, q00, q01, q10, q11, if_pos, if_neg]
    rfl
  | succ j ih =>
    intro k hk
    rw [e_Cl_sameRun_22]
    have h1 := w.lt (p + k)
    have h2 := w.lt (q + k)
    simp (disch := omega) only [c.k, c.k0, c.n0, c.i0, qadd, qmul, qcl, qle, qlt, qeq, qlt0, q0le, qeq0, qle0, q0lt, bI, bP, bV, bE, bL, if_true, if_false, eq_self, true_or, or_true, false_or, or_false, true_and, and_true, false_and, and_false, qz0, qz1, q00, q01, q10, q11, if_pos, if_neg]
    unfold al
    by_cases hs : cd cs (p + k) = cd cs (q + k)
    · rw [if_pos hs, if_pos (show sm cs p q k = true by unfold sm; rw [beq_t]; exact hs)]
      exact ih (k + 1) (by omega)
    · rw [if_neg hs, if_neg (show ¬ sm cs p q k = true by unfold sm; rw [beq_t]; exact hs)]
      rfl
theorem CW.same {h : mh} {a : Nat} {cs : List Nat} (c : CW h a cs) (w : WF cs) (d : Nat) {p q n : Nat} (hp : p < 100) (hq : q + n ≤ cs.length) : Cl_sameRun (d + 1) a (nI p) (nI q) (nI n) h = some (some (vi (zb (decide (p + n ≤ cs.length) && al (sm cs p q) n 0))), h) := by
  have := w.2.1
  rw [e_Cl_sameRun]
  by_cases hp : p + n ≤ cs.length
  · simp (disch := omega) only [c.k, c.k0, c.n0, qadd, qmul, qcl, qle, qlt, qeq, qlt0, q0le, qeq0, qle0, q0lt, bI, bP, bV, bE, bL, if_true, if_false, eq_self, true_or, or_true, false_or, or_false, true_and, and_true, false_and, and_false, qz0, qz1, q00, q01, q10, q11, if_pos, if_neg, c.same_22 w d hp hq n 0 (Nat.zero_add n), decide_eq_true, Bool.true_and]
  · simp (disch := omega) only [c.k, c.k0, c.n0, qadd, qmul, qcl, qle, qlt, qeq, qlt0, q0le, qeq0, qle0, q0lt, bI, bP, bV, bE, bL, if_true, if_false, eq_self, true_or, or_true, false_or, or_false, true_and, and_true, false_and, and_false, qz0, qz1, q00, q01, q10, q11, if_pos, if_neg, decide_eq_false, Bool.false_and, zb]
theorem MC.same_2 {h : mh} (hL : Lay h) (d : Nat) {k : Nat} (hk : k ≤ 24) {cs : List Nat} (w : WF cs) (m : MC h 129 0 k cs) {p q n : Nat} (hp : p + n ≤ cs.length) (hq : q + n ≤ cs.length) : ∀ j i, i + j = n → N_areSame_2 (d + 1) 128 (nI k) (nI p) (nI k) (nI q) (nI n) (nI i) h = some (some (vi (zb (al (sm cs p q) j i))), h) := by
  obtain ⟨m1, m2, m3⟩ := m.at0
  have := w.2.1
  intro j
  induction j with
  | zero =>
    intro i hi
    rw [e_N_areSame_2]
    simp (disch := omega) only [qadd, qmul, qcl, qle, qlt, qeq, qlt0, q0le, qeq0, qle0, q0lt, bI, bP, bV, bE, bL, if_true, if_false, eq_self, true_or, or_true, false_or, or_false, true_and, and_true, false_and, and_false, qz0, qz1, q00, q01, q10, q11, if_pos, if_neg]
    rfl
  | succ j ih =>
    intro i hi
    rw [e_N_areSame_2]
    have h1 := w.lt (p + i)
    have h2 := w.lt (q + i)
    simp (disch := omega) only [s_codeAt hL, m3, lk_128 hL, lk_129 hL, lk_130 hL, lk_131 hL, lk_132 hL, lk_133 hL, lk_134 hL, lk_135 hL, lk_136 hL, lk_137 hL, lk_138 hL, lk_139 hL, lk_140 hL, lk_141 hL, lk_142 hL, lk_143 hL, lk_144 hL, lk_145 hL, lk_146 hL, lk_147 hL, lk_148 hL, lk_149 hL, lk_150 hL, lk_151 hL, lk_152 hL, lk_153 hL, lk_154 hL, ln_128 hL, ln_129 hL, ln_130 hL, ln_131 hL, ln_132 hL, ln_133 hL, ln_134 hL, ln_135 hL, ln_136 hL, ln_137 hL, ln_138 hL, ln_139 hL, ln_140 hL, ln_141 hL, ln_142 hL, ln_143 hL, ln_144 hL, ln_145 hL, ln_146 hL, ln_147 hL, ln_148 hL, ln_149 hL, ln_150 hL, ln_151 hL, ln_152 hL, ln_153 hL, ln_154 hL, lp_128_1 hL, lp_128_2 hL, lp_128_4 hL, lp_128_5 hL, lp_128_6 hL, lp_128_16 hL, lp_128_19 hL, lp_128_20 hL, lp_128_21 hL, lp_128_22 hL, lp_128_31 hL, lp_128_32 hL, lp_128_33 hL, lp_128_34 hL, lp_128_35 hL, lp_128_36 hL, lp_128_37 hL, lp_128_38 hL, lp_128_39 hL, lp_128_40 hL, lp_128_41 hL, lp_128_42 hL, lp_128_43 hL, lp_128_44 hL, lp_128_46 hL, lp_128_47 hL, qadd, qmul, qcl, qle, qlt, qeq, qlt0, q0le, qeq0, qle0, q0lt, bI, bP, bV, bE, bL, if_true, if_false, eq_self, true_or, or_true, false_or, or_false, true_and, and_true, false_and, and_false, qz0, qz1, q00, q01, q10, q11, if_pos, if_neg]
    unfold al
    by_cases hs : cd cs (p + i) = cd cs (q + i)
    · rw [if_pos hs, if_pos (show sm cs p q i = true by unfold sm; rw [beq_t]; exact hs)]
      exact ih (i + 1) (by omega)
    · rw [if_neg hs, if_neg (show ¬ sm cs p q i = true by unfold sm; rw [beq_t]; exact hs)]
      rfl
theorem MC.same {h : mh} (hL : Lay h) (d : Nat) {k : Nat} (hk : k ≤ 24) {cs : List Nat} (w : WF cs) (m : MC h 129 0 k cs) {p q n : Nat} (h1 : 1 ≤ n) (hp : p + n ≤ cs.length) (hq : q + n ≤ cs.length) : N_areSame (d + 2) 128 (nI k) (nI p) (nI k) (nI q) (nI n) h = some (some (vi (zb (al (sm cs p q) (n - 1) 1))), h) := by
  rw [e_N_areSame, m.same_2 hL d hk w hp hq (n - 1) 1 (by omega)]
/-- a literal ends where the next one begins -/
theorem WF.lit {cs : List Nat} (w : WF cs) {j : Nat} (hj : j < nlit cs) : beg cs j < cs.length ∧ 100 ≤ cd cs (beg cs j) ∧ cd cs (beg cs j) ≤ 107 ∧ endp cs (beg cs j) = beg cs (j + 1) ∧ beg cs (j + 1) ≤ cs.length ∧ beg cs j < beg cs (j + 1) := by
  obtain ⟨c, r, h1, h2, h3, h4, h5⟩ := beg_at cs 0 j w.1 hj
  obtain ⟨a1, a2, a3⟩ := drop_cons h1
  refine ⟨a1, by omega, by omega, ?_, beg_le _ _, by omega⟩
  unfold endp
  rw [h1, h5]
  show _ + (tlen r (0 + ar c) + 1) = _
  rw [Nat.zero_add]
  omega
def opp (cs : List Nat) (i j : Nat) : Bool := Nat.beq (cd cs (beg cs i) ^^^ cd cs (beg cs j)) 1 && (Nat.beq (beg cs (i + 1) - beg cs i) (beg cs (j + 1) - beg cs j) && al (sm cs (beg cs i) (beg cs j)) (beg cs (i + 1) - beg cs i - 1) 1)
theorem al_sh {f g : Nat → Bool} : ∀ (j k : Nat), (∀ i, f (i + 1) = g i) → al f j (k + 1) = al g j k
  | 0, _, _ => rfl
  | j + 1, k, h => by
    unfold al
    rw [h k, al_sh j (k + 1) h]
theorem CW.oppo {h : mh} {a : Nat} {cs : List Nat} (c : CW h a cs) (w : WF cs) (d : Nat) {i j : Nat} (hi : i < nlit cs) (hj : j < nlit cs) : Cl_opposite (d + 2) a (nI i) (nI j) h = some (some (vi (zb (opp cs i j))), h) := by
  have l := w.2.1
  have l2 := w.2.2.1
  obtain ⟨a1, a2, a3, a4, a5, a6⟩ := w.lit hi
  obtain ⟨b1, b2, b3, b4, b5, b6⟩ := w.lit hj
  have x1 : cd cs (beg cs i) ^^^ cd cs (beg cs j) < 2 ^ 7 := Nat.xor_lt_two_pow (by omega) (by omega)
  rw [e_Cl_opposite]
  unfold opp
  have eS := c.same w d (p := beg cs i + 1) (q := beg cs j + 1) (n := beg cs (i + 1) - beg cs i - 1)
  by_cases e1 : cd cs (beg cs i) ^^^ cd cs (beg cs j) = 1
  · rw [beq_t.mpr e1, Bool.true_and]
    by_cases e2 : beg cs (i + 1) - beg cs i = beg cs (j + 1) - beg cs j
    · rw [beq_t.mpr e2, Bool.true_and]
      rw [al_sh (g := sm cs (beg cs i + 1) (beg cs j + 1)) _ 0 (fun t => by unfold sm; rw [show beg cs i + (t + 1) = beg cs i + 1 + t by omega, show beg cs j + (t + 1) = beg cs j + 1 + t by omega])]
      rw [decide_eq_true (by omega), Bool.true_and] at eS
      have eS := eS (by omega) (by omega)
      cases hal : al (sm cs (beg cs i + 1) (beg cs j + 1)) (beg cs (i + 1) - beg cs i - 1) 0
      · rw [hal] at eS
        repeat (first | with_reducible refine hE ?_ | with_reducible refine hLi ?_ | (with_reducible apply hI; · (first | exact c.start w _ (by omega) | exact c.code w _ (by omega) | exact eS | (simp (disch := omega) only [c.k, qsub, nx_xor, qadd, qmul, qcl, qle, qlt, qeq, qlt0, q0le, qeq0, qle0, q0lt, true_or, or_true, false_or, or_false, true_and, and_true, false_and, and_false, eq_self, not_true_eq_false, not_false_eq_true, qz0, qz1, q00, q01, q10, q11, zb_z, zb_0, zb_1, zor, Bool.true_eq_false, Bool.false_eq_true, Bool.and_true, Bool.and_false, Bool.true_and, Bool.false_and, Bool.or_true, Bool.or_false, Bool.true_or, Bool.false_or, decide_eq_true_eq, decide_eq_false_iff_not, reduceCtorEq]; first | exact c.start w _ (by omega) | exact c.code w _ (by omega) | exact eS))) | (with_reducible apply hP; · (first | exact c.start w _ (by omega) | exact c.code w _ (by omega) | exact eS | (simp (disch := omega) only [c.k, qsub, nx_xor, qadd, qmul, qcl, qle, qlt, qeq, qlt0, q0le, qeq0, qle0, q0lt, true_or, or_true, false_or, or_false, true_and, and_true, false_and, and_false, eq_self, not_true_eq_false, not_false_eq_true, qz0, qz1, q00, q01, q10, q11, zb_z, zb_0, zb_1, zor, Bool.true_eq_false, Bool.false_eq_true, Bool.and_true, Bool.and_false, Bool.true_and, Bool.false_and, Bool.or_true, Bool.or_false, Bool.true_or, Bool.false_or, decide_eq_true_eq, decide_eq_false_iff_not, reduceCtorEq]; first | exact c.start w _ (by omega) | exact c.code w _ (by omega) | exact eS))) | (with_reducible apply hV; · (first | exact c.start w _ (by omega) | exact c.code w _ (by omega) | exact eS | (simp (disch := omega) only [c.k, qsub, nx_xor, qadd, qmul, qcl, qle, qlt, qeq, qlt0, q0le, qeq0, qle0, q0lt, true_or, or_true, false_or, or_false, true_and, and_true, false_and, and_false, eq_self, not_true_eq_false, not_false_eq_true, qz0, qz1, q00, q01, q10, q11, zb_z, zb_0, zb_1, zor, Bool.true_eq_false, Bool.false_eq_true, Bool.and_true, Bool.and_false, Bool.true_and, Bool.false_and, Bool.or_true, Bool.or_false, Bool.true_or, Bool.false_or, decide_eq_true_eq, decide_eq_false_iff_not, reduceCtorEq]; first | exact c.start w _ (by omega) | exact c.code w _ (by omega) | exact eS))) | (with_reducible apply hT; · (first | omega | (simp (disch := omega) only [c.k, qsub, nx_xor, qadd, qmul, qcl, qle, qlt, qeq, qlt0, q0le, qeq0, qle0, q0lt, true_or, or_true, false_or, or_false, true_and, and_true, false_and, and_false, eq_self, not_true_eq_false, not_false_eq_true, qz0, qz1, q00, q01, q10, q11, zb_z, zb_0, zb_1, zor, Bool.true_eq_false, Bool.false_eq_true, Bool.and_true, Bool.and_false, Bool.true_and, Bool.false_and, Bool.or_true, Bool.or_false, Bool.true_or, Bool.false_or, decide_eq_true_eq, decide_eq_false_iff_not, reduceCtorEq]; done) | (simp (disch := omega) only [c.k, qsub, nx_xor, qadd, qmul, qcl, qle, qlt, qeq, qlt0, q0le, qeq0, qle0, q0lt, true_or, or_true, false_or, or_false, true_and, and_true, false_and, and_false, eq_self, not_true_eq_false, not_false_eq_true, qz0, qz1, q00, q01, q10, q11, zb_z, zb_0, zb_1, zor, Bool.true_eq_false, Bool.false_eq_true, Bool.and_true, Bool.and_false, Bool.true_and, Bool.false_and, Bool.or_true, Bool.or_false, Bool.true_or, Bool.false_or, decide_eq_true_eq, decide_eq_false_iff_not, reduceCtorEq]; omega))) | (with_reducible apply hF; · (first | omega | (simp (disch := omega) only [c.k, qsub, nx_xor, qadd, qmul, qcl, qle, qlt, qeq, qlt0, q0le, qeq0, qle0, q0lt, true_or, or_true, false_or, or_false, true_and, and_true, false_and, and_false, eq_self, not_true_eq_false, not_false_eq_true, qz0, qz1, q00, q01, q10, q11, zb_z, zb_0, zb_1, zor, Bool.true_eq_false, Bool.false_eq_true, Bool.and_true, Bool.and_false, Bool.true_and, Bool.false_and, Bool.or_true, Bool.or_false, Bool.true_or, Bool.false_or, decide_eq_true_eq, decide_eq_false_iff_not, reduceCtorEq]; done) | (simp (disch := omega) only [c.k, qsub, nx_xor, qadd, qmul, qcl, qle, qlt, qeq, qlt0, q0le, qeq0, qle0, q0lt, true_or, or_true, false_or, or_false, true_and, and_true, false_and, and_false, eq_self, not_true_eq_false, not_false_eq_true, qz0, qz1, q00, q01, q10, q11, zb_z, zb_0, zb_1, zor, Bool.true_eq_false, Bool.false_eq_true, Bool.and_true, Bool.and_false, Bool.true_and, Bool.false_and, Bool.or_true, Bool.or_false, Bool.true_or, Bool.false_or, decide_eq_true_eq, decide_eq_false_iff_not, reduceCtorEq]; omega))))
        rfl
      · rw [hal] at eS
        repeat (first | with_reducible refine hE ?_ | with_reducible refine hLi ?_ | (with_reducible apply hI; · (first | exact c.start w _ (by omega) | exact c.code w _ (by omega) | exact eS | (simp (disch := omega) only [c.k, qsub, nx_xor, qadd, qmul, qcl, qle, qlt, qeq, qlt0, q0le, qeq0, qle0, q0lt, true_or, or_true, false_or, or_false, true_and, and_true, false_and, and_false, eq_self, not_true_eq_false, not_false_eq_true, qz0, qz1, q00, q01, q10, q11, zb_z, zb_0, zb_1, zor, Bool.true_eq_false, Bool.false_eq_true, Bool.and_true, Bool.and_false, Bool.true_and, Bool.false_and, Bool.or_true, Bool.or_false, Bool.true_or, Bool.false_or, decide_eq_true_eq, decide_eq_false_iff_not, reduceCtorEq]; first | exact c.start w _ (by omega) | exact c.code w _ (by omega) | exact eS))) | (with_reducible apply hP; · (first | exact c.start w _ (by omega) | exact c.code w _ (by omega) | exact eS | (simp (disch := omega) only [c.k, qsub, nx_xor, qadd, qmul, qcl, qle, qlt, qeq, qlt0, q0le, qeq0, qle0, q0lt, true_or, or_true, false_or, or_false, true_and, and_true, false_and, and_false, eq_self, not_true_eq_false, not_false_eq_true, qz0, qz1, q00, q01, q10, q11, zb_z, zb_0, zb_1, zor, Bool.true_eq_false, Bool.false_eq_true, Bool.and_true, Bool.and_false, Bool.true_and, Bool.false_and, Bool.or_true, Bool.or_false, Bool.true_or, Bool.false_or, decide_eq_true_eq, decide_eq_false_iff_not, reduceCtorEq]; first | exact c.start w _ (by omega) | exact c.code w _ (by omega) | exact eS))) | (with_reducible apply hV; · (first | exact c.start w _ (by omega) | exact c.code w _ (by omega) | exact eS | (simp (disch := omega) only [c.k, qsub, nx_xor, qadd, qmul, qcl, qle, qlt, qeq, qlt0, q0le, qeq0, qle0, q0lt, true_or, or_true, false_or, or_false, true_and, and_true, false_and, and_false, eq_self, not_true_eq_false, not_false_eq_true, qz0, qz1, q00, q01, q10, q11, zb_z, zb_0, zb_1, zor, Bool.true_eq_false, Bool.false_eq_true, Bool.and_true, Bool.and_false, Bool.true_and, Bool.false_and, Bool.or_true, Bool.or_false, Bool.true_or, Bool.false_or, decide_eq_true_eq, decide_eq_false_iff_not, reduceCtorEq]; first | exact c.start w _ (by omega) | exact c.code w _ (by omega) | exact eS))) | (with_reducible apply hT; · (first | omega | (simp (disch := omega) only [c.k, qsub, nx_xor, qadd, qmul, qcl, qle, qlt, qeq, qlt0, q0le, qeq0, qle0, q0lt, true_or, or_true, false_or, or_false, true_and, and_true, false_and, and_false, eq_self, not_true_eq_false, not_false_eq_true, qz0, qz1, q00, q01, q10, q11, zb_z, zb_0, zb_1, zor, Bool.true_eq_false, Bool.false_eq_true, Bool.and_true, Bool.and_false, Bool.true_and, Bool.false_and, Bool.or_true, Bool.or_false, Bool.true_or, Bool.false_or, decide_eq_true_eq, decide_eq_false_iff_not, reduceCtorEq]; done) | (simp (disch := omega) only [c.k, qsub, nx_xor, qadd, qmul, qcl, qle, qlt, qeq, qlt0, q0le, qeq0, qle0, q0lt, true_or, or_true, false_or, or_false, true_and, and_true, false_and, and_false, eq_self, not_true_eq_false, not_false_eq_true, qz0, qz1, q00, q01, q10, q11, zb_z, zb_0, zb_1, zor, Bool.true_eq_false, Bool.false_eq_true, Bool.and_true, Bool.and_false, Bool.true_and, Bool.false_and, Bool.or_true, Bool.or_false, Bool.true_or, Bool.false_or, decide_eq_true_eq, decide_eq_false_iff_not, reduceCtorEq]; omega))) | (with_reducible apply hF; · (first | omega | (simp (disch := omega) only [c.k, qsub, nx_xor, qadd, qmul, qcl, qle, qlt, qeq, qlt0, q0le, qeq0, qle0, q0lt, true_or, or_true, false_or, or_false, true_and, and_true, false_and, and_false, eq_self, not_true_eq_false, not_false_eq_true, qz0, qz1, q00, q01, q10, q11, zb_z, zb_0, zb_1, zor, Bool.true_eq_false, Bool.false_eq_true, Bool.and_true, Bool.and_false, Bool.true_and, Bool.false_and, Bool.or_true, Bool.or_false, Bool.true_or, Bool.false_or, decide_eq_true_eq, decide_eq_false_iff_not, reduceCtorEq]; done) | (simp (disch := omega) only [c.k, qsub, nx_xor, qadd, qmul, qcl, qle, qlt, qeq, qlt0, q0le, qeq0, qle0, q0lt, true_or, or_true, false_or, or_false, true_and, and_true, false_and, and_false, eq_self, not_true_eq_false, not_false_eq_true, qz0, qz1, q00, q01, q10, q11, zb_z, zb_0, zb_1, zor, Bool.true_eq_false, Bool.false_eq_true, Bool.and_true, Bool.and_false, Bool.true_and, Bool.false_and, Bool.or_true, Bool.or_false, Bool.true_or, Bool.false_or, decide_eq_true_eq, decide_eq_false_iff_not, reduceCtorEq]; omega))))
        rfl
    · rw [beq_f.mpr e2, Bool.false_and]
      repeat (first | with_reducible refine hE ?_ | with_reducible refine hLi ?_ | (with_reducible apply hI; · (first | exact c.start w _ (by omega) | exact c.code w _ (by omega) | (simp (disch := omega) only [c.k, qsub, nx_xor, qadd, qmul, qcl, qle, qlt, qeq, qlt0, q0le, qeq0, qle0, q0lt, true_or, or_true, false_or, or_false, true_and, and_true, false_and, and_false, eq_self, not_true_eq_false, not_false_eq_true, qz0, qz1, q00, q01, q10, q11, zb_z, zb_0, zb_1, zor, Bool.true_eq_false, Bool.false_eq_true, Bool.and_true, Bool.and_false, Bool.true_and, Bool.false_and, Bool.or_true, Bool.or_false, Bool.true_or, Bool.false_or, decide_eq_true_eq, decide_eq_false_iff_not, reduceCtorEq]; first | exact c.start w _ (by omega) | exact c.code w _ (by omega)))) | (with_reducible apply hP; · (first | exact c.start w _ (by omega) | exact c.code w _ (by omega) | (simp (disch := omega) only [c.k, qsub, nx_xor, qadd, qmul, qcl, qle, qlt, qeq, qlt0, q0le, qeq0, qle0, q0lt, true_or, or_true, false_or, or_false, true_and, and_true, false_and, and_false, eq_self, not_true_eq_false, not_false_eq_true, qz0, qz1, q00, q01, q10, q11, zb_z, zb_0, zb_1, zor, Bool.true_eq_false, Bool.false_eq_true, Bool.and_true, Bool.and_false, Bool.true_and, Bool.false_and, Bool.or_true, Bool.or_false, Bool.true_or, Bool.false_or, decide_eq_true_eq, decide_eq_false_iff_not, reduceCtorEq]; first | exact c.start w _ (by omega) | exact c.code w _ (by omega)))) | (with_reducible apply hV; · (first | exact c.start w _ (by omega) | exact c.code w _ (by omega) | (simp (disch := omega) only [c.k, qsub, nx_xor, qadd, qmul, qcl, qle, qlt, qeq, qlt0, q0le, qeq0, qle0, q0lt, true_or, or_true, false_or, or_false, true_and, and_true, false_and, and_false, eq_self, not_true_eq_false, not_false_eq_true, qz0, qz1, q00, q01, q10, q11, zb_z, zb_0, zb_1, zor, Bool.true_eq_false, Bool.false_eq_true, Bool.and_true, Bool.and_false, Bool.true_and, Bool.false_and, Bool.or_true, Bool.or_false, Bool.true_or, Bool.false_or, decide_eq_true_eq, decide_eq_false_iff_not, reduceCtorEq]; first | exact c.start w _ (by omega) | exact c.code w _ (by omega)))) | (with_reducible apply hT; · (first | omega | (simp (disch := omega) only [c.k, qsub, nx_xor, qadd, qmul, qcl, qle, qlt, qeq, qlt0, q0le, qeq0, qle0, q0lt, true_or, or_true, false_or, or_false, true_and, and_true, false_and, and_false, eq_self, not_true_eq_false, not_false_eq_true, qz0, qz1, q00, q01, q10, q11, zb_z, zb_0, zb_1, zor, Bool.true_eq_false, Bool.false_eq_true, Bool.and_true, Bool.and_false, Bool.true_and, Bool.false_and, Bool.or_true, Bool.or_false, Bool.true_or, Bool.false_or, decide_eq_true_eq, decide_eq_false_iff_not, reduceCtorEq]; done) | (simp (disch := omega) only [c.k, qsub, nx_xor, qadd, qmul, qcl, qle, qlt, qeq, qlt0, q0le, qeq0, qle0, q0lt, true_or, or_true, false_or, or_false, true_and, and_true, false_and, and_false, eq_self, not_true_eq_false, not_false_eq_true, qz0, qz1, q00, q01, q10, q11, zb_z, zb_0, zb_1, zor, Bool.true_eq_false, Bool.false_eq_true, Bool.and_true, Bool.and_false, Bool.true_and, Bool.false_and, Bool.or_true, Bool.or_false, Bool.true_or, Bool.false_or, decide_eq_true_eq, decide_eq_false_iff_not, reduceCtorEq]; omega))) | (with_reducible apply hF; · (first | omega | (simp (disch := omega) only [c.k, qsub, nx_xor, qadd, qmul, qcl, qle, qlt, qeq, qlt0, q0le, qeq0, qle0, q0lt, true_or, or_true, false_or, or_false, true_and, and_true, false_and, and_false, eq_self, not_true_eq_false, not_false_eq_true, qz0, qz1, q00, q01, q10, q11, zb_z, zb_0, zb_1, zor, Bool.true_eq_false, Bool.false_eq_true, Bool.and_true, Bool.and_false, Bool.true_and, Bool.false_and, Bool.or_true, Bool.or_false, Bool.true_or, Bool.false_or, decide_eq_true_eq, decide_eq_false_iff_not, reduceCtorEq]; done) | (simp (disch := omega) only [c.k, qsub, nx_xor, qadd, qmul, qcl, qle, qlt, qeq, qlt0, q0le, qeq0, qle0, q0lt, true_or, or_true, false_or, or_false, true_and, and_true, false_and, and_false, eq_self, not_true_eq_false, not_false_eq_true, qz0, qz1, q00, q01, q10, q11, zb_z, zb_0, zb_1, zor, Bool.true_eq_false, Bool.false_eq_true, Bool.and_true, Bool.and_false, Bool.true_and, Bool.false_and, Bool.or_true, Bool.or_false, Bool.true_or, Bool.false_or, decide_eq_true_eq, decide_eq_false_iff_not, reduceCtorEq]; omega))))
      rfl
  · rw [beq_f.mpr e1, Bool.false_and]
    repeat (first | with_reducible refine hE ?_ | with_reducible refine hLi ?_ | (with_reducible apply hI; · (first | exact c.start w _ (by omega) | exact c.code w _ (by omega) | (simp (disch := omega) only [c.k, qsub, nx_xor, qadd, qmul, qcl, qle, qlt, qeq, qlt0, q0le, qeq0, qle0, q0lt, true_or, or_true, false_or, or_false, true_and, and_true, false_and, and_false, eq_self, not_true_eq_false, not_false_eq_true, qz0, qz1, q00, q01, q10, q11, zb_z, zb_0, zb_1, zor, Bool.true_eq_false, Bool.false_eq_true, Bool.and_true, Bool.and_false, Bool.true_and, Bool.false_and, Bool.or_true, Bool.or_false, Bool.true_or, Bool.false_or, decide_eq_true_eq, decide_eq_false_iff_not, reduceCtorEq]; first | exact c.start w _ (by omega) | exact c.code w _ (by omega)))) | (with_reducible apply hP; · (first | exact c.start w _ (by omega) | exact c.code w _ (by omega) | (simp (disch := omega) only [c.k, qsub, nx_xor, qadd, qmul, qcl, qle, qlt, qeq, qlt0, q0le, qeq0, qle0, q0lt, true_or, or_true, false_or, or_false, true_and, and_true, false_and, and_false, eq_self, not_true_eq_false, not_false_eq_true, qz0, qz1, q00, q01, q10, q11, zb_z, zb_0, zb_1, zor, Bool.true_eq_false, Bool.false_eq_true, Bool.and_true, Bool.and_false, Bool.true_and, Bool.false_and, Bool.or_true, Bool.or_false, Bool.true_or, Bool.false_or, decide_eq_true_eq, decide_eq_false_iff_not, reduceCtorEq]; first | exact c.start w _ (by omega) | exact c.code w _ (by omega)))) | (with_reducible apply hV; · (first | exact c.start w _ (by omega) | exact c.code w _ (by omega) | (simp (disch := omega) only [c.k, qsub, nx_xor, qadd, qmul, qcl, qle, qlt, qeq, qlt0, q0le, qeq0, qle0, q0lt, true_or, or_true, false_or, or_false, true_and, and_true, false_and, and_false, eq_self, not_true_eq_false, not_false_eq_true, qz0, qz1, q00, q01, q10, q11, zb_z, zb_0, zb_1, zor, Bool.true_eq_false, Bool.false_eq_true, Bool.and_true, Bool.and_false, Bool.true_and, Bool.false_and, Bool.or_true, Bool.or_false, Bool.true_or, Bool.false_or, decide_eq_true_eq, decide_eq_false_iff_not, reduceCtorEq]; first | exact c.start w _ (by omega) | exact c.code w _ (by omega)))) | (with_reducible apply hT; · (first | omega | (simp (disch := omega) only [c.k, qsub, nx_xor, qadd, qmul, qcl, qle, qlt, qeq, qlt0, q0le, qeq0, qle0, q0lt, true_or, or_true, false_or, or_false, true_and, and_true, false_and, and_false, eq_self, not_true_eq_false, not_false_eq_true, qz0, qz1, q00, q01, q10, q11, zb_z, zb_0, zb_1, zor, Bool.true_eq_false, Bool.false_eq_true, Bool.and_true, Bool.and_false, Bool.true_and, Bool.false_and, Bool.or_true, Bool.or_false, Bool.true_or, Bool.false_or, decide_eq_true_eq, decide_eq_false_iff_not, reduceCtorEq]; done) | (simp (disch := omega) only [c.k, qsub, nx_xor, qadd, qmul, qcl, qle, qlt, qeq, qlt0, q0le, qeq0, qle0, q0lt, true_or, or_true, false_or, or_false, true_and, and_true, false_and, and_false, eq_self, not_true_eq_false, not_false_eq_true, qz0, qz1, q00, q01, q10, q11, zb_z, zb_0, zb_1, zor, Bool.true_eq_false, Bool.false_eq_true, Bool.and_true, Bool.and_false, Bool.true_and, Bool.false_and, Bool.or_true, Bool.or_false, Bool.true_or, Bool.false_or, decide_eq_true_eq, decide_eq_false_iff_not, reduceCtorEq]; omega))) | (with_reducible apply hF; · (first | omega | (simp (disch := omega) only [c.k, qsub, nx_xor, qadd, qmul, qcl, qle, qlt, qeq, qlt0, q0le, qeq0, qle0, q0lt, true_or, or_true, false_or, or_false, true_and, and_true, false_and, and_false, eq_self, not_true_eq_false, not_false_eq_true, qz0, qz1, q00, q01, q10, q11, zb_z, zb_0, zb_1, zor, Bool.true_eq_false, Bool.false_eq_true, Bool.and_true, Bool.and_false, Bool.true_and, Bool.false_and, Bool.or_true, Bool.or_false, Bool.true_or, Bool.false_or, decide_eq_true_eq, decide_eq_false_iff_not, reduceCtorEq]; done) | (simp (disch := omega) only [c.k, qsub, nx_xor, qadd, qmul, qcl, qle, qlt, qeq, qlt0, q0le, qeq0, qle0, q0lt, true_or, or_true, false_or, or_false, true_and, and_true, false_and, and_false, eq_self, not_true_eq_false, not_false_eq_true, qz0, qz1, q00, q01, q10, q11, zb_z, zb_0, zb_1, zor, Bool.true_eq_false, Bool.false_eq_true, Bool.and_true, Bool.and_false, Bool.true_and, Bool.false_and, Bool.or_true, Bool.or_false, Bool.true_or, Bool.false_or, decide_eq_true_eq, decide_eq_false_iff_not, reduceCtorEq]; omega))))
    rfl
theorem CW.always_18 {h : mh} {a : Nat} {cs : List Nat} (c : CW h a cs) (w : WF cs) (d : Nat) (o0 o1 : Option mv) {i : Nat} (hi : i < nlit cs) : ∀ j k, k + j = nlit cs → C_always_18 (d + 2) o0 o1 a (nI i) (nI k) h = if ex (opp cs i) j k = true then some (some (vi (nI 1)), h) else C_always_10 (d + 2) o0 o1 a (nI (i + 1)) (some (vi (nI (nlit cs)))) h := by
  have l2 := w.2.2.1
  intro j
  induction j with
  | zero =>
    intro k hk
    obtain rfl : k = nlit cs := by omega
    rw [e_C_always_18]
    simp (disch := omega) only [c.k, c.size w, qadd, qmul, qcl, qle, qlt, qeq, qlt0, q0le, qeq0, qle0, q0lt, bI, bP, bV, bE, bL, if_true, if_false, eq_self, true_or, or_true, false_or, or_false, true_and, and_true, false_and, and_false, qz0, qz1, q00, q01, q10, q11, if_pos, if_neg]
    rfl
  | succ j ih =>
    intro k hk
    rw [e_C_always_18]
    unfold ex
    simp (disch := omega) only [c.k, c.size w, c.oppo w, qadd, qmul, qcl, qle, qlt, qeq, qlt0, q0le, qeq0, qle0, q0lt, bI, bP, bV, bE, bL, if_true, if_false, eq_self, true_or, or_true, false_or, or_false, true_and, and_true, false_and, and_false, qz0, qz1, q00, q01, q10, q11, if_pos, if_neg, zb_0]
    cases ho : opp cs i k with
    | true => simp
    | false =>
      simp only [bI, bP, bV, bE, bL, if_true, if_false, eq_self, true_or, or_true, false_or, or_false, true_and, and_true, false_and, and_false, qz0, qz1, q00, q01, q10, q11, if_pos, if_neg, Bool.false_eq_true]
      exact ih (k + 1) (by omega)
def alw (cs : List Nat) : Bool := ex (fun i => ex (opp cs i) (nlit cs - (i + 1)) (i + 1)) (nlit cs) 0
theorem CW.always_10 {h : mh} {a : Nat} {cs : List Nat} (c : CW h a cs) (w : WF cs) (d : Nat) (o0 o1 : Option mv) : ∀ j k, k + j = nlit cs → ∀ o4, C_always_10 (d + 2) o0 o1 a (nI k) o4 h = some (some (vi (zb (ex (fun i => ex (opp cs i) (nlit cs - (i + 1)) (i + 1)) j k))), h) := by
  have l2 := w.2.2.1
  intro j
  induction j with
  | zero =>
    intro k hk o4
    rw [e_C_always_10]
    simp (disch := omega) only [c.k, c.size w, qadd, qmul, qcl, qle, qlt, qeq, qlt0, q0le, qeq0, qle0, q0lt, bI, bP, bV, bE, bL, if_true, if_false, eq_self, true_or, or_true, false_or, or_false, true_and, and_true, false_and, and_false, qz0, qz1, q00, q01, q10, q11, if_pos, if_neg]
    rfl
  | succ j ih =>
    intro k hk o4
    rw [e_C_always_10]
    unfold ex
    simp (disch := omega) only [c.k, c.size w, c.always_18 w d o0 o1 (show k < nlit cs by omega) (nlit cs - (k + 1)) (k + 1) (by omega), qadd, qmul, qcl, qle, qlt, qeq, qlt0, q0le, qeq0, qle0, q0lt, bI, bP, bV, bE, bL, if_true, if_false, eq_self, true_or, or_true, false_or, or_false, true_and, and_true, false_and, and_false, qz0, qz1, q00, q01, q10, q11, if_pos, if_neg]
    split
    · rfl
    · exact ih (k + 1) (by omega) _
theorem MC.always_18 {h : mh} (hL : Lay h) (d : Nat) {k : Nat} (hk : k ≤ 24) {cs : List Nat} (w : WF cs) (m : MC h 129 0 k cs) {i : Nat} (hi : i < nlit cs) : ∀ j t, t + j = nlit cs → ∀ o4 o5 o6, ∃ o3' o4' o5' o6', N_always_18 (d + 2) 128 (nI k) (nI i) (nI t) o4 o5 o6 h = if ex (fun u => Nat.beq (cd cs (beg cs i) % 2) 0 && opp cs i u) j t = true then some (some (vi (nI 1)), h) else N_always_11 (d + 2) 128 (nI k) (nI (i + 1)) o3' o4' o5' o6' h := by
  have l := w.2.1
  have l2 := w.2.2.1
  obtain ⟨m1, m2, m3⟩ := m.at0
  obtain ⟨a1, a2, a3, a4, a5, a6⟩ := w.lit hi
  intro j
  induction j with
  | zero =>
    intro t ht o4 o5 o6
    refine ⟨some (vi (nI t)), o4, o5, o6, ?_⟩
    rw [e_N_always_18]
    repeat (first | with_reducible refine hE ?_ | with_reducible refine hLi ?_ | (with_reducible apply hI; · (first | exact s_literalMany hL _ hk w m | (simp (disch := omega) only [lk_128 hL, qadd, qmul, qcl, qle, qlt, qeq, qlt0, q0le, qeq0, qle0, q0lt, true_or, or_true, false_or, or_false, true_and, and_true, false_and, and_false, eq_self, not_true_eq_false, not_false_eq_true, qz0, qz1, q00, q01, q10, q11, zb_z, zb_0, zb_1, zor, Bool.true_eq_false, Bool.false_eq_true, Bool.and_true, Bool.and_false, Bool.true_and, Bool.false_and, Bool.or_true, Bool.or_false, Bool.true_or, Bool.false_or, decide_eq_true_eq, decide_eq_false_iff_not, reduceCtorEq]; first | exact s_literalMany hL _ hk w m))) | (with_reducible apply hP; · (first | exact s_literalMany hL _ hk w m | (simp (disch := omega) only [lk_128 hL, qadd, qmul, qcl, qle, qlt, qeq, qlt0, q0le, qeq0, qle0, q0lt, true_or, or_true, false_or, or_false, true_and, and_true, false_and, and_false, eq_self, not_true_eq_false, not_false_eq_true, qz0, qz1, q00, q01, q10, q11, zb_z, zb_0, zb_1, zor, Bool.true_eq_false, Bool.false_eq_true, Bool.and_true, Bool.and_false, Bool.true_and, Bool.false_and, Bool.or_true, Bool.or_false, Bool.true_or, Bool.false_or, decide_eq_true_eq, decide_eq_false_iff_not, reduceCtorEq]; first | exact s_literalMany hL _ hk w m))) | (with_reducible apply hV; · (first | exact s_literalMany hL _ hk w m | (simp (disch := omega) only [lk_128 hL, qadd, qmul, qcl, qle, qlt, qeq, qlt0, q0le, qeq0, qle0, q0lt, true_or, or_true, false_or, or_false, true_and, and_true, false_and, and_false, eq_self, not_true_eq_false, not_false_eq_true, qz0, qz1, q00, q01, q10, q11, zb_z, zb_0, zb_1, zor, Bool.true_eq_false, Bool.false_eq_true, Bool.and_true, Bool.and_false, Bool.true_and, Bool.false_and, Bool.or_true, Bool.or_false, Bool.true_or, Bool.false_or, decide_eq_true_eq, decide_eq_false_iff_not, reduceCtorEq]; first | exact s_literalMany hL _ hk w m))) | (with_reducible apply hT; · (first | omega | (simp (disch := omega) only [lk_128 hL, qadd, qmul, qcl, qle, qlt, qeq, qlt0, q0le, qeq0, qle0, q0lt, true_or, or_true, false_or, or_false, true_and, and_true, false_and, and_false, eq_self, not_true_eq_false, not_false_eq_true, qz0, qz1, q00, q01, q10, q11, zb_z, zb_0, zb_1, zor, Bool.true_eq_false, Bool.false_eq_true, Bool.and_true, Bool.and_false, Bool.true_and, Bool.false_and, Bool.or_true, Bool.or_false, Bool.true_or, Bool.false_or, decide_eq_true_eq, decide_eq_false_iff_not, reduceCtorEq]; done) | (simp (disch := omega) only [lk_128 hL, qadd, qmul, qcl, qle, qlt, qeq, qlt0, q0le, qeq0, qle0, q0lt, true_or, or_true, false_or, or_false, true_and, and_true, false_and, and_false, eq_self, not_true_eq_false, not_false_eq_true, qz0, qz1, q00, q01, q10, q11, zb_z, zb_0, zb_1, zor, Bool.true_eq_false, Bool.false_eq_true, Bool.and_true, Bool.and_false, Bool.true_and, Bool.false_and, Bool.or_true, Bool.or_false, Bool.true_or, Bool.false_or, decide_eq_true_eq, decide_eq_false_iff_not, reduceCtorEq]; omega))) | (with_reducible apply hF; · (first | omega | (simp (disch := omega) only [lk_128 hL, qadd, qmul, qcl, qle, qlt, qeq, qlt0, q0le, qeq0, qle0, q0lt, true_or, or_true, false_or, or_false, true_and, and_true, false_and, and_false, eq_self, not_true_eq_false, not_false_eq_true, qz0, qz1, q00, q01, q10, q11, zb_z, zb_0, zb_1, zor, Bool.true_eq_false, Bool.false_eq_true, Bool.and_true, Bool.and_false, Bool.true_and, Bool.false_and, Bool.or_true, Bool.or_false, Bool.true_or, Bool.false_or, decide_eq_true_eq, decide_eq_false_iff_not, reduceCtorEq]; done) | (simp (disch := omega) only [lk_128 hL, qadd, qmul, qcl, qle, qlt, qeq, qlt0, q0le, qeq0, qle0, q0lt, true_or, or_true, false_or, or_false, true_and, and_true, false_and, and_false, eq_self, not_true_eq_false, not_false_eq_true, qz0, qz1, q00, q01, q10, q11, zb_z, zb_0, zb_1, zor, Bool.true_eq_false, Bool.false_eq_true, Bool.and_true, Bool.and_false, Bool.true_and, Bool.false_and, Bool.or_true, Bool.or_false, Bool.true_or, Bool.false_or, decide_eq_true_eq, decide_eq_false_iff_not, reduceCtorEq]; omega))))
    rw [qadd]
    rfl
  | succ j ih =>
    intro t ht o4 o5 o6
    obtain ⟨b1, b2, b3, b4, b5, b6⟩ := w.lit (show t < nlit cs by omega)
    obtain ⟨p3, p4, p5, p6, hp⟩ := ih (t + 1) (by omega) (some (vi (nI (beg cs i)))) (some (vi (nI (beg cs t)))) (some (vi (nI (beg cs (i + 1) - beg cs i))))
    refine ⟨p3, p4, p5, p6, ?_⟩
    unfold ex
    have go : ∀ {b : Bool}, (Nat.beq (cd cs (beg cs i) % 2) 0 && opp cs i t) = b → N_always_18 (d + 2) 128 (nI k) (nI i) (nI t) o4 o5 o6 h = if b = true then some (some (vi (nI 1)), h) else N_always_18 (d + 2) 128 (nI k) (nI i) (nI (t + 1)) (some (vi (nI (beg cs i)))) (some (vi (nI (beg cs t)))) (some (vi (nI (beg cs (i + 1) - beg cs i)))) h := by
      intro b hb
      have eP := fun z (hz : z < cs.length) => s_pastOf hL d hk w m hz
      have ep1 := eP (beg cs i) a1
      have ep2 := eP (beg cs t) b1
      rw [a4] at ep1
      rw [b4] at ep2
      have ec1 := s_codeAt hL (d + 1) hk (show beg cs i ≤ 100 by omega)
      have ec2 := s_codeAt hL (d + 1) hk (show beg cs t ≤ 100 by omega)
      rw [m3 _ a1] at ec1
      rw [m3 _ b1] at ec2
      rw [e_N_always_18]
      by_cases e0 : cd cs (beg cs i) % 2 = 0
      · rw [beq_t.mpr e0, Bool.true_and] at hb
        by_cases e1 : cd cs (beg cs t) = cd cs (beg cs i) + 1
        · have x1 : cd cs (beg cs i) ^^^ cd cs (beg cs t) = 1 := by
            rw [e1]
            exact (by decide +kernel : ∀ z, z < 108 → z % 2 = 0 → z ^^^ (z + 1) = 1) _ (by omega) e0
          unfold opp at hb
          rw [beq_t.mpr x1, Bool.true_and] at hb
          by_cases e2 : beg cs (t + 1) - beg cs t = beg cs (i + 1) - beg cs i
          · rw [beq_t.mpr e2.symm, Bool.true_and] at hb
            have eS := m.same hL d hk w (p := beg cs i) (q := beg cs t) (n := beg cs (i + 1) - beg cs i) (by omega) (by omega) (by omega)
            rw [hb] at eS
            cases b
            · repeat (first | with_reducible refine hE ?_ | with_reducible refine hLi ?_ | (with_reducible apply hI; · (first | exact s_literalMany hL _ hk w m | exact s_beginOf hL _ hk w m (by omega) | exact ep1 | exact ep2 | exact ec1 | exact ec2 | exact eS | (simp (disch := omega) only [lk_128 hL, qsub, qrem, qadd, qmul, qcl, qle, qlt, qeq, qlt0, q0le, qeq0, qle0, q0lt, true_or, or_true, false_or, or_false, true_and, and_true, false_and, and_false, eq_self, not_true_eq_false, not_false_eq_true, qz0, qz1, q00, q01, q10, q11, zb_z, zb_0, zb_1, zor, Bool.true_eq_false, Bool.false_eq_true, Bool.and_true, Bool.and_false, Bool.true_and, Bool.false_and, Bool.or_true, Bool.or_false, Bool.true_or, Bool.false_or, decide_eq_true_eq, decide_eq_false_iff_not, reduceCtorEq]; first | exact s_literalMany hL _ hk w m | exact s_beginOf hL _ hk w m (by omega) | exact ep1 | exact ep2 | exact ec1 | exact ec2 | exact eS))) | (with_reducible apply hP; · (first | exact s_literalMany hL _ hk w m | exact s_beginOf hL _ hk w m (by omega) | exact ep1 | exact ep2 | exact ec1 | exact ec2 | exact eS | (simp (disch := omega) only [lk_128 hL, qsub, qrem, qadd, qmul, qcl, qle, qlt, qeq, qlt0, q0le, qeq0, qle0, q0lt, true_or, or_true, false_or, or_false, true_and, and_true, false_and, and_false, eq_self, not_true_eq_false, not_false_eq_true, qz0, qz1, q00, q01, q10, q11, zb_z, zb_0, zb_1, zor, Bool.true_eq_false, Bool.false_eq_true, Bool.and_true, Bool.and_false, Bool.true_and, Bool.false_and, Bool.or_true, Bool.or_false, Bool.true_or, Bool.false_or, decide_eq_true_eq, decide_eq_false_iff_not, reduceCtorEq]; first | exact s_literalMany hL _ hk w m | exact s_beginOf hL _ hk w m (by omega) | exact ep1 | exact ep2 | exact ec1 | exact ec2 | exact eS))) | (with_reducible apply hV; · (first | exact s_literalMany hL _ hk w m | exact s_beginOf hL _ hk w m (by omega) | exact ep1 | exact ep2 | exact ec1 | exact ec2 | exact eS | (simp (disch := omega) only [lk_128 hL, qsub, qrem, qadd, qmul, qcl, qle, qlt, qeq, qlt0, q0le, qeq0, qle0, q0lt, true_or, or_true, false_or, or_false, true_and, and_true, false_and, and_false, eq_self, not_true_eq_false, not_false_eq_true, qz0, qz1, q00, q01, q10, q11, zb_z, zb_0, zb_1, zor, Bool.true_eq_false, Bool.false_eq_true, Bool.and_true, Bool.and_false, Bool.true_and, Bool.false_and, Bool.or_true, Bool.or_false, Bool.true_or, Bool.false_or, decide_eq_true_eq, decide_eq_false_iff_not, reduceCtorEq]; first | exact s_literalMany hL _ hk w m | exact s_beginOf hL _ hk w m (by omega) | exact ep1 | exact ep2 | exact ec1 | exact ec2 | exact eS))) | (with_reducible apply hT; · (first | omega | (simp (disch := omega) only [lk_128 hL, qsub, qrem, qadd, qmul, qcl, qle, qlt, qeq, qlt0, q0le, qeq0, qle0, q0lt, true_or, or_true, false_or, or_false, true_and, and_true, false_and, and_false, eq_self, not_true_eq_false, not_false_eq_true, qz0, qz1, q00, q01, q10, q11, zb_z, zb_0, zb_1, zor, Bool.true_eq_false, Bool.false_eq_true, Bool.and_true, Bool.and_false, Bool.true_and, Bool.false_and, Bool.or_true, Bool.or_false, Bool.true_or, Bool.false_or, decide_eq_true_eq, decide_eq_false_iff_not, reduceCtorEq]; done) | (simp (disch := omega) only [lk_128 hL, qsub, qrem, qadd, qmul, qcl, qle, qlt, qeq, qlt0, q0le, qeq0, qle0, q0lt, true_or, or_true, false_or, or_false, true_and, and_true, false_and, and_false, eq_self, not_true_eq_false, not_false_eq_true, qz0, qz1, q00, q01, q10, q11, zb_z, zb_0, zb_1, zor, Bool.true_eq_false, Bool.false_eq_true, Bool.and_true, Bool.and_false, Bool.true_and, Bool.false_and, Bool.or_true, Bool.or_false, Bool.true_or, Bool.false_or, decide_eq_true_eq, decide_eq_false_iff_not, reduceCtorEq]; omega))) | (with_reducible apply hF; · (first | omega | (simp (disch := omega) only [lk_128 hL, qsub, qrem, qadd, qmul, qcl, qle, qlt, qeq, qlt0, q0le, qeq0, qle0, q0lt, true_or, or_true, false_or, or_false, true_and, and_true, false_and, and_false, eq_self, not_true_eq_false, not_false_eq_true, qz0, qz1, q00, q01, q10, q11, zb_z, zb_0, zb_1, zor, Bool.true_eq_false, Bool.false_eq_true, Bool.and_true, Bool.and_false, Bool.true_and, Bool.false_and, Bool.or_true, Bool.or_false, Bool.true_or, Bool.false_or, decide_eq_true_eq, decide_eq_false_iff_not, reduceCtorEq]; done) | (simp (disch := omega) only [lk_128 hL, qsub, qrem, qadd, qmul, qcl, qle, qlt, qeq, qlt0, q0le, qeq0, qle0, q0lt, true_or, or_true, false_or, or_false, true_and, and_true, false_and, and_false, eq_self, not_true_eq_false, not_false_eq_true, qz0, qz1, q00, q01, q10, q11, zb_z, zb_0, zb_1, zor, Bool.true_eq_false, Bool.false_eq_true, Bool.and_true, Bool.and_false, Bool.true_and, Bool.false_and, Bool.or_true, Bool.or_false, Bool.true_or, Bool.false_or, decide_eq_true_eq, decide_eq_false_iff_not, reduceCtorEq]; omega))))
              simp (disch := omega) only [qsub, qadd, Bool.false_eq_true, if_false]
            · repeat (first | with_reducible refine hE ?_ | with_reducible refine hLi ?_ | (with_reducible apply hI; · (first | exact s_literalMany hL _ hk w m | exact s_beginOf hL _ hk w m (by omega) | exact ep1 | exact ep2 | exact ec1 | exact ec2 | exact eS | (simp (disch := omega) only [lk_128 hL, qsub, qrem, qadd, qmul, qcl, qle, qlt, qeq, qlt0, q0le, qeq0, qle0, q0lt, true_or, or_true, false_or, or_false, true_and, and_true, false_and, and_false, eq_self, not_true_eq_false, not_false_eq_true, qz0, qz1, q00, q01, q10, q11, zb_z, zb_0, zb_1, zor, Bool.true_eq_false, Bool.false_eq_true, Bool.and_true, Bool.and_false, Bool.true_and, Bool.false_and, Bool.or_true, Bool.or_false, Bool.true_or, Bool.false_or, decide_eq_true_eq, decide_eq_false_iff_not, reduceCtorEq]; first | exact s_literalMany hL _ hk w m | exact s_beginOf hL _ hk w m (by omega) | exact ep1 | exact ep2 | exact ec1 | exact ec2 | exact eS))) | (with_reducible apply hP; · (first | exact s_literalMany hL _ hk w m | exact s_beginOf hL _ hk w m (by omega) | exact ep1 | exact ep2 | exact ec1 | exact ec2 | exact eS | (simp (disch := omega) only [lk_128 hL, qsub, qrem, qadd, qmul, qcl, qle, qlt, qeq, qlt0, q0le, qeq0, qle0, q0lt, true_or, or_true, false_or, or_false, true_and, and_true, false_and, and_false, eq_self, not_true_eq_false, not_false_eq_true, qz0, qz1, q00, q01, q10, q11, zb_z, zb_0, zb_1, zor, Bool.true_eq_false, Bool.false_eq_true, Bool.and_true, Bool.and_false, Bool.true_and, Bool.false_and, Bool.or_true, Bool.or_false, Bool.true_or, Bool.false_or, decide_eq_true_eq, decide_eq_false_iff_not, reduceCtorEq]; first | exact s_literalMany hL _ hk w m | exact s_beginOf hL _ hk w m (by omega) | exact ep1 | exact ep2 | exact ec1 | exact ec2 | exact eS))) | (with_reducible apply hV; · (first | exact s_literalMany hL _ hk w m | exact s_beginOf hL _ hk w m (by omega) | exact ep1 | exact ep2 | exact ec1 | exact ec2 | exact eS | (simp (disch := omega) only [lk_128 hL, qsub, qrem, qadd, qmul, qcl, qle, qlt, qeq, qlt0, q0le, qeq0, qle0, q0lt, true_or, or_true, false_or, or_false, true_and, and_true, false_and, and_false, eq_self, not_true_eq_false, not_false_eq_true, qz0, qz1, q00, q01, q10, q11, zb_z, zb_0, zb_1, zor, Bool.true_eq_false, Bool.false_eq_true, Bool.and_true, Bool.and_false, Bool.true_and, Bool.false_and, Bool.or_true, Bool.or_false, Bool.true_or, Bool.false_or, decide_eq_true_eq, decide_eq_false_iff_not, reduceCtorEq]; first | exact s_literalMany hL _ hk w m | exact s_beginOf hL _ hk w m (by omega) | exact ep1 | exact ep2 | exact ec1 | exact ec2 | exact eS))) | (with_reducible apply hT; · (first | omega | (simp (disch := omega) only [lk_128 hL, qsub, qrem, qadd, qmul, qcl, qle, qlt, qeq, qlt0, q0le, qeq0, qle0, q0lt, true_or, or_true, false_or, or_false, true_and, and_true, false_and, and_false, eq_self, not_true_eq_false, not_false_eq_true, qz0, qz1, q00, q01, q10, q11, zb_z, zb_0, zb_1, zor, Bool.true_eq_false, Bool.false_eq_true, Bool.and_true, Bool.and_false, Bool.true_and, Bool.false_and, Bool.or_true, Bool.or_false, Bool.true_or, Bool.false_or, decide_eq_true_eq, decide_eq_false_iff_not, reduceCtorEq]; done) | (simp (disch := omega) only [lk_128 hL, qsub, qrem, qadd, qmul, qcl, qle, qlt, qeq, qlt0, q0le, qeq0, qle0, q0lt, true_or, or_true, false_or, or_false, true_and, and_true, false_and, and_false, eq_self, not_true_eq_false, not_false_eq_true, qz0, qz1, q00, q01, q10, q11, zb_z, zb_0, zb_1, zor, Bool.true_eq_false, Bool.false_eq_true, Bool.and_true, Bool.and_false, Bool.true_and, Bool.false_and, Bool.or_true, Bool.or_false, Bool.true_or, Bool.false_or, decide_eq_true_eq, decide_eq_false_iff_not, reduceCtorEq]; omega))) | (with_reducible apply hF; · (first | omega | (simp (disch := omega) only [lk_128 hL, qsub, qrem, qadd, qmul, qcl, qle, qlt, qeq, qlt0, q0le, qeq0, qle0, q0lt, true_or, or_true, false_or, or_false, true_and, and_true, false_and, and_false, eq_self, not_true_eq_false, not_false_eq_true, qz0, qz1, q00, q01, q10, q11, zb_z, zb_0, zb_1, zor, Bool.true_eq_false, Bool.false_eq_true, Bool.and_true, Bool.and_false, Bool.true_and, Bool.false_and, Bool.or_true, Bool.or_false, Bool.true_or, Bool.false_or, decide_eq_true_eq, decide_eq_false_iff_not, reduceCtorEq]; done) | (simp (disch := omega) only [lk_128 hL, qsub, qrem, qadd, qmul, qcl, qle, qlt, qeq, qlt0, q0le, qeq0, qle0, q0lt, true_or, or_true, false_or, or_false, true_and, and_true, false_and, and_false, eq_self, not_true_eq_false, not_false_eq_true, qz0, qz1, q00, q01, q10, q11, zb_z, zb_0, zb_1, zor, Bool.true_eq_false, Bool.false_eq_true, Bool.and_true, Bool.and_false, Bool.true_and, Bool.false_and, Bool.or_true, Bool.or_false, Bool.true_or, Bool.false_or, decide_eq_true_eq, decide_eq_false_iff_not, reduceCtorEq]; omega))))
              rfl
          · rw [beq_f.mpr (fun z => e2 z.symm), Bool.false_and] at hb
            subst hb
            repeat (first | with_reducible refine hE ?_ | with_reducible refine hLi ?_ | (with_reducible apply hI; · (first | exact s_literalMany hL _ hk w m | exact s_beginOf hL _ hk w m (by omega) | exact ep1 | exact ep2 | exact ec1 | exact ec2 | (simp (disch := omega) only [lk_128 hL, qsub, qrem, qadd, qmul, qcl, qle, qlt, qeq, qlt0, q0le, qeq0, qle0, q0lt, true_or, or_true, false_or, or_false, true_and, and_true, false_and, and_false, eq_self, not_true_eq_false, not_false_eq_true, qz0, qz1, q00, q01, q10, q11, zb_z, zb_0, zb_1, zor, Bool.true_eq_false, Bool.false_eq_true, Bool.and_true, Bool.and_false, Bool.true_and, Bool.false_and, Bool.or_true, Bool.or_false, Bool.true_or, Bool.false_or, decide_eq_true_eq, decide_eq_false_iff_not, reduceCtorEq]; first | exact s_literalMany hL _ hk w m | exact s_beginOf hL _ hk w m (by omega) | exact ep1 | exact ep2 | exact ec1 | exact ec2))) | (with_reducible apply hP; · (first | exact s_literalMany hL _ hk w m | exact s_beginOf hL _ hk w m (by omega) | exact ep1 | exact ep2 | exact ec1 | exact ec2 | (simp (disch := omega) only [lk_128 hL, qsub, qrem, qadd, qmul, qcl, qle, qlt, qeq, qlt0, q0le, qeq0, qle0, q0lt, true_or, or_true, false_or, or_false, true_and, and_true, false_and, and_false, eq_self, not_true_eq_false, not_false_eq_true, qz0, qz1, q00, q01, q10, q11, zb_z, zb_0, zb_1, zor, Bool.true_eq_false, Bool.false_eq_true, Bool.and_true, Bool.and_false, Bool.true_and, Bool.false_and, Bool.or_true, Bool.or_false, Bool.true_or, Bool.false_or, decide_eq_true_eq, decide_eq_false_iff_not, reduceCtorEq]; first | exact s_literalMany hL _ hk w m | exact s_beginOf hL _ hk w m (by omega) | exact ep1 | exact ep2 | exact ec1 | exact ec2))) | (with_reducible apply hV; · (first | exact s_literalMany hL _ hk w m | exact s_beginOf hL _ hk w m (by omega) | exact ep1 | exact ep2 | exact ec1 | exact ec2 | (simp (disch := omega) only [lk_128 hL, qsub, qrem, qadd, qmul, qcl, qle, qlt, qeq, qlt0, q0le, qeq0, qle0, q0lt, true_or, or_true, false_or, or_false, true_and, and_true, false_and, and_false, eq_self, not_true_eq_false, not_false_eq_true, qz0, qz1, q00, q01, q10, q11, zb_z, zb_0, zb_1, zor, Bool.true_eq_false, Bool.false_eq_true, Bool.and_true, Bool.and_false, Bool.true_and, Bool.false_and, Bool.or_true, Bool.or_false, Bool.true_or, Bool.false_or, decide_eq_true_eq, decide_eq_false_iff_not, reduceCtorEq]; first | exact s_literalMany hL _ hk w m | exact s_beginOf hL _ hk w m (by omega) | exact ep1 | exact ep2 | exact ec1 | exact ec2))) | (with_reducible apply hT; · (first | omega | (simp (disch := omega) only [lk_128 hL, qsub, qrem, qadd, qmul, qcl, qle, qlt, qeq, qlt0, q0le, qeq0, qle0, q0lt, true_or, or_true, false_or, or_false, true_and, and_true, false_and, and_false, eq_self, not_true_eq_false, not_false_eq_true, qz0, qz1, q00, q01, q10, q11, zb_z, zb_0, zb_1, zor, Bool.true_eq_false, Bool.false_eq_true, Bool.and_true, Bool.and_false, Bool.true_and, Bool.false_and, Bool.or_true, Bool.or_false, Bool.true_or, Bool.false_or, decide_eq_true_eq, decide_eq_false_iff_not, reduceCtorEq]; done) | (simp (disch := omega) only [lk_128 hL, qsub, qrem, qadd, qmul, qcl, qle, qlt, qeq, qlt0, q0le, qeq0, qle0, q0lt, true_or, or_true, false_or, or_false, true_and, and_true, false_and, and_false, eq_self, not_true_eq_false, not_false_eq_true, qz0, qz1, q00, q01, q10, q11, zb_z, zb_0, zb_1, zor, Bool.true_eq_false, Bool.false_eq_true, Bool.and_true, Bool.and_false, Bool.true_and, Bool.false_and, Bool.or_true, Bool.or_false, Bool.true_or, Bool.false_or, decide_eq_true_eq, decide_eq_false_iff_not, reduceCtorEq]; omega))) | (with_reducible apply hF; · (first | omega | (simp (disch := omega) only [lk_128 hL, qsub, qrem, qadd, qmul, qcl, qle, qlt, qeq, qlt0, q0le, qeq0, qle0, q0lt, true_or, or_true, false_or, or_false, true_and, and_true, false_and, and_false, eq_self, not_true_eq_false, not_false_eq_true, qz0, qz1, q00, q01, q10, q11, zb_z, zb_0, zb_1, zor, Bool.true_eq_false, Bool.false_eq_true, Bool.and_true, Bool.and_false, Bool.true_and, Bool.false_and, Bool.or_true, Bool.or_false, Bool.true_or, Bool.false_or, decide_eq_true_eq, decide_eq_false_iff_not, reduceCtorEq]; done) | (simp (disch := omega) only [lk_128 hL, qsub, qrem, qadd, qmul, qcl, qle, qlt, qeq, qlt0, q0le, qeq0, qle0, q0lt, true_or, or_true, false_or, or_false, true_and, and_true, false_and, and_false, eq_self, not_true_eq_false, not_false_eq_true, qz0, qz1, q00, q01, q10, q11, zb_z, zb_0, zb_1, zor, Bool.true_eq_false, Bool.false_eq_true, Bool.and_true, Bool.and_false, Bool.true_and, Bool.false_and, Bool.or_true, Bool.or_false, Bool.true_or, Bool.false_or, decide_eq_true_eq, decide_eq_false_iff_not, reduceCtorEq]; omega))))
            simp (disch := omega) only [qsub, qadd, Bool.false_eq_true, if_false]
        · have x1 : ¬ cd cs (beg cs i) ^^^ cd cs (beg cs t) = 1 := by
            intro z
            exact e1 ((by decide +kernel : ∀ y, y < 108 → y % 2 = 0 → ∀ z, z < 108 → y ^^^ z = 1 → z = y + 1) _ (by omega) e0 _ (by omega) z)
          unfold opp at hb
          rw [beq_f.mpr x1, Bool.false_and] at hb
          subst hb
          repeat (first | with_reducible refine hE ?_ | with_reducible refine hLi ?_ | (with_reducible apply hI; · (first | exact s_literalMany hL _ hk w m | exact s_beginOf hL _ hk w m (by omega) | exact ep1 | exact ep2 | exact ec1 | exact ec2 | (simp (disch := omega) only [lk_128 hL, qsub, qrem, qadd, qmul, qcl, qle, qlt, qeq, qlt0, q0le, qeq0, qle0, q0lt, true_or, or_true, false_or, or_false, true_and, and_true, false_and, and_false, eq_self, not_true_eq_false, not_false_eq_true, qz0, qz1, q00, q01, q10, q11, zb_z, zb_0, zb_1, zor, Bool.true_eq_false, Bool.false_eq_true, Bool.and_true, Bool.and_false, Bool.true_and, Bool.false_and, Bool.or_true, Bool.or_false, Bool.true_or, Bool.false_or, decide_eq_true_eq, decide_eq_false_iff_not, reduceCtorEq]; first | exact s_literalMany hL _ hk w m | exact s_beginOf hL _ hk w m (by omega) | exact ep1 | exact ep2 | exact ec1 | exact ec2))) | (with_reducible apply hP; · (first | exact s_literalMany hL _ hk w m | exact s_beginOf hL _ hk w m (by omega) | exact ep1 | exact ep2 | exact ec1 | exact ec2 | (simp (disch := omega) only [lk_128 hL, qsub, qrem, qadd, qmul, qcl, qle, qlt, qeq, qlt0, q0le, qeq0, qle0, q0lt, true_or, or_true, false_or, or_false, true_and, and_true, false_and, and_false, eq_self, not_true_eq_false, not_false_eq_true, qz0, qz1, q00, q01, q10, q11, zb_z, zb_0, zb_1, zor, Bool.true_eq_false, Bool.false_eq_true, Bool.and_true, Bool.and_false, Bool.true_and, Bool.false_and, Bool.or_true, Bool.or_false, Bool.true_or, Bool.false_or, decide_eq_true_eq, decide_eq_false_iff_not, reduceCtorEq]; first | exact s_literalMany hL _ hk w m | exact s_beginOf hL _ hk w m (by omega) | exact ep1 | exact ep2 | exact ec1 | exact ec2))) | (with_reducible apply hV; · (first | exact s_literalMany hL _ hk w m | exact s_beginOf hL _ hk w m (by omega) | exact ep1 | exact ep2 | exact ec1 | exact ec2 | (simp (disch := omega) only [lk_128 hL, qsub, qrem, qadd, qmul, qcl, qle, qlt, qeq, qlt0, q0le, qeq0, qle0, q0lt, true_or, or_true, false_or, or_false, true_and, and_true, false_and, and_false, eq_self, not_true_eq_false, not_false_eq_true, qz0, qz1, q00, q01, q10, q11, zb_z, zb_0, zb_1, zor, Bool.true_eq_false, Bool.false_eq_true, Bool.and_true, Bool.and_false, Bool.true_and, Bool.false_and, Bool.or_true, Bool.or_false, Bool.true_or, Bool.false_or, decide_eq_true_eq, decide_eq_false_iff_not, reduceCtorEq]; first | exact s_literalMany hL _ hk w m | exact s_beginOf hL _ hk w m (by omega) | exact ep1 | exact ep2 | exact ec1 | exact ec2))) | (with_reducible apply hT; · (first | omega | (simp (disch := omega) only [lk_128 hL, qsub, qrem, qadd, qmul, qcl, qle, qlt, qeq, qlt0, q0le, qeq0, qle0, q0lt, true_or, or_true, false_or, or_false, true_and, and_true, false_and, and_false, eq_self, not_true_eq_false, not_false_eq_true, qz0, qz1, q00, q01, q10, q11, zb_z, zb_0, zb_1, zor, Bool.true_eq_false, Bool.false_eq_true, Bool.and_true, Bool.and_false, Bool.true_and, Bool.false_and, Bool.or_true, Bool.or_false, Bool.true_or, Bool.false_or, decide_eq_true_eq, decide_eq_false_iff_not, reduceCtorEq]; done) | (simp (disch := omega) only [lk_128 hL, qsub, qrem, qadd, qmul, qcl, qle, qlt, qeq, qlt0, q0le, qeq0, qle0, q0lt, true_or, or_true, false_or, or_false, true_and, and_true, false_and, and_false, eq_self, not_true_eq_false, not_false_eq_true, qz0, qz1, q00, q01, q10, q11, zb_z, zb_0, zb_1, zor, Bool.true_eq_false, Bool.false_eq_true, Bool.and_true, Bool.and_false, Bool.true_and, Bool.false_and, Bool.or_true, Bool.or_false, Bool.true_or, Bool.false_or, decide_eq_true_eq, decide_eq_false_iff_not, reduceCtorEq]; omega))) | (with_reducible apply hF; · (first | omega | (simp (disch := omega) only [lk_128 hL, qsub, qrem, qadd, qmul, qcl, qle, qlt, qeq, qlt0, q0le, qeq0, qle0, q0lt, true_or, or_true, false_or, or_false, true_and, and_true, false_and, and_false, eq_self, not_true_eq_false, not_false_eq_true, qz0, qz1, q00, q01, q10, q11, zb_z, zb_0, zb_1, zor, Bool.true_eq_false, Bool.false_eq_true, Bool.and_true, Bool.and_false, Bool.true_and, Bool.false_and, Bool.or_true, Bool.or_false, Bool.true_or, Bool.false_or, decide_eq_true_eq, decide_eq_false_iff_not, reduceCtorEq]; done) | (simp (disch := omega) only [lk_128 hL, qsub, qrem, qadd, qmul, qcl, qle, qlt, qeq, qlt0, q0le, qeq0, qle0, q0lt, true_or, or_true, false_or, or_false, true_and, and_true, false_and, and_false, eq_self, not_true_eq_false, not_false_eq_true, qz0, qz1, q00, q01, q10, q11, zb_z, zb_0, zb_1, zor, Bool.true_eq_false, Bool.false_eq_true, Bool.and_true, Bool.and_false, Bool.true_and, Bool.false_and, Bool.or_true, Bool.or_false, Bool.true_or, Bool.false_or, decide_eq_true_eq, decide_eq_false_iff_not, reduceCtorEq]; omega))))
          simp (disch := omega) only [qsub, qadd, Bool.false_eq_true, if_false]
      · rw [beq_f.mpr e0, Bool.false_and] at hb
        subst hb
        repeat (first | with_reducible refine hE ?_ | with_reducible refine hLi ?_ | (with_reducible apply hI; · (first | exact s_literalMany hL _ hk w m | exact s_beginOf hL _ hk w m (by omega) | exact ep1 | exact ep2 | exact ec1 | exact ec2 | (simp (disch := omega) only [lk_128 hL, qsub, qrem, qadd, qmul, qcl, qle, qlt, qeq, qlt0, q0le, qeq0, qle0, q0lt, true_or, or_true, false_or, or_false, true_and, and_true, false_and, and_false, eq_self, not_true_eq_false, not_false_eq_true, qz0, qz1, q00, q01, q10, q11, zb_z, zb_0, zb_1, zor, Bool.true_eq_false, Bool.false_eq_true, Bool.and_true, Bool.and_false, Bool.true_and, Bool.false_and, Bool.or_true, Bool.or_false, Bool.true_or, Bool.false_or, decide_eq_true_eq, decide_eq_false_iff_not, reduceCtorEq]; first | exact s_literalMany hL _ hk w m | exact s_beginOf hL _ hk w m (by omega) | exact ep1 | exact ep2 | exact ec1 | exact ec2))) | (with_reducible apply hP; · (first | exact s_literalMany hL _ hk w m | exact s_beginOf hL _ hk w m (by omega) | exact ep1 | exact ep2 | exact ec1 | exact ec2 | (simp (disch := omega) only [lk_128 hL, qsub, qrem, qadd, qmul, qcl, qle, qlt, qeq, qlt0, q0le, qeq0, qle0, q0lt, true_or, or_true, false_or, or_false, true_and, and_true, false_and, and_false, eq_self, not_true_eq_false, not_false_eq_true, qz0, qz1, q00, q01, q10, q11, zb_z, zb_0, zb_1, zor, Bool.true_eq_false, Bool.false_eq_true, Bool.and_true, Bool.and_false, Bool.true_and, Bool.false_and, Bool.or_true, Bool.or_false, Bool.true_or, Bool.false_or, decide_eq_true_eq, decide_eq_false_iff_not, reduceCtorEq]; first | exact s_literalMany hL _ hk w m | exact s_beginOf hL _ hk w m (by omega) | exact ep1 | exact ep2 | exact ec1 | exact ec2))) | (with_reducible apply hV; · (first | exact s_literalMany hL _ hk w m | exact s_beginOf hL _ hk w m (by omega) | exact ep1 | exact ep2 | exact ec1 | exact ec2 | (simp (disch := omega) only [lk_128 hL, qsub, qrem, qadd, qmul, qcl, qle, qlt, qeq, qlt0, q0le, qeq0, qle0, q0lt, true_or, or_true, false_or, or_false, true_and, and_true, false_and, and_false, eq_self, not_true_eq_false, not_false_eq_true, qz0, qz1, q00, q01, q10, q11, zb_z, zb_0, zb_1, zor, Bool.true_eq_false, Bool.false_eq_true, Bool.and_true, Bool.and_false, Bool.true_and, Bool.false_and, Bool.or_true, Bool.or_false, Bool.true_or, Bool.false_or, decide_eq_true_eq, decide_eq_false_iff_not, reduceCtorEq]; first | exact s_literalMany hL _ hk w m | exact s_beginOf hL _ hk w m (by omega) | exact ep1 | exact ep2 | exact ec1 | exact ec2))) | (with_reducible apply hT; · (first | omega | (simp (disch := omega) only [lk_128 hL, qsub, qrem, qadd, qmul, qcl, qle, qlt, qeq, qlt0, q0le, qeq0, qle0, q0lt, true_or, or_true, false_or, or_false, true_and, and_true, false_and, and_false, eq_self, not_true_eq_false, not_false_eq_true, qz0, qz1, q00, q01, q10, q11, zb_z, zb_0, zb_1, zor, Bool.true_eq_false, Bool.false_eq_true, Bool.and_true, Bool.and_false, Bool.true_and, Bool.false_and, Bool.or_true, Bool.or_false, Bool.true_or, Bool.false_or, decide_eq_true_eq, decide_eq_false_iff_not, reduceCtorEq]; done) | (simp (disch := omega) only [lk_128 hL, qsub, qrem, qadd, qmul, qcl, qle, qlt, qeq, qlt0, q0le, qeq0, qle0, q0lt, true_or, or_true, false_or, or_false, true_and, and_true, false_and, and_false, eq_self, not_true_eq_false, not_false_eq_true, qz0, qz1, q00, q01, q10, q11, zb_z, zb_0, zb_1, zor, Bool.true_eq_false, Bool.false_eq_true, Bool.and_true, Bool.and_false, Bool.true_and, Bool.false_and, Bool.or_true, Bool.or_false, Bool.true_or, Bool.false_or, decide_eq_true_eq, decide_eq_false_iff_not, reduceCtorEq]; omega))) | (with_reducible apply hF; · (first | omega | (simp (disch := omega) only [lk_128 hL, qsub, qrem, qadd, qmul, qcl, qle, qlt, qeq, qlt0, q0le, qeq0, qle0, q0lt, true_or, or_true, false_or, or_false, true_and, and_true, false_and, and_false, eq_self, not_true_eq_false, not_false_eq_true, qz0, qz1, q00, q01, q10, q11, zb_z, zb_0, zb_1, zor, Bool.true_eq_false, Bool.false_eq_true, Bool.and_true, Bool.and_false, Bool.true_and, Bool.false_and, Bool.or_true, Bool.or_false, Bool.true_or, Bool.false_or, decide_eq_true_eq, decide_eq_false_iff_not, reduceCtorEq]; done) | (simp (disch := omega) only [lk_128 hL, qsub, qrem, qadd, qmul, qcl, qle, qlt, qeq, qlt0, q0le, qeq0, qle0, q0lt, true_or, or_true, false_or, or_false, true_and, and_true, false_and, and_false, eq_self, not_true_eq_false, not_false_eq_true, qz0, qz1, q00, q01, q10, q11, zb_z, zb_0, zb_1, zor, Bool.true_eq_false, Bool.false_eq_true, Bool.and_true, Bool.and_false, Bool.true_and, Bool.false_and, Bool.or_true, Bool.or_false, Bool.true_or, Bool.false_or, decide_eq_true_eq, decide_eq_false_iff_not, reduceCtorEq]; omega))))
        simp (disch := omega) only [qsub, qadd, Bool.false_eq_true, if_false]
    rw [go rfl]
    cases hb : (Nat.beq (cd cs (beg cs i) % 2) 0 && opp cs i t) with
    | true => rfl
    | false =>
      simp only [Bool.false_eq_true, if_false]
      exact hp
theorem MC.always_11 {h : mh} (hL : Lay h) (d : Nat) {k : Nat} (hk : k ≤ 24) {cs : List Nat} (w : WF cs) (m : MC h 129 0 k cs) : ∀ j i, i + j = nlit cs → ∀ o3 o4 o5 o6, N_always_11 (d + 2) 128 (nI k) (nI i) o3 o4 o5 o6 h = some (some (vi (zb (ex (fun i => ex (fun u => Nat.beq (cd cs (beg cs i) % 2) 0 && opp cs i u) (nlit cs) 0) j i))), h) := by
  have l2 := w.2.2.1
  intro j
  induction j with
  | zero =>
    intro i hi o3 o4 o5 o6
    rw [e_N_always_11]
    simp (disch := omega) only [s_literalMany hL _ hk w m, lk_128 hL, lk_129 hL, lk_130 hL, lk_131 hL, lk_132 hL, lk_133 hL, lk_134 hL, lk_135 hL, lk_136 hL, lk_137 hL, lk_138 hL, lk_139 hL, lk_140 hL, lk_141 hL, lk_142 hL, lk_143 hL, lk_144 hL, lk_145 hL, lk_146 hL, lk_147 hL, lk_148 hL, lk_149 hL, lk_150 hL, lk_151 hL, lk_152 hL, lk_153 hL, lk_154 hL, ln_128 hL, ln_129 hL, ln_130 hL, ln_131 hL, ln_132 hL, ln_133 hL, ln_134 hL, ln_135 hL, ln_136 hL, ln_137 hL, ln_138 hL, ln_139 hL, ln_140 hL, ln_141 hL, ln_142 hL, ln_143 hL, ln_144 hL, ln_145 hL, ln_146 hL, ln_147 hL, ln_148 hL, ln_149 hL, ln_150 hL, ln_151 hL, ln_152 hL, ln_153 hL, ln_154 hL, lp_128_1 hL, lp_128_2 hL, lp_128_4 hL, lp_128_5 hL, lp_128_6 hL, lp_128_16 hL, lp_128_19 hL, lp_128_20 hL, lp_128_21 hL, lp_128_22 hL, lp_128_31 hL, lp_128_32 hL, lp_128_33 hL, lp_128_34 hL, lp_128_35 hL, lp_128_36 hL, lp_128_37 hL, lp_128_38 hL, lp_128_39 hL, lp_128_40 hL, lp_128_41 hL, lp_128_42 hL, lp_128_43 hL, lp_128_44 hL, lp_128_46 hL, lp_128_47 hL, qadd, qmul, qcl, qle, qlt, qeq, qlt0, q0le, qeq0, qle0, q0lt, bI, bP, bV, bE, bL, if_true, if_false, eq_self, true_or, or_true, false_or, or_false, true_and, and_true, false_and, and_false, qz0, qz1, q00, q01, q10, q11, if_pos, if_neg]
    rfl
  | succ j ih =>
    intro i hi o3 o4 o5 o6
    rw [e_N_always_11]
    unfold ex
    obtain ⟨p3, p4, p5, p6, hp⟩ := m.always_18 hL d hk w (show i < nlit cs by omega) (nlit cs) 0 (Nat.zero_add _) o4 o5 o6
    simp (disch := omega) only [s_literalMany hL _ hk w m, lk_128 hL, lk_129 hL, lk_130 hL, lk_131 hL, lk_132 hL, lk_133 hL, lk_134 hL, lk_135 hL, lk_136 hL, lk_137 hL, lk_138 hL, lk_139 hL, lk_140 hL, lk_141 hL, lk_142 hL, lk_143 hL, lk_144 hL, lk_145 hL, lk_146 hL, lk_147 hL, lk_148 hL, lk_149 hL, lk_150 hL, lk_151 hL, lk_152 hL, lk_153 hL, lk_154 hL, ln_128 hL, ln_129 hL, ln_130 hL, ln_131 hL, ln_132 hL, ln_133 hL, ln_134 hL, ln_135 hL, ln_136 hL, ln_137 hL, ln_138 hL, ln_139 hL, ln_140 hL, ln_141 hL, ln_142 hL, ln_143 hL, ln_144 hL, ln_145 hL, ln_146 hL, ln_147 hL, ln_148 hL, ln_149 hL, ln_150 hL, ln_151 hL, ln_152 hL, ln_153 hL, ln_154 hL, lp_128_1 hL, lp_128_2 hL, lp_128_4 hL, lp_128_5 hL, lp_128_6 hL, lp_128_16 hL, lp_128_19 hL, lp_128_20 hL, lp_128_21 hL, lp_128_22 hL, lp_128_31 hL, lp_128_32 hL, lp_128_33 hL, lp_128_34 hL, lp_128_35 hL, lp_128_36 hL, lp_128_37 hL, lp_128_38 hL, lp_128_39 hL, lp_128_40 hL, lp_128_41 hL, lp_128_42 hL, lp_128_43 hL, lp_128_44 hL, lp_128_46 hL, lp_128_47 hL, qadd, qmul, qcl, qle, qlt, qeq, qlt0, q0le, qeq0, qle0, q0lt, bI, bP, bV, bE, bL, if_true, if_false, eq_self, true_or, or_true, false_or, or_false, true_and, and_true, false_and, and_false, qz0, qz1, q00, q01, q10, q11, if_pos, if_neg]
    rw [hp]
    split
    · rfl
    · exact ih (i + 1) (by omega) _ _ _ _
theorem sm_sy (cs : List Nat) (p q i : Nat) : sm cs p q i = sm cs q p i := by
  unfold sm
  by_cases h : cd cs (p + i) = cd cs (q + i)
  · rw [beq_t.mpr h, beq_t.mpr h.symm]
  · rw [beq_f.mpr h, beq_f.mpr (fun z => h z.symm)]
theorem opp_t {cs : List Nat} {i j : Nat} : opp cs i j = true ↔ (cd cs (beg cs i) ^^^ cd cs (beg cs j) = 1 ∧ beg cs (i + 1) - beg cs i = beg cs (j + 1) - beg cs j ∧ ∀ t, 1 ≤ t → t < beg cs (i + 1) - beg cs i → cd cs (beg cs i + t) = cd cs (beg cs j + t)) := by
  unfold opp
  rw [Bool.and_eq_true, Bool.and_eq_true, beq_t, beq_t, al_t]
  constructor
  · rintro ⟨h1, h2, h3⟩
    refine ⟨h1, h2, fun t t1 t2 => ?_⟩
    have := h3 t t1 (by omega)
    unfold sm at this
    rwa [beq_t] at this
  · rintro ⟨h1, h2, h3⟩
    refine ⟨h1, h2, fun t t1 t2 => ?_⟩
    unfold sm
    rw [beq_t]
    exact h3 t t1 (by omega)
theorem alw_eq {cs : List Nat} (w : WF cs) : ex (fun i => ex (fun u => Nat.beq (cd cs (beg cs i) % 2) 0 && opp cs i u) (nlit cs) 0) (nlit cs) 0 = alw cs := by
  have key : ∀ a b : Bool, (a = true ↔ b = true) → a = b := by
    intro a b
    cases a <;> cases b <;> simp
  apply key
  unfold alw
  have sy : ∀ i j, opp cs i j = true → opp cs j i = true := by
    intro i j h
    rw [opp_t] at h ⊢
    exact ⟨by rw [Nat.xor_comm]; exact h.1, h.2.1.symm, fun t t1 t2 => (h.2.2 t t1 (by omega)).symm⟩
  constructor
  · intro h
    obtain ⟨i, h1, h2, h3⟩ := ex_t.mp h
    obtain ⟨j, g1, g2, g3⟩ := ex_t.mp h3
    rw [Bool.and_eq_true] at g3
    have ne : i ≠ j := by
      rintro rfl
      have := (opp_t.mp g3.2).1
      rw [Nat.xor_self] at this
      cases this
    apply ex_t.mpr
    rcases Nat.lt_or_ge i j with z | z
    · exact ⟨i, h1, h2, ex_t.mpr ⟨j, by omega, by omega, g3.2⟩⟩
    · exact ⟨j, g1, g2, ex_t.mpr ⟨i, by omega, by omega, sy _ _ g3.2⟩⟩
  · intro h
    obtain ⟨i, h1, h2, h3⟩ := ex_t.mp h
    obtain ⟨j, g1, g2, g3⟩ := ex_t.mp h3
    obtain ⟨a1, a2, a3, a4, a5, a6⟩ := w.lit (show i < nlit cs by omega)
    obtain ⟨b1, b2, b3, b4, b5, b6⟩ := w.lit (show j < nlit cs by omega)
    have x := (opp_t.mp g3).1
    apply ex_t.mpr
    by_cases e : cd cs (beg cs i) % 2 = 0
    · refine ⟨i, h1, h2, ex_t.mpr ⟨j, by omega, by omega, ?_⟩⟩
      rw [Bool.and_eq_true, beq_t]
      exact ⟨e, g3⟩
    · refine ⟨j, by omega, by omega, ex_t.mpr ⟨i, by omega, by omega, ?_⟩⟩
      rw [Bool.and_eq_true, beq_t]
      refine ⟨?_, sy _ _ g3⟩
      exact (by decide +kernel : ∀ y, y < 108 → ∀ z, z < 108 → y ^^^ z = 1 → ¬ y % 2 = 0 → z % 2 = 0) _ (by omega) _ (by omega) x e
