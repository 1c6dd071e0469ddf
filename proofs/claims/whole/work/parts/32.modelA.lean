/-! ===== the reference's small methods ===== -/
theorem lgc_lt {x y : Int64} : (lg_cmp x y < 0) = ¬ (y ≤ x) := by
  apply propext
  rw [← lg_cmp_ge, Int32.not_le]
theorem lgc_gt {x y : Int64} : ((0 : Int32) < lg_cmp x y) = ¬ (x ≤ y) := by
  apply propext
  unfold lg_cmp
  simp only [gt_iff_lt, Int64.lt_iff_toInt_lt, Int64.le_iff_toInt_le, ← Int64.toInt_inj]
  split
  · constructor
    · intro _; omega
    · intro _; decide
  · split
    · constructor
      · intro h; exact absurd h (by decide)
      · intro h; omega
    · constructor
      · intro h; exact absurd h (by decide)
      · intro h; omega
theorem s_within (d : Nat) (a b c : Int64) (h : mh) : N_within (d + 1) a b c h = some (some (vi (if b ≤ a ∧ a ≤ c then nI 1 else nI 0)), h) := by
  rw [e_N_within]
  simp only [lgc_lt, lgc_gt]
  by_cases h1 : b ≤ a <;> by_cases h2 : a ≤ c <;> simp [h1, h2, qz0, qz1]
theorem w64 (x : Int32) (a b : Int64) : (a ≤ x.toInt64 ∧ x.toInt64 ≤ b) = (a.toInt ≤ x.toInt ∧ x.toInt ≤ b.toInt) := by
  apply propext
  rw [Int64.le_iff_toInt_le, Int64.le_iff_toInt_le, Int32.toInt_toInt64]
theorem t64_0 : (0 : Int64).toInt = 0 := by decide +kernel
theorem t64_24 : (24 : Int64).toInt = 24 := by decide +kernel
/-- a clause's number, for the reference -/
theorem s_isClause {h : mh} (hL : Lay h) (d : Nat) {k : Nat} (hk : k ≤ 24) : N_isClause (d + 2) 128 (nI k) h = some (some (vi (if mI h 129 (32 * k) = nI 1 then nI 1 else nI 0)), h) := by
  rw [e_N_isClause, s_within]
  simp (disch := omega) only [w64, t64_0, t64_24, nI_toInt, lk_128 hL, lk_129 hL, lk_130 hL, lk_131 hL, lk_132 hL, lk_133 hL, lk_134 hL, lk_135 hL, lk_136 hL, lk_137 hL, lk_138 hL, lk_139 hL, lk_140 hL, lk_141 hL, lk_142 hL, lk_143 hL, lk_144 hL, lk_145 hL, lk_146 hL, lk_147 hL, lk_148 hL, lk_149 hL, lk_150 hL, lk_151 hL, lk_152 hL, lk_153 hL, lk_154 hL, ln_128 hL, ln_129 hL, ln_130 hL, ln_131 hL, ln_132 hL, ln_133 hL, ln_134 hL, ln_135 hL, ln_136 hL, ln_137 hL, ln_138 hL, ln_139 hL, ln_140 hL, ln_141 hL, ln_142 hL, ln_143 hL, ln_144 hL, ln_145 hL, ln_146 hL, ln_147 hL, ln_148 hL, ln_149 hL, ln_150 hL, ln_151 hL, ln_152 hL, ln_153 hL, ln_154 hL, lp_128_1 hL, lp_128_2 hL, lp_128_4 hL, lp_128_5 hL, lp_128_6 hL, lp_128_16 hL, lp_128_19 hL, lp_128_20 hL, lp_128_21 hL, lp_128_22 hL, lp_128_31 hL, lp_128_32 hL, lp_128_33 hL, lp_128_34 hL, lp_128_35 hL, lp_128_36 hL, lp_128_37 hL, lp_128_38 hL, lp_128_39 hL, lp_128_40 hL, lp_128_41 hL, lp_128_42 hL, lp_128_43 hL, lp_128_44 hL, lp_128_46 hL, lp_128_47 hL, qadd, qmul, qcl, qle, qlt, qeq, qlt0, q0le, qeq0, qle0, q0lt, bI, bP, bV, bE, bL, if_true, if_false, eq_self, true_or, or_true, false_or, or_false, true_and, and_true, false_and, and_false, qz0, qz1, q00, q01, q10, q11, if_pos, if_neg]
  split <;> simp (disch := omega) only [qadd, qmul, qcl, qle, qlt, qeq, qlt0, q0le, qeq0, qle0, q0lt, bI, bP, bV, bE, bL, if_true, if_false, eq_self, true_or, or_true, false_or, or_false, true_and, and_true, false_and, and_false, qz0, qz1, q00, q01, q10, q11, if_pos, if_neg]
theorem s_isClauseN {h : mh} (d : Nat) {x : Int32} (hx : ¬ (0 ≤ x.toInt ∧ x.toInt ≤ 24)) : N_isClause (d + 2) 128 x h = some (some (vi (nI 0)), h) := by
  rw [e_N_isClause, s_within]
  simp only [w64, t64_0, t64_24, hx, bI, bP, bV, bE, bL, if_true, if_false, eq_self, true_or, or_true, false_or, or_false, true_and, and_true, false_and, and_false, qz0, qz1, q00, q01, q10, q11, if_pos, if_neg]
theorem s_longOf {h : mh} (hL : Lay h) (d : Nat) {k : Nat} (hk : k ≤ 24) : N_longOf (d + 1) 128 (nI k) h = some (some (vi (mI h 129 (32 * k + 1))), h) := by
  rw [e_N_longOf]
  simp (disch := omega) only [lk_128 hL, lk_129 hL, lk_130 hL, lk_131 hL, lk_132 hL, lk_133 hL, lk_134 hL, lk_135 hL, lk_136 hL, lk_137 hL, lk_138 hL, lk_139 hL, lk_140 hL, lk_141 hL, lk_142 hL, lk_143 hL, lk_144 hL, lk_145 hL, lk_146 hL, lk_147 hL, lk_148 hL, lk_149 hL, lk_150 hL, lk_151 hL, lk_152 hL, lk_153 hL, lk_154 hL, ln_128 hL, ln_129 hL, ln_130 hL, ln_131 hL, ln_132 hL, ln_133 hL, ln_134 hL, ln_135 hL, ln_136 hL, ln_137 hL, ln_138 hL, ln_139 hL, ln_140 hL, ln_141 hL, ln_142 hL, ln_143 hL, ln_144 hL, ln_145 hL, ln_146 hL, ln_147 hL, ln_148 hL, ln_149 hL, ln_150 hL, ln_151 hL, ln_152 hL, ln_153 hL, ln_154 hL, lp_128_1 hL, lp_128_2 hL, lp_128_4 hL, lp_128_5 hL, lp_128_6 hL, lp_128_16 hL, lp_128_19 hL, lp_128_20 hL, lp_128_21 hL, lp_128_22 hL, lp_128_31 hL, lp_128_32 hL, lp_128_33 hL, lp_128_34 hL, lp_128_35 hL, lp_128_36 hL, lp_128_37 hL, lp_128_38 hL, lp_128_39 hL, lp_128_40 hL, lp_128_41 hL, lp_128_42 hL, lp_128_43 hL, lp_128_44 hL, lp_128_46 hL, lp_128_47 hL, qadd, qmul, qcl, qle, qlt, qeq, qlt0, q0le, qeq0, qle0, q0lt, bI, bP, bV, bE, bL, if_true, if_false, eq_self, true_or, or_true, false_or, or_false, true_and, and_true, false_and, and_false, qz0, qz1, q00, q01, q10, q11, if_pos, if_neg]
theorem s_codeAt {h : mh} (hL : Lay h) (d : Nat) {k i : Nat} (hk : k ≤ 24) (hi : i ≤ 100) : N_codeAt (d + 1) 128 (nI k) (nI i) h = some (some (vi (mI h 129 (32 * k + 2 + i))), h) := by
  rw [e_N_codeAt]
  simp (disch := omega) only [lk_128 hL, lk_129 hL, lk_130 hL, lk_131 hL, lk_132 hL, lk_133 hL, lk_134 hL, lk_135 hL, lk_136 hL, lk_137 hL, lk_138 hL, lk_139 hL, lk_140 hL, lk_141 hL, lk_142 hL, lk_143 hL, lk_144 hL, lk_145 hL, lk_146 hL, lk_147 hL, lk_148 hL, lk_149 hL, lk_150 hL, lk_151 hL, lk_152 hL, lk_153 hL, lk_154 hL, ln_128 hL, ln_129 hL, ln_130 hL, ln_131 hL, ln_132 hL, ln_133 hL, ln_134 hL, ln_135 hL, ln_136 hL, ln_137 hL, ln_138 hL, ln_139 hL, ln_140 hL, ln_141 hL, ln_142 hL, ln_143 hL, ln_144 hL, ln_145 hL, ln_146 hL, ln_147 hL, ln_148 hL, ln_149 hL, ln_150 hL, ln_151 hL, ln_152 hL, ln_153 hL, ln_154 hL, lp_128_1 hL, lp_128_2 hL, lp_128_4 hL, lp_128_5 hL, lp_128_6 hL, lp_128_16 hL, lp_128_19 hL, lp_128_20 hL, lp_128_21 hL, lp_128_22 hL, lp_128_31 hL, lp_128_32 hL, lp_128_33 hL, lp_128_34 hL, lp_128_35 hL, lp_128_36 hL, lp_128_37 hL, lp_128_38 hL, lp_128_39 hL, lp_128_40 hL, lp_128_41 hL, lp_128_42 hL, lp_128_43 hL, lp_128_44 hL, lp_128_46 hL, lp_128_47 hL, qadd, qmul, qcl, qle, qlt, qeq, qlt0, q0le, qeq0, qle0, q0lt, bI, bP, bV, bE, bL, if_true, if_false, eq_self, true_or, or_true, false_or, or_false, true_and, and_true, false_and, and_false, qz0, qz1, q00, q01, q10, q11, if_pos, if_neg]
