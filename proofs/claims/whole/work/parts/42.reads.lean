/-! ===== views: what each side holds as clauses and order; the class's Clause is read ===== -/
abbrev Ks : Type := Nat → Option (List Nat)
def kk (K : Ks) (k : Nat) : Bool := (K k).isSome
def KX (K : Ks) (x : Int32) : Option (List Nat) := if 0 ≤ x.toInt ∧ x.toInt ≤ 24 then K x.toNatClampNeg else none
theorem KX_n (K : Ks) {k : Nat} (hk : k ≤ 24) : KX K (nI k) = K k := by
  unfold KX
  rw [nI_toInt (by omega), if_pos (by omega), qcl (by omega)]
theorem KX_o (K : Ks) {x : Int32} (hx : ¬ (0 ≤ x.toInt ∧ x.toInt ≤ 24)) : KX K x = none := if_neg hx
/-- the reference's clauses -/
def RM (h : mh) (K : Ks) : Prop := Lay h ∧ ∀ k, k ≤ 24 → (K k = none ∧ mI h 129 (32 * k) = nI 0) ∨ ∃ cs, K k = some cs ∧ WF cs ∧ MC h 129 0 k cs
/-- where the class's clause k is -/
def cp (h : mh) (k : Nat) : Nat := if k = 24 then mP h 3 13 else mP h 105 k
def RC (h : mh) (K : Ks) : Prop := Lay h ∧ ∀ k, k ≤ 24 → (K k = none ∧ cp h k = 0) ∨ ∃ cs, K k = some cs ∧ WF cs ∧ CW h (cp h k) cs
def OM (h : mh) (O : List Nat) : Prop := O.length ≤ 8 ∧ mI h 129 800 = nI O.length ∧ ∀ i, i < O.length → cd O i < 40 ∧ mI h 129 (801 + i) = nI (cd O i)
def OC (h : mh) (O : List Nat) : Prop := O.length ≤ 8 ∧ mI h 104 2 = nI O.length ∧ ∀ i, i < O.length → cd O i < 40 ∧ mI h 106 i = nI (cd O i)
theorem RM.fi {W : Nat → Nat → Prop} {h h' : mh} {K : Ks} (r : RM h K) (f : Fi W h h') (hw : ∀ k, ¬ W 129 k) : RM h' K := by
  refine ⟨f.lay r.1, fun k hk => ?_⟩
  rcases r.2 k hk with ⟨a, b⟩ | ⟨cs, a, b, c⟩
  · exact Or.inl ⟨a, by rw [f.2 _ _ (hw _)]; exact b⟩
  · exact Or.inr ⟨cs, a, b, c.fr b.2.1 (fun j _ _ => f.2 _ _ (hw j))⟩
theorem RC.fi {W : Nat → Nat → Prop} {h h' : mh} {K : Ks} (r : RC h K) (f : Fi W h h') (hw : ∀ x k, W x k → ¬ im x) : RC h' K := by
  refine ⟨f.lay r.1, fun k hk => ?_⟩
  have e : cp h' k = cp h k := by unfold cp; rw [f.P, f.P]
  rw [e]
  rcases r.2 k hk with ⟨a, b⟩ | ⟨cs, a, b, c⟩
  · exact Or.inl ⟨a, b⟩
  · exact Or.inr ⟨cs, a, b, c.fr (V := fun _ _ => False) f.c hw (fun _ _ z => z.elim)⟩
theorem OM.fi {W : Nat → Nat → Prop} {h h' : mh} {O : List Nat} (r : OM h O) (f : Fi W h h') (hw : ∀ k, ¬ W 129 k) : OM h' O := ⟨r.1, by rw [f.2 _ _ (hw _)]; exact r.2.1, fun i hi => ⟨(r.2.2 i hi).1, by rw [f.2 _ _ (hw _)]; exact (r.2.2 i hi).2⟩⟩
theorem OC.fi {W : Nat → Nat → Prop} {h h' : mh} {O : List Nat} (r : OC h O) (f : Fi W h h') (h1 : ¬ W 104 2) (h2 : ∀ k, ¬ W 106 k) : OC h' O := ⟨r.1, by rw [f.2 _ _ h1]; exact r.2.1, fun i hi => ⟨(r.2.2 i hi).1, by rw [f.2 _ _ (h2 _)]; exact (r.2.2 i hi).2⟩⟩
theorem CW.fi {W : Nat → Nat → Prop} {h h' : mh} {a : Nat} {cs : List Nat} (c : CW h a cs) (f : Fi W h h') (hw : ∀ x k, W x k → ¬ im x) : CW h' a cs := c.fr (V := fun _ _ => False) f.c hw (fun _ _ z => z.elim)
theorem MC.fi {W : Nat → Nat → Prop} {h h' : mh} {k : Nat} {cs : List Nat} (m : MC h 129 0 k cs) (w : WF cs) (f : Fi W h h') (hw : ∀ k, ¬ W 129 k) : MC h' 129 0 k cs := m.fr w.2.1 (fun j _ _ => f.2 _ _ (hw j))
theorem CW.ne {h : mh} {a : Nat} {cs : List Nat} (c : CW h a cs) : a ≠ 0 := by
  have := c.2.1.1
  unfold im at this
  omega
theorem RM.isC {h : mh} {K : Ks} (r : RM h K) (d : Nat) (x : Int32) : N_isClause (d + 2) 128 x h = some (some (vi (zb (KX K x).isSome)), h) := by
  rcases qin x 24 (by decide) with ⟨k, hk, rfl⟩ | ⟨h1, h2⟩
  · rw [s_isClause r.1 d hk, KX_n K hk]
    rcases r.2 k hk with ⟨a, b⟩ | ⟨cs, a, b, c⟩
    · rw [a, b, if_neg (by decide +kernel)]; rfl
    · rw [a, c.at0.1, if_pos rfl]; rfl
  · rw [s_isClauseN d h1, KX_o K h1]; rfl
theorem RM.isK {h : mh} {K : Ks} (r : RM h K) (d : Nat) {k : Nat} (hk : k < 24) : N_isKept (d + 3) 128 (nI k) h = some (some (vi (zb (kk K k))), h) := by
  rw [e_N_isKept]
  have e := r.isC d (nI k)
  rw [KX_n K (by omega)] at e
  have hL := r.1
  simp (disch := omega) only [e, lk_128 hL, lk_129 hL, lk_130 hL, lk_131 hL, lk_132 hL, lk_133 hL, lk_134 hL, lk_135 hL, lk_136 hL, lk_137 hL, lk_138 hL, lk_139 hL, lk_140 hL, lk_141 hL, lk_142 hL, lk_143 hL, lk_144 hL, lk_145 hL, lk_146 hL, lk_147 hL, lk_148 hL, lk_149 hL, lk_150 hL, lk_151 hL, lk_152 hL, lk_153 hL, lk_154 hL, ln_128 hL, ln_129 hL, ln_130 hL, ln_131 hL, ln_132 hL, ln_133 hL, ln_134 hL, ln_135 hL, ln_136 hL, ln_137 hL, ln_138 hL, ln_139 hL, ln_140 hL, ln_141 hL, ln_142 hL, ln_143 hL, ln_144 hL, ln_145 hL, ln_146 hL, ln_147 hL, ln_148 hL, ln_149 hL, ln_150 hL, ln_151 hL, ln_152 hL, ln_153 hL, ln_154 hL, lp_128_1 hL, lp_128_2 hL, lp_128_4 hL, lp_128_5 hL, lp_128_6 hL, lp_128_16 hL, lp_128_19 hL, lp_128_20 hL, lp_128_21 hL, lp_128_22 hL, lp_128_31 hL, lp_128_32 hL, lp_128_33 hL, lp_128_34 hL, lp_128_35 hL, lp_128_36 hL, lp_128_37 hL, lp_128_38 hL, lp_128_39 hL, lp_128_40 hL, lp_128_41 hL, lp_128_42 hL, lp_128_43 hL, lp_128_44 hL, lp_128_46 hL, lp_128_47 hL, qadd, qmul, qcl, qle, qlt, qeq, qlt0, q0le, qeq0, qle0, q0lt, bI, bP, bV, bE, bL, if_true, if_false, eq_self, true_or, or_true, false_or, or_false, true_and, and_true, false_and, and_false, qz0, qz1, q00, q01, q10, q11, if_pos, if_neg, zb_0]
  unfold kk
  cases (K k).isSome <;> simp [zb]
theorem RM.isKN {h : mh} {K : Ks} (r : RM h K) (d : Nat) {x : Int32} (hx : x < 0 ∨ nI 24 ≤ x) : N_isKept (d + 3) 128 x h = some (some (vi (nI 0)), h) := by
  rw [e_N_isKept]
  by_cases h0 : x = nI 24
  · simp only [h0, bI, bP, bV, bE, bL, if_true, if_false, eq_self, true_or, or_true, false_or, or_false, true_and, and_true, false_and, and_false, qz0, qz1, q00, q01, q10, q11, if_pos, if_neg]
  · have e := r.isC d x
    have : ¬ (0 ≤ x.toInt ∧ x.toInt ≤ 24) := by
      intro z
      rcases hx with hx | hx
      · rw [Int32.lt_iff_toInt_lt] at hx
        have : (0 : Int32).toInt = 0 := by decide +kernel
        omega
      · rw [Int32.le_iff_toInt_le, nI_toInt (by omega)] at hx
        exact h0 (Int32.toInt_inj.mp (by rw [nI_toInt (by omega)]; omega))
    rw [KX_o K this] at e
    have hL := r.1
    simp (disch := omega) only [h0, e, lk_128 hL, lk_129 hL, lk_130 hL, lk_131 hL, lk_132 hL, lk_133 hL, lk_134 hL, lk_135 hL, lk_136 hL, lk_137 hL, lk_138 hL, lk_139 hL, lk_140 hL, lk_141 hL, lk_142 hL, lk_143 hL, lk_144 hL, lk_145 hL, lk_146 hL, lk_147 hL, lk_148 hL, lk_149 hL, lk_150 hL, lk_151 hL, lk_152 hL, lk_153 hL, lk_154 hL, ln_128 hL, ln_129 hL, ln_130 hL, ln_131 hL, ln_132 hL, ln_133 hL, ln_134 hL, ln_135 hL, ln_136 hL, ln_137 hL, ln_138 hL, ln_139 hL, ln_140 hL, ln_141 hL, ln_142 hL, ln_143 hL, ln_144 hL, ln_145 hL, ln_146 hL, ln_147 hL, ln_148 hL, ln_149 hL, ln_150 hL, ln_151 hL, ln_152 hL, ln_153 hL, ln_154 hL, lp_128_1 hL, lp_128_2 hL, lp_128_4 hL, lp_128_5 hL, lp_128_6 hL, lp_128_16 hL, lp_128_19 hL, lp_128_20 hL, lp_128_21 hL, lp_128_22 hL, lp_128_31 hL, lp_128_32 hL, lp_128_33 hL, lp_128_34 hL, lp_128_35 hL, lp_128_36 hL, lp_128_37 hL, lp_128_38 hL, lp_128_39 hL, lp_128_40 hL, lp_128_41 hL, lp_128_42 hL, lp_128_43 hL, lp_128_44 hL, lp_128_46 hL, lp_128_47 hL, bI, bP, bV, bE, bL, if_true, if_false, eq_self, true_or, or_true, false_or, or_false, true_and, and_true, false_and, and_false, qz0, qz1, q00, q01, q10, q11, if_pos, if_neg, zb, Option.isSome]
theorem RC.at {h : mh} {K : Ks} (r : RC h K) (d : Nat) (x : Int32) : ∃ a, C_clauseOf (d + 2) 3 x h = some (some (vr a), h) ∧ ((a = 0 ∧ KX K x = none) ∨ ∃ cs, KX K x = some cs ∧ a ≠ 0 ∧ WF cs ∧ CW h a cs) := by
  have hL := r.1
  rcases qin x 24 (by decide) with ⟨k, hk, rfl⟩ | ⟨h1, h2⟩
  · refine ⟨cp h k, ?_, ?_⟩
    · rw [e_C_clauseOf]
      unfold cp
      by_cases h0 : k = 24
      · subst h0
        simp (disch := omega) only [lk_3 hL, ln_3 hL, lp_3_0 hL, lp_3_1 hL, lp_3_2 hL, lp_3_3 hL, lp_3_4 hL, lp_3_5 hL, lp_3_6 hL, lp_3_7 hL, lp_3_8 hL, lp_3_9 hL, lp_3_10 hL, qadd, qmul, qcl, qle, qlt, qeq, qlt0, q0le, qeq0, qle0, q0lt, bI, bP, bV, bE, bL, if_true, if_false, eq_self, true_or, or_true, false_or, or_false, true_and, and_true, false_and, and_false, qz0, qz1, q00, q01, q10, q11, if_pos, if_neg]
      · simp (disch := omega) only [lk_3 hL, ln_3 hL, lp_3_0 hL, lp_3_1 hL, lp_3_2 hL, lp_3_3 hL, lp_3_4 hL, lp_3_5 hL, lp_3_6 hL, lp_3_7 hL, lp_3_8 hL, lp_3_9 hL, lp_3_10 hL, lk_104 hL, qadd, qmul, qcl, qle, qlt, qeq, qlt0, q0le, qeq0, qle0, q0lt, bI, bP, bV, bE, bL, if_true, if_false, eq_self, true_or, or_true, false_or, or_false, true_and, and_true, false_and, and_false, qz0, qz1, q00, q01, q10, q11, if_pos, if_neg, s_St_clause (SA_104 hL) d (show k < 24 by omega)]
    · rw [KX_n K hk]
      rcases r.2 k hk with ⟨a, b⟩ | ⟨cs, a, b, c⟩
      · exact Or.inl ⟨b, a⟩
      · exact Or.inr ⟨cs, a, c.ne, b, c⟩
  · refine ⟨0, ?_, Or.inl ⟨rfl, KX_o K h1⟩⟩
    rw [e_C_clauseOf]
    have : ¬ x = nI 24 := by
      rintro rfl
      exact h1 (by decide +kernel)
    have h3 : x < 0 ∨ nI 24 ≤ x := by
      rcases h2 with h2 | h2
      · exact Or.inl h2
      · refine Or.inr (Int32.le_trans ?_ h2)
        decide +kernel
    simp (disch := omega) only [this, lk_3 hL, ln_3 hL, lp_3_0 hL, lp_3_1 hL, lp_3_2 hL, lp_3_3 hL, lp_3_4 hL, lp_3_5 hL, lp_3_6 hL, lp_3_7 hL, lp_3_8 hL, lp_3_9 hL, lp_3_10 hL, lk_104 hL, bI, bP, bV, bE, bL, if_true, if_false, eq_self, true_or, or_true, false_or, or_false, true_and, and_true, false_and, and_false, qz0, qz1, q00, q01, q10, q11, if_pos, if_neg, s_St_clauseN (s := 104) d h3]
/-- the clause of a number below 24, of the class's state now -/
theorem RC.cl {h : mh} {K : Ks} (r : RC h K) (d : Nat) {k : Nat} (hk : k < 24) : ∃ a, St_clause (d + 1) 104 (nI k) h = some (some (vr a), h) ∧ a = mP h 105 k ∧ ((a = 0 ∧ K k = none) ∨ ∃ cs, K k = some cs ∧ a ≠ 0 ∧ WF cs ∧ CW h a cs) := by
  refine ⟨mP h 105 k, s_St_clause (SA_104 r.1) d hk, rfl, ?_⟩
  have := r.2 k (by omega)
  unfold cp at this
  rw [if_neg (by omega)] at this
  rcases this with ⟨a, b⟩ | ⟨cs, a, b, c⟩
  · exact Or.inl ⟨b, a⟩
  · exact Or.inr ⟨cs, a, c.ne, b, c⟩
theorem RC.kpe {h : mh} {K : Ks} (r : RC h K) {k : Nat} (hk : k < 24) : kp h 104 k = kk K k := by
  have := r.2 k (by omega)
  unfold cp at this
  rw [if_neg (by omega)] at this
  unfold kk
  rcases this with ⟨a, b⟩ | ⟨cs, a, b, c⟩
  · rw [a]
    exact kp_eq (s := 104).mp b
  · rw [a]
    have : ¬ mP h (104 + 1) k = 0 := c.ne
    rw [kp_eq] at this
    cases hb : kp h 104 k with
    | true => rfl
    | false => exact absurd hb this
theorem RC.numbers {h : mh} {K : Ks} (r : RC h K) (d : Nat) : St_numbers (d + 1) 104 h = some (some (vi (bs (kk K) 24)), h) := by
  rw [s_St_numbers (SA_104 r.1) d, bs_congr 24 (fun k hk => r.kpe hk)]
-- the class's Clause
section
variable {h : mh} {a : Nat} {cs : List Nat}
theorem CW.k (c : CW h a cs) : mK h a = 1 := c.1
theorem CW.k0 (c : CW h a cs) : mK h (mP h a 0) = 21 := (c.2.1.2.2 0 (by omega)).2.2
theorem CW.k1 (c : CW h a cs) : mK h (mP h a 1) = 21 := (c.2.1.2.2 1 (by omega)).2.2
theorem CW.k2 (c : CW h a cs) : mK h (mP h a 2) = 21 := (c.2.1.2.2 2 (by omega)).2.2
theorem CW.k3 (c : CW h a cs) : mK h (mP h a 3) = 21 := (c.2.1.2.2 3 (by omega)).2.2
theorem CW.k4 (c : CW h a cs) : mK h (mP h a 4) = 21 := (c.2.1.2.2 4 (by omega)).2.2
theorem CW.n0 (c : CW h a cs) : mN h (mP h a 0) = cs.length := c.2.2.1.1
theorem CW.n1 (c : CW h a cs) : mN h (mP h a 1) = cs.length := c.2.2.2.1.1
theorem CW.n2 (c : CW h a cs) : mN h (mP h a 2) = cs.length := c.2.2.2.2.1.1
theorem CW.n3 (c : CW h a cs) : mN h (mP h a 3) = nlit cs + 1 := c.2.2.2.2.2.1.1
theorem CW.n4 (c : CW h a cs) : mN h (mP h a 4) = 40 := c.2.2.2.2.2.2.1
theorem CW.i0 (c : CW h a cs) {i : Nat} (hi : i < cs.length) : mI h (mP h a 0) i = nI (cd cs i) := c.2.2.1.2 i hi
theorem CW.i1 (c : CW h a cs) {i : Nat} (hi : i < cs.length) : mI h (mP h a 1) i = nI (dep cs i) := c.2.2.2.1.2 i hi
theorem CW.i2 (c : CW h a cs) {i : Nat} (hi : i < cs.length) (hc : cd cs i < 100) : mI h (mP h a 2) i = nI (endp cs i) := c.2.2.2.2.1.2 i hi hc
theorem CW.i3 (c : CW h a cs) {i : Nat} (hi : i ≤ nlit cs) : mI h (mP h a 3) i = nI (beg cs i) := c.2.2.2.2.2.1.2 i hi
theorem CW.i4 (c : CW h a cs) {f : Nat} (hf : f < 40) : mI h (mP h a 4) f = nI (meas cs f cs.length) := c.2.2.2.2.2.2.2 f hf
theorem CW.size (c : CW h a cs) (w : WF cs) (d : Nat) : Cl_size (d + 1) a h = some (some (vi (nI (nlit cs))), h) := by
  rw [e_Cl_size]
  have := w.2.2.1
  simp (disch := omega) only [c.k, c.k3, c.n3, qsub, Nat.add_sub_cancel, bI, bP, bV, bE, bL, if_true, if_false, eq_self, true_or, or_true, false_or, or_false, true_and, and_true, false_and, and_false, qz0, qz1, q00, q01, q10, q11, if_pos, if_neg]
theorem CW.symbols (c : CW h a cs) (d : Nat) : Cl_symbols (d + 1) a h = some (some (vi (nI cs.length)), h) := by
  rw [e_Cl_symbols]
  simp (disch := omega) only [c.k, c.k0, c.n0, bI, bP, bV, bE, bL, if_true, if_false, eq_self, true_or, or_true, false_or, or_false, true_and, and_true, false_and, and_false, qz0, qz1, q00, q01, q10, q11, if_pos, if_neg]
theorem CW.has (c : CW h a cs) (w : WF cs) (d : Nat) {i : Nat} (hi : i < 2147483648) : Cl_has (d + 2) a (nI i) h = some (some (vi (zb (decide (i < nlit cs)))), h) := by
  rw [e_Cl_has]
  have := w.2.2.1
  by_cases h1 : i < nlit cs
  · simp (disch := omega) only [c.k, c.size w, qadd, qmul, qcl, qle, qlt, qeq, qlt0, q0le, qeq0, qle0, q0lt, bI, bP, bV, bE, bL, if_true, if_false, eq_self, true_or, or_true, false_or, or_false, true_and, and_true, false_and, and_false, qz0, qz1, q00, q01, q10, q11, if_pos, if_neg, decide_eq_true, zb]
  · simp (disch := omega) only [c.k, c.size w, qadd, qmul, qcl, qle, qlt, qeq, qlt0, q0le, qeq0, qle0, q0lt, bI, bP, bV, bE, bL, if_true, if_false, eq_self, true_or, or_true, false_or, or_false, true_and, and_true, false_and, and_false, qz0, qz1, q00, q01, q10, q11, if_pos, if_neg, decide_eq_false, zb]
theorem CW.hasN (c : CW h a cs) (d : Nat) {x : Int32} (hx : x < 0) : Cl_has (d + 2) a x h = some (some (vi (nI 0)), h) := by
  rw [e_Cl_has]
  simp only [hx, bI, bP, bV, bE, bL, if_true, if_false, eq_self, true_or, or_true, false_or, or_false, true_and, and_true, false_and, and_false, qz0, qz1, q00, q01, q10, q11, if_pos, if_neg]
theorem CW.start (c : CW h a cs) (w : WF cs) (d : Nat) {i : Nat} (hi : i < 2147483648) : Cl_start (d + 1) a (nI i) h = some (some (vi (nI (beg cs i))), h) := by
  rw [e_Cl_start]
  have := w.2.2.1
  have := w.2.1
  by_cases h1 : i ≤ nlit cs
  · simp (disch := omega) only [c.k, c.k0, c.k3, c.n0, c.n3, c.i3, qadd, qmul, qcl, qle, qlt, qeq, qlt0, q0le, qeq0, qle0, q0lt, bI, bP, bV, bE, bL, if_true, if_false, eq_self, true_or, or_true, false_or, or_false, true_and, and_true, false_and, and_false, qz0, qz1, q00, q01, q10, q11, if_pos, if_neg]
  · simp (disch := omega) only [c.k, c.k0, c.k3, c.n0, c.n3, beg_out, qadd, qmul, qcl, qle, qlt, qeq, qlt0, q0le, qeq0, qle0, q0lt, bI, bP, bV, bE, bL, if_true, if_false, eq_self, true_or, or_true, false_or, or_false, true_and, and_true, false_and, and_false, qz0, qz1, q00, q01, q10, q11, if_pos, if_neg]
theorem CW.code (c : CW h a cs) (w : WF cs) (d : Nat) {i : Nat} (hi : i < cs.length) : Cl_codeAt (d + 1) a (nI i) h = some (some (vi (nI (cd cs i))), h) := by
  rw [e_Cl_codeAt]
  have := w.2.1
  simp (disch := omega) only [c.k, c.k0, c.n0, c.i0, qadd, qmul, qcl, qle, qlt, qeq, qlt0, q0le, qeq0, qle0, q0lt, bI, bP, bV, bE, bL, if_true, if_false, eq_self, true_or, or_true, false_or, or_false, true_and, and_true, false_and, and_false, qz0, qz1, q00, q01, q10, q11, if_pos, if_neg]
theorem CW.codeN (c : CW h a cs) (w : WF cs) (d : Nat) {i : Nat} (hi : cs.length ≤ i) (hi2 : i < 2147483648) : Cl_codeAt (d + 1) a (nI i) h = some (some (vi (-1)), h) := by
  rw [e_Cl_codeAt]
  have := w.2.1
  simp (disch := omega) only [c.k, c.k0, c.n0, qadd, qmul, qcl, qle, qlt, qeq, qlt0, q0le, qeq0, qle0, q0lt, bI, bP, bV, bE, bL, if_true, if_false, eq_self, true_or, or_true, false_or, or_false, true_and, and_true, false_and, and_false, qz0, qz1, q00, q01, q10, q11, if_pos, if_neg]
theorem CW.depth (c : CW h a cs) (w : WF cs) (d : Nat) {i : Nat} (hi : i < cs.length) : Cl_depthAt (d + 1) a (nI i) h = some (some (vi (nI (dep cs i))), h) := by
  rw [e_Cl_depthAt]
  have := w.2.1
  simp (disch := omega) only [c.k, c.k1, c.n1, c.i1, qadd, qmul, qcl, qle, qlt, qeq, qlt0, q0le, qeq0, qle0, q0lt, bI, bP, bV, bE, bL, if_true, if_false, eq_self, true_or, or_true, false_or, or_false, true_and, and_true, false_and, and_false, qz0, qz1, q00, q01, q10, q11, if_pos, if_neg]
theorem CW.end (c : CW h a cs) (w : WF cs) (d : Nat) {i : Nat} (hi : i < cs.length) (hc : cd cs i < 100) : Cl_endOfTerm (d + 1) a (nI i) h = some (some (vi (nI (endp cs i))), h) := by
  rw [e_Cl_endOfTerm]
  have := w.2.1
  simp (disch := omega) only [c.k, c.k2, c.n2, c.i2, qadd, qmul, qcl, qle, qlt, qeq, qlt0, q0le, qeq0, qle0, q0lt, bI, bP, bV, bE, bL, if_true, if_false, eq_self, true_or, or_true, false_or, or_false, true_and, and_true, false_and, and_false, qz0, qz1, q00, q01, q10, q11, if_pos, if_neg]
theorem CW.endN (c : CW h a cs) (w : WF cs) (d : Nat) {i : Nat} (hi : cs.length ≤ i) (hi2 : i < 2147483648) : Cl_endOfTerm (d + 1) a (nI i) h = some (some (vi (nI cs.length)), h) := by
  rw [e_Cl_endOfTerm]
  have := w.2.1
  simp (disch := omega) only [c.k, c.k0, c.n0, c.k2, c.n2, qadd, qmul, qcl, qle, qlt, qeq, qlt0, q0le, qeq0, qle0, q0lt, bI, bP, bV, bE, bL, if_true, if_false, eq_self, true_or, or_true, false_or, or_false, true_and, and_true, false_and, and_false, qz0, qz1, q00, q01, q10, q11, if_pos, if_neg]
end
