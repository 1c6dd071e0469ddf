/-! ===== the reference reads its clauses ===== -/
theorem qopen {n a : Nat} (h : 1 ≤ n + a) : nI n + (nI a - nI 1) = nI (n + a - 1) := by
  rw [Int32.sub_eq_add_neg, ← Int32.add_assoc, ← Int32.sub_eq_add_neg, qadd, qsub h]
theorem MC.at0 {h : mh} {k : Nat} {cs : List Nat} (m : MC h 129 0 k cs) : mI h 129 (32 * k) = nI 1 ∧ mI h 129 (32 * k + 1) = nI cs.length ∧ ∀ i, i < cs.length → mI h 129 (32 * k + 2 + i) = nI (cd cs i) := by
  obtain ⟨h1, h2, h3⟩ := m
  rw [Nat.zero_add] at h1 h2
  refine ⟨h1, h2, fun i hi => ?_⟩
  have := h3 i hi
  rw [Nat.zero_add] at this
  exact this
theorem drop_cons {cs l : List Nat} {i c : Nat} (h : cs.drop i = c :: l) : i < cs.length ∧ cd cs i = c ∧ cs.drop (i + 1) = l := by
  have h1 : i < cs.length := by
    rcases Nat.lt_or_ge i cs.length with z | z
    · exact z
    · rw [List.drop_eq_nil_of_le z] at h
      cases h
  rw [List.drop_eq_getElem_cons h1] at h
  injection h with h2 h3
  refine ⟨h1, ?_, h3⟩
  unfold cd
  rw [List.getD_eq_getElem?_getD, List.getElem?_eq_getElem h1, h2]
  rfl
theorem drop_nil {cs : List Nat} {i : Nat} (h : cs.drop i = []) : cs.length ≤ i := by
  rcases Nat.lt_or_ge i cs.length with z | z
  · rw [List.drop_eq_getElem_cons z] at h
    cases h
  · exact z
theorem drop_at {cs : List Nat} {i : Nat} (h : i < cs.length) : cs.drop i = cd cs i :: cs.drop (i + 1) := by
  rw [List.drop_eq_getElem_cons h]
  unfold cd
  rw [List.getD_eq_getElem?_getD, List.getElem?_eq_getElem h]
  rfl
theorem wf_cd : ∀ (l : List Nat) (n : Nat), wf l n = true → ∀ c ∈ l, c < 108
  | [], _, _, c, hc => by cases hc
  | x :: l, 0, h, c, hc => by
    have h : ((Nat.ble 100 x && Nat.ble x 107) && wf l (ar x)) = true := h
    rw [Bool.and_eq_true, Bool.and_eq_true] at h
    rcases List.mem_cons.mp hc with rfl | hc
    · have := Nat.le_of_ble_eq_true h.1.2
      omega
    · exact wf_cd l _ h.2 c hc
  | x :: l, n + 1, h, c, hc => by
    have h : (tcode x && wf l (n + ar x)) = true := h
    rw [Bool.and_eq_true] at h
    rcases List.mem_cons.mp hc with rfl | hc
    · have := tcode_lt h.1
      omega
    · exact wf_cd l _ h.2 c hc
theorem WF.lt {cs : List Nat} (w : WF cs) (i : Nat) : cd cs i < 108 := by
  unfold cd
  rw [List.getD_eq_getElem?_getD]
  cases hi : cs[i]? with
  | none => decide
  | some c => exact wf_cd cs 0 w.1 c (List.mem_of_getElem? hi)
theorem ar_le (c : Nat) : ar c ≤ 2 := by
  unfold ar
  repeat' split
  all_goals omega
theorem s_partsOf (d : Nat) {c : Nat} (hc : c < 1000) (h : mh) : N_partsOf (d + 1) (nI c) h = some (some (vi (nI (ar c))), h) := by
  rw [e_N_partsOf]
  unfold ar
  by_cases h1 : c < 100
  · simp (disch := omega) only [h1, qadd, qmul, qcl, qle, qlt, qeq, qlt0, q0le, qeq0, qle0, q0lt, bI, bP, bV, bE, bL, if_true, if_false, eq_self, true_or, or_true, false_or, or_false, true_and, and_true, false_and, and_false, qz0, qz1, q00, q01, q10, q11, if_pos, if_neg]
    by_cases h2 : c = 2 <;> by_cases h3 : c = 0 <;> by_cases h4 : c = 1 <;> simp [h2, h3, h4]
  · simp (disch := omega) only [h1, qsub, qdiv, qadd, qmul, qcl, qle, qlt, qeq, qlt0, q0le, qeq0, qle0, q0lt, bI, bP, bV, bE, bL, if_true, if_false, eq_self, true_or, or_true, false_or, or_false, true_and, and_true, false_and, and_false, qz0, qz1, q00, q01, q10, q11, if_pos, if_neg]
    by_cases h2 : (c - 100) / 2 = 1 <;> by_cases h3 : (c - 100) / 2 = 2 <;> simp [h2, h3]
/-- enough symbols for n terms -/
def tok : List Nat → Nat → Bool
  | [], n => Nat.beq n 0
  | _ :: _, 0 => true
  | c :: l, n + 1 => tok l (n + ar c)
theorem wf_tok : ∀ (l : List Nat) (n : Nat), wf l n = true → tok l n = true
  | [], _, h => h
  | _ :: _, 0, _ => rfl
  | c :: l, n + 1, h => by
    have h : (tcode c && wf l (n + ar c)) = true := h
    rw [Bool.and_eq_true] at h
    exact wf_tok l _ h.2
theorem tok_le : ∀ (l : List Nat) (n : Nat), tok l n = true → n ≤ l.length
  | [], n, h => Nat.le_of_eq (Nat.eq_of_beq_eq_true h)
  | _ :: _, 0, _ => Nat.zero_le _
  | c :: l, n + 1, h => by
    have := tok_le l (n + ar c) h
    show n + 1 ≤ l.length + 1
    omega
theorem tok_mo : ∀ (l : List Nat) (n m : Nat), tok l n = true → m ≤ n → tok l m = true
  | [], n, m, h, hm => by
    have : n = 0 := Nat.eq_of_beq_eq_true h
    have : m = 0 := by omega
    subst this
    rfl
  | _ :: _, _, 0, _, _ => rfl
  | c :: l, 0, m + 1, _, hm => absurd hm (Nat.not_succ_le_zero _)
  | c :: l, n + 1, m + 1, h, hm => tok_mo l (n + ar c) (m + ar c) h (by omega)
/-- at every place of a clause some terms are due -/
theorem wf_drop : ∀ (l : List Nat) (n i : Nat), wf l n = true → i ≤ l.length → ∃ k, wf (l.drop i) k = true
  | l, n, 0, h, _ => ⟨n, h⟩
  | [], _, i + 1, _, hi => absurd hi (Nat.not_succ_le_zero _)
  | c :: l, 0, i + 1, h, hi => by
    have h : ((Nat.ble 100 c && Nat.ble c 107) && wf l (ar c)) = true := h
    rw [Bool.and_eq_true] at h
    exact wf_drop l _ i h.2 (Nat.le_of_succ_le_succ hi)
  | c :: l, n + 1, i + 1, h, hi => by
    have h : (tcode c && wf l (n + ar c)) = true := h
    rw [Bool.and_eq_true] at h
    exact wf_drop l _ i h.2 (Nat.le_of_succ_le_succ hi)
theorem wf_tok1 {l : List Nat} {n : Nat} (h : wf l n = true) (hl : l ≠ []) : tok l 1 = true := by
  cases n with
  | zero =>
    cases l with
    | nil => exact absurd rfl hl
    | cons c l =>
      have h : ((Nat.ble 100 c && Nat.ble c 107) && wf l (ar c)) = true := h
      rw [Bool.and_eq_true] at h
      have := wf_tok l _ h.2
      show tok l (0 + ar c) = true
      rw [Nat.zero_add]
      exact this
  | succ n => exact tok_mo l (n + 1) 1 (wf_tok l _ h) (by omega)
theorem WF.tok1 {cs : List Nat} (w : WF cs) {i : Nat} (hi : i < cs.length) : tok (cs.drop i) 1 = true := by
  obtain ⟨k, hk⟩ := wf_drop cs 0 i w.1 (Nat.le_of_lt hi)
  refine wf_tok1 hk (fun e => ?_)
  have := drop_nil e
  omega
theorem endp_le {cs : List Nat} {i : Nat} (hi : i < cs.length) : endp cs i ≤ cs.length := by
  unfold endp
  have := tlen_le (cs.drop i) 1
  rw [List.length_drop] at this
  omega
theorem endp_gt {cs : List Nat} {i : Nat} (hi : i < cs.length) : i < endp cs i := by
  unfold endp
  rw [drop_at hi]
  show i < i + (tlen _ _ + 1)
  omega
theorem s_pastOf_4 {h : mh} (hL : Lay h) (d : Nat) {k : Nat} (hk : k ≤ 24) {cs : List Nat} (w : WF cs) (m : MC h 129 0 k cs) (o : Option mv) : ∀ (l : List Nat) (i n : Nat), cs.drop i = l → tok l n = true → i ≤ cs.length → N_pastOf_4 (d + 1) 128 (nI k) o (nI n) (nI i) h = some (some (vi (nI (i + tlen l n))), h) := by
  obtain ⟨m1, m2, m3⟩ := m.at0
  have hlen := w.2.1
  intro l
  induction l with
  | nil =>
    intro i n hi ht hl
    have : n = 0 := Nat.eq_of_beq_eq_true ht
    subst this
    rw [e_N_pastOf_4]
    simp (disch := omega) only [qadd, qmul, qcl, qle, qlt, qeq, qlt0, q0le, qeq0, qle0, q0lt, bI, bP, bV, bE, bL, if_true, if_false, eq_self, true_or, or_true, false_or, or_false, true_and, and_true, false_and, and_false, qz0, qz1, q00, q01, q10, q11, if_pos, if_neg, tlen_0, Nat.add_zero]
  | cons c l ih =>
    intro i n hi ht hl
    obtain ⟨a1, a2, a3⟩ := drop_cons hi
    have hc : c < 108 := by rw [← a2]; exact w.lt i
    have := ar_le c
    have hll : l.length ≤ 30 := by
      rw [← a3, List.length_drop]
      omega
    cases n with
    | zero =>
      rw [e_N_pastOf_4]
      simp (disch := omega) only [qadd, qmul, qcl, qle, qlt, qeq, qlt0, q0le, qeq0, qle0, q0lt, bI, bP, bV, bE, bL, if_true, if_false, eq_self, true_or, or_true, false_or, or_false, true_and, and_true, false_and, and_false, qz0, qz1, q00, q01, q10, q11, if_pos, if_neg, tlen_0, Nat.add_zero]
    | succ n =>
      have hn := tok_le l (n + ar c) ht
      rw [e_N_pastOf_4]
      simp (disch := omega) only [s_codeAt hL, m3 i a1, a2, s_partsOf, qopen, lk_128 hL, lk_129 hL, lk_130 hL, lk_131 hL, lk_132 hL, lk_133 hL, lk_134 hL, lk_135 hL, lk_136 hL, lk_137 hL, lk_138 hL, lk_139 hL, lk_140 hL, lk_141 hL, lk_142 hL, lk_143 hL, lk_144 hL, lk_145 hL, lk_146 hL, lk_147 hL, lk_148 hL, lk_149 hL, lk_150 hL, lk_151 hL, lk_152 hL, lk_153 hL, lk_154 hL, ln_128 hL, ln_129 hL, ln_130 hL, ln_131 hL, ln_132 hL, ln_133 hL, ln_134 hL, ln_135 hL, ln_136 hL, ln_137 hL, ln_138 hL, ln_139 hL, ln_140 hL, ln_141 hL, ln_142 hL, ln_143 hL, ln_144 hL, ln_145 hL, ln_146 hL, ln_147 hL, ln_148 hL, ln_149 hL, ln_150 hL, ln_151 hL, ln_152 hL, ln_153 hL, ln_154 hL, lp_128_1 hL, lp_128_2 hL, lp_128_4 hL, lp_128_5 hL, lp_128_6 hL, lp_128_16 hL, lp_128_19 hL, lp_128_20 hL, lp_128_21 hL, lp_128_22 hL, lp_128_31 hL, lp_128_32 hL, lp_128_33 hL, lp_128_34 hL, lp_128_35 hL, lp_128_36 hL, lp_128_37 hL, lp_128_38 hL, lp_128_39 hL, lp_128_40 hL, lp_128_41 hL, lp_128_42 hL, lp_128_43 hL, lp_128_44 hL, lp_128_46 hL, lp_128_47 hL, qadd, qmul, qcl, qle, qlt, qeq, qlt0, q0le, qeq0, qle0, q0lt, bI, bP, bV, bE, bL, if_true, if_false, eq_self, true_or, or_true, false_or, or_false, true_and, and_true, false_and, and_false, qz0, qz1, q00, q01, q10, q11, if_pos, if_neg, Nat.add_eq_zero_iff, Nat.succ_ne_zero]
      rw [show n + 1 + ar c - 1 = n + ar c by omega]
      rw [ih (i + 1) (n + ar c) a3 ht (by omega)]
      rw [show i + 1 + tlen l (n + ar c) = i + tlen (c :: l) (n + 1) by show _ = i + (tlen l (n + ar c) + 1); omega]
theorem s_pastOf {h : mh} (hL : Lay h) (d : Nat) {k : Nat} (hk : k ≤ 24) {cs : List Nat} (w : WF cs) (m : MC h 129 0 k cs) {i : Nat} (hi : i < cs.length) : N_pastOf (d + 2) 128 (nI k) (nI i) h = some (some (vi (nI (endp cs i))), h) := by
  rw [e_N_pastOf, s_pastOf_4 hL d hk w m _ (cs.drop i) i 1 rfl (w.tok1 hi) (Nat.le_of_lt hi)]
  rfl
theorem nlit_cons (c : Nat) (l : List Nat) : nlit (c :: l) = if c < 100 then nlit l else nlit l + 1 := rfl
theorem nlit_le : ∀ l : List Nat, nlit l ≤ l.length
  | [] => Nat.le_refl _
  | c :: l => by
    rw [nlit_cons]
    have := nlit_le l
    show _ ≤ l.length + 1
    split <;> omega
theorem s_literalMany_4 {h : mh} (hL : Lay h) (d : Nat) {k : Nat} (hk : k ≤ 24) {cs : List Nat} (w : WF cs) (m : MC h 129 0 k cs) : ∀ (l : List Nat) (i n : Nat), cs.drop i = l → n ≤ i → i ≤ cs.length → N_literalMany_4 (d + 1) 128 (nI k) (nI n) (nI i) h = some (some (vi (nI (n + nlit l))), h) := by
  obtain ⟨m1, m2, m3⟩ := m.at0
  have hlen := w.2.1
  intro l
  induction l with
  | nil =>
    intro i n hi hn hl
    have := drop_nil hi
    rw [e_N_literalMany_4]
    simp (disch := omega) only [s_longOf hL, m2, lk_128 hL, lk_129 hL, lk_130 hL, lk_131 hL, lk_132 hL, lk_133 hL, lk_134 hL, lk_135 hL, lk_136 hL, lk_137 hL, lk_138 hL, lk_139 hL, lk_140 hL, lk_141 hL, lk_142 hL, lk_143 hL, lk_144 hL, lk_145 hL, lk_146 hL, lk_147 hL, lk_148 hL, lk_149 hL, lk_150 hL, lk_151 hL, lk_152 hL, lk_153 hL, lk_154 hL, ln_128 hL, ln_129 hL, ln_130 hL, ln_131 hL, ln_132 hL, ln_133 hL, ln_134 hL, ln_135 hL, ln_136 hL, ln_137 hL, ln_138 hL, ln_139 hL, ln_140 hL, ln_141 hL, ln_142 hL, ln_143 hL, ln_144 hL, ln_145 hL, ln_146 hL, ln_147 hL, ln_148 hL, ln_149 hL, ln_150 hL, ln_151 hL, ln_152 hL, ln_153 hL, ln_154 hL, lp_128_1 hL, lp_128_2 hL, lp_128_4 hL, lp_128_5 hL, lp_128_6 hL, lp_128_16 hL, lp_128_19 hL, lp_128_20 hL, lp_128_21 hL, lp_128_22 hL, lp_128_31 hL, lp_128_32 hL, lp_128_33 hL, lp_128_34 hL, lp_128_35 hL, lp_128_36 hL, lp_128_37 hL, lp_128_38 hL, lp_128_39 hL, lp_128_40 hL, lp_128_41 hL, lp_128_42 hL, lp_128_43 hL, lp_128_44 hL, lp_128_46 hL, lp_128_47 hL, qadd, qmul, qcl, qle, qlt, qeq, qlt0, q0le, qeq0, qle0, q0lt, bI, bP, bV, bE, bL, if_true, if_false, eq_self, true_or, or_true, false_or, or_false, true_and, and_true, false_and, and_false, qz0, qz1, q00, q01, q10, q11, if_pos, if_neg]
    rfl
  | cons c l ih =>
    intro i n hi hn hl
    obtain ⟨a1, a2, a3⟩ := drop_cons hi
    have hc : c < 108 := by rw [← a2]; exact w.lt i
    rw [e_N_literalMany_4]
    rw [nlit_cons]
    by_cases h1 : c < 100
    · simp (disch := omega) only [s_longOf hL, m2, s_codeAt hL, m3 i a1, a2, lk_128 hL, lk_129 hL, lk_130 hL, lk_131 hL, lk_132 hL, lk_133 hL, lk_134 hL, lk_135 hL, lk_136 hL, lk_137 hL, lk_138 hL, lk_139 hL, lk_140 hL, lk_141 hL, lk_142 hL, lk_143 hL, lk_144 hL, lk_145 hL, lk_146 hL, lk_147 hL, lk_148 hL, lk_149 hL, lk_150 hL, lk_151 hL, lk_152 hL, lk_153 hL, lk_154 hL, ln_128 hL, ln_129 hL, ln_130 hL, ln_131 hL, ln_132 hL, ln_133 hL, ln_134 hL, ln_135 hL, ln_136 hL, ln_137 hL, ln_138 hL, ln_139 hL, ln_140 hL, ln_141 hL, ln_142 hL, ln_143 hL, ln_144 hL, ln_145 hL, ln_146 hL, ln_147 hL, ln_148 hL, ln_149 hL, ln_150 hL, ln_151 hL, ln_152 hL, ln_153 hL, ln_154 hL, lp_128_1 hL, lp_128_2 hL, lp_128_4 hL, lp_128_5 hL, lp_128_6 hL, lp_128_16 hL, lp_128_19 hL, lp_128_20 hL, lp_128_21 hL, lp_128_22 hL, lp_128_31 hL, lp_128_32 hL, lp_128_33 hL, lp_128_34 hL, lp_128_35 hL, lp_128_36 hL, lp_128_37 hL, lp_128_38 hL, lp_128_39 hL, lp_128_40 hL, lp_128_41 hL, lp_128_42 hL, lp_128_43 hL, lp_128_44 hL, lp_128_46 hL, lp_128_47 hL, qadd, qmul, qcl, qle, qlt, qeq, qlt0, q0le, qeq0, qle0, q0lt, bI, bP, bV, bE, bL, if_true, if_false, eq_self, true_or, or_true, false_or, or_false, true_and, and_true, false_and, and_false, qz0, qz1, q00, q01, q10, q11, if_pos, if_neg]
      rw [ih (i + 1) (n + 0) a3 (by omega) (by omega)]
      simp
    · simp (disch := omega) only [s_longOf hL, m2, s_codeAt hL, m3 i a1, a2, lk_128 hL, lk_129 hL, lk_130 hL, lk_131 hL, lk_132 hL, lk_133 hL, lk_134 hL, lk_135 hL, lk_136 hL, lk_137 hL, lk_138 hL, lk_139 hL, lk_140 hL, lk_141 hL, lk_142 hL, lk_143 hL, lk_144 hL, lk_145 hL, lk_146 hL, lk_147 hL, lk_148 hL, lk_149 hL, lk_150 hL, lk_151 hL, lk_152 hL, lk_153 hL, lk_154 hL, ln_128 hL, ln_129 hL, ln_130 hL, ln_131 hL, ln_132 hL, ln_133 hL, ln_134 hL, ln_135 hL, ln_136 hL, ln_137 hL, ln_138 hL, ln_139 hL, ln_140 hL, ln_141 hL, ln_142 hL, ln_143 hL, ln_144 hL, ln_145 hL, ln_146 hL, ln_147 hL, ln_148 hL, ln_149 hL, ln_150 hL, ln_151 hL, ln_152 hL, ln_153 hL, ln_154 hL, lp_128_1 hL, lp_128_2 hL, lp_128_4 hL, lp_128_5 hL, lp_128_6 hL, lp_128_16 hL, lp_128_19 hL, lp_128_20 hL, lp_128_21 hL, lp_128_22 hL, lp_128_31 hL, lp_128_32 hL, lp_128_33 hL, lp_128_34 hL, lp_128_35 hL, lp_128_36 hL, lp_128_37 hL, lp_128_38 hL, lp_128_39 hL, lp_128_40 hL, lp_128_41 hL, lp_128_42 hL, lp_128_43 hL, lp_128_44 hL, lp_128_46 hL, lp_128_47 hL, qadd, qmul, qcl, qle, qlt, qeq, qlt0, q0le, qeq0, qle0, q0lt, bI, bP, bV, bE, bL, if_true, if_false, eq_self, true_or, or_true, false_or, or_false, true_and, and_true, false_and, and_false, qz0, qz1, q00, q01, q10, q11, if_pos, if_neg]
      rw [ih (i + 1) (n + 1) a3 (by omega) (by omega)]
      rw [show n + 1 + nlit l = n + (nlit l + 1) by omega]
theorem s_literalMany {h : mh} (hL : Lay h) (d : Nat) {k : Nat} (hk : k ≤ 24) {cs : List Nat} (w : WF cs) (m : MC h 129 0 k cs) : N_literalMany (d + 2) 128 (nI k) h = some (some (vi (nI (nlit cs))), h) := by
  rw [e_N_literalMany, s_literalMany_4 hL d hk w m cs 0 0 rfl (Nat.le_refl _) (Nat.zero_le _), Nat.zero_add]
theorem s_beginOf_4 {h : mh} (hL : Lay h) (d : Nat) {k : Nat} (hk : k ≤ 24) {cs : List Nat} (w : WF cs) (m : MC h 129 0 k cs) (j : Nat) (hj : j < 1000) : ∀ (l : List Nat) (i n : Nat), cs.drop i = l → n ≤ i → n ≤ j → i ≤ cs.length → N_beginOf_4 (d + 1) 128 (nI k) (nI j) (nI n) (nI i) h = some (some (vi (nI (i + beg l (j - n)))), h) := by
  obtain ⟨m1, m2, m3⟩ := m.at0
  have hlen := w.2.1
  intro l
  induction l with
  | nil =>
    intro i n hi hn hnj hl
    have := drop_nil hi
    rw [e_N_beginOf_4]
    simp (disch := omega) only [s_longOf hL, m2, lk_128 hL, lk_129 hL, lk_130 hL, lk_131 hL, lk_132 hL, lk_133 hL, lk_134 hL, lk_135 hL, lk_136 hL, lk_137 hL, lk_138 hL, lk_139 hL, lk_140 hL, lk_141 hL, lk_142 hL, lk_143 hL, lk_144 hL, lk_145 hL, lk_146 hL, lk_147 hL, lk_148 hL, lk_149 hL, lk_150 hL, lk_151 hL, lk_152 hL, lk_153 hL, lk_154 hL, ln_128 hL, ln_129 hL, ln_130 hL, ln_131 hL, ln_132 hL, ln_133 hL, ln_134 hL, ln_135 hL, ln_136 hL, ln_137 hL, ln_138 hL, ln_139 hL, ln_140 hL, ln_141 hL, ln_142 hL, ln_143 hL, ln_144 hL, ln_145 hL, ln_146 hL, ln_147 hL, ln_148 hL, ln_149 hL, ln_150 hL, ln_151 hL, ln_152 hL, ln_153 hL, ln_154 hL, lp_128_1 hL, lp_128_2 hL, lp_128_4 hL, lp_128_5 hL, lp_128_6 hL, lp_128_16 hL, lp_128_19 hL, lp_128_20 hL, lp_128_21 hL, lp_128_22 hL, lp_128_31 hL, lp_128_32 hL, lp_128_33 hL, lp_128_34 hL, lp_128_35 hL, lp_128_36 hL, lp_128_37 hL, lp_128_38 hL, lp_128_39 hL, lp_128_40 hL, lp_128_41 hL, lp_128_42 hL, lp_128_43 hL, lp_128_44 hL, lp_128_46 hL, lp_128_47 hL, qadd, qmul, qcl, qle, qlt, qeq, qlt0, q0le, qeq0, qle0, q0lt, bI, bP, bV, bE, bL, if_true, if_false, eq_self, true_or, or_true, false_or, or_false, true_and, and_true, false_and, and_false, qz0, qz1, q00, q01, q10, q11, if_pos, if_neg]
    rw [show cs.length = i + beg [] (j - n) by show _ = i + 0; omega]
  | cons c l ih =>
    intro i n hi hn hnj hl
    obtain ⟨a1, a2, a3⟩ := drop_cons hi
    have hc : c < 108 := by rw [← a2]; exact w.lt i
    rw [e_N_beginOf_4]
    by_cases h1 : c < 100
    · simp (disch := omega) only [s_longOf hL, m2, s_codeAt hL, m3 i a1, a2, lk_128 hL, lk_129 hL, lk_130 hL, lk_131 hL, lk_132 hL, lk_133 hL, lk_134 hL, lk_135 hL, lk_136 hL, lk_137 hL, lk_138 hL, lk_139 hL, lk_140 hL, lk_141 hL, lk_142 hL, lk_143 hL, lk_144 hL, lk_145 hL, lk_146 hL, lk_147 hL, lk_148 hL, lk_149 hL, lk_150 hL, lk_151 hL, lk_152 hL, lk_153 hL, lk_154 hL, ln_128 hL, ln_129 hL, ln_130 hL, ln_131 hL, ln_132 hL, ln_133 hL, ln_134 hL, ln_135 hL, ln_136 hL, ln_137 hL, ln_138 hL, ln_139 hL, ln_140 hL, ln_141 hL, ln_142 hL, ln_143 hL, ln_144 hL, ln_145 hL, ln_146 hL, ln_147 hL, ln_148 hL, ln_149 hL, ln_150 hL, ln_151 hL, ln_152 hL, ln_153 hL, ln_154 hL, lp_128_1 hL, lp_128_2 hL, lp_128_4 hL, lp_128_5 hL, lp_128_6 hL, lp_128_16 hL, lp_128_19 hL, lp_128_20 hL, lp_128_21 hL, lp_128_22 hL, lp_128_31 hL, lp_128_32 hL, lp_128_33 hL, lp_128_34 hL, lp_128_35 hL, lp_128_36 hL, lp_128_37 hL, lp_128_38 hL, lp_128_39 hL, lp_128_40 hL, lp_128_41 hL, lp_128_42 hL, lp_128_43 hL, lp_128_44 hL, lp_128_46 hL, lp_128_47 hL, qadd, qmul, qcl, qle, qlt, qeq, qlt0, q0le, qeq0, qle0, q0lt, bI, bP, bV, bE, bL, if_true, if_false, eq_self, true_or, or_true, false_or, or_false, true_and, and_true, false_and, and_false, qz0, qz1, q00, q01, q10, q11, if_pos, if_neg]
      rw [ih (i + 1) n a3 (by omega) hnj (by omega)]
      have e : beg (c :: l) (j - n) = beg l (j - n) + 1 := by
        cases j - n with
        | zero => exact if_pos h1
        | succ z => exact if_pos h1
      rw [e, show i + 1 + beg l (j - n) = i + (beg l (j - n) + 1) by omega]
    · by_cases h2 : n = j
      · simp (disch := omega) only [s_longOf hL, m2, s_codeAt hL, m3 i a1, a2, lk_128 hL, lk_129 hL, lk_130 hL, lk_131 hL, lk_132 hL, lk_133 hL, lk_134 hL, lk_135 hL, lk_136 hL, lk_137 hL, lk_138 hL, lk_139 hL, lk_140 hL, lk_141 hL, lk_142 hL, lk_143 hL, lk_144 hL, lk_145 hL, lk_146 hL, lk_147 hL, lk_148 hL, lk_149 hL, lk_150 hL, lk_151 hL, lk_152 hL, lk_153 hL, lk_154 hL, ln_128 hL, ln_129 hL, ln_130 hL, ln_131 hL, ln_132 hL, ln_133 hL, ln_134 hL, ln_135 hL, ln_136 hL, ln_137 hL, ln_138 hL, ln_139 hL, ln_140 hL, ln_141 hL, ln_142 hL, ln_143 hL, ln_144 hL, ln_145 hL, ln_146 hL, ln_147 hL, ln_148 hL, ln_149 hL, ln_150 hL, ln_151 hL, ln_152 hL, ln_153 hL, ln_154 hL, lp_128_1 hL, lp_128_2 hL, lp_128_4 hL, lp_128_5 hL, lp_128_6 hL, lp_128_16 hL, lp_128_19 hL, lp_128_20 hL, lp_128_21 hL, lp_128_22 hL, lp_128_31 hL, lp_128_32 hL, lp_128_33 hL, lp_128_34 hL, lp_128_35 hL, lp_128_36 hL, lp_128_37 hL, lp_128_38 hL, lp_128_39 hL, lp_128_40 hL, lp_128_41 hL, lp_128_42 hL, lp_128_43 hL, lp_128_44 hL, lp_128_46 hL, lp_128_47 hL, qadd, qmul, qcl, qle, qlt, qeq, qlt0, q0le, qeq0, qle0, q0lt, bI, bP, bV, bE, bL, if_true, if_false, eq_self, true_or, or_true, false_or, or_false, true_and, and_true, false_and, and_false, qz0, qz1, q00, q01, q10, q11, if_pos, if_neg]
        have e : beg (c :: l) (j - n) = 0 := by
          rw [show j - n = 0 by omega]
          exact if_neg h1
        rw [e]
        rfl
      · simp (disch := omega) only [s_longOf hL, m2, s_codeAt hL, m3 i a1, a2, lk_128 hL, lk_129 hL, lk_130 hL, lk_131 hL, lk_132 hL, lk_133 hL, lk_134 hL, lk_135 hL, lk_136 hL, lk_137 hL, lk_138 hL, lk_139 hL, lk_140 hL, lk_141 hL, lk_142 hL, lk_143 hL, lk_144 hL, lk_145 hL, lk_146 hL, lk_147 hL, lk_148 hL, lk_149 hL, lk_150 hL, lk_151 hL, lk_152 hL, lk_153 hL, lk_154 hL, ln_128 hL, ln_129 hL, ln_130 hL, ln_131 hL, ln_132 hL, ln_133 hL, ln_134 hL, ln_135 hL, ln_136 hL, ln_137 hL, ln_138 hL, ln_139 hL, ln_140 hL, ln_141 hL, ln_142 hL, ln_143 hL, ln_144 hL, ln_145 hL, ln_146 hL, ln_147 hL, ln_148 hL, ln_149 hL, ln_150 hL, ln_151 hL, ln_152 hL, ln_153 hL, ln_154 hL, lp_128_1 hL, lp_128_2 hL, lp_128_4 hL, lp_128_5 hL, lp_128_6 hL, lp_128_16 hL, lp_128_19 hL, lp_128_20 hL, lp_128_21 hL, lp_128_22 hL, lp_128_31 hL, lp_128_32 hL, lp_128_33 hL, lp_128_34 hL, lp_128_35 hL, lp_128_36 hL, lp_128_37 hL, lp_128_38 hL, lp_128_39 hL, lp_128_40 hL, lp_128_41 hL, lp_128_42 hL, lp_128_43 hL, lp_128_44 hL, lp_128_46 hL, lp_128_47 hL, qadd, qmul, qcl, qle, qlt, qeq, qlt0, q0le, qeq0, qle0, q0lt, bI, bP, bV, bE, bL, if_true, if_false, eq_self, true_or, or_true, false_or, or_false, true_and, and_true, false_and, and_false, qz0, qz1, q00, q01, q10, q11, if_pos, if_neg]
        rw [ih (i + 1) (n + 1) a3 (by omega) (by omega) (by omega)]
        have e : beg (c :: l) (j - n) = beg l (j - (n + 1)) + 1 := by
          rw [show j - n = (j - (n + 1)) + 1 by omega]
          exact if_neg h1
        rw [e, show i + 1 + beg l (j - (n + 1)) = i + (beg l (j - (n + 1)) + 1) by omega]
theorem s_beginOf {h : mh} (hL : Lay h) (d : Nat) {k : Nat} (hk : k ≤ 24) {cs : List Nat} (w : WF cs) (m : MC h 129 0 k cs) {j : Nat} (hj : j < 1000) : N_beginOf (d + 2) 128 (nI k) (nI j) h = some (some (vi (nI (beg cs j))), h) := by
  rw [e_N_beginOf, s_beginOf_4 hL d hk w m j hj cs 0 0 rfl (Nat.le_refl _) (Nat.zero_le _) (Nat.zero_le _), Nat.zero_add, Nat.sub_zero]
