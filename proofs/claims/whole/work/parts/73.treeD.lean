/-! ===== the reference lays the tree ===== -/
def nd (N : List Nd) (i : Nat) : Nd := N.getD i (0, 0, 0)
theorem nd_l {A B : List Nd} {i : Nat} (h : i < A.length) : nd (A ++ B) i = nd A i := by
  unfold nd
  rw [List.getD_eq_getElem?_getD, List.getD_eq_getElem?_getD, List.getElem?_append_left h]
theorem nd_r {A B : List Nd} {i : Nat} : nd (A ++ B) (A.length + i) = nd B i := by
  unfold nd
  rw [List.getD_eq_getElem?_getD, List.getD_eq_getElem?_getD, List.getElem?_append_right (by omega), Nat.add_sub_cancel_left]
theorem nd_new {A : List Nd} {x : Nd} : nd (A ++ [x]) A.length = x := by
  have := nd_r (A := A) (B := [x]) (i := 0)
  rw [Nat.add_zero] at this
  rw [this]
  rfl
theorem cc_sn_t {l : Nat} : ∀ {R : List Nat}, (∀ x ∈ R, l < x) → cc l (R ++ [l + 1]) = cc l R + 1
  | [], _ => cc_one []
  | a :: R, h => by
    have h1 := h a (List.mem_cons_self ..)
    have ih := cc_sn_t (R := R) (fun x hx => h x (List.mem_cons_of_mem _ hx))
    show (if a ≤ l then 0 else if a = l + 1 then cc l (R ++ [l + 1]) + 1 else cc l (R ++ [l + 1])) = (if a ≤ l then 0 else if a = l + 1 then cc l R + 1 else cc l R) + 1
    rw [if_neg (show ¬ a ≤ l by omega), if_neg (show ¬ a ≤ l by omega), ih]
    split <;> rfl
theorem cc_sn_f {l m : Nat} : ∀ {R : List Nat}, (m ≠ l + 1 ∨ ∃ x ∈ R, x ≤ l) → cc l (R ++ [m]) = cc l R
  | [], h => by
    have h : m ≠ l + 1 := h.resolve_right (fun ⟨x, hx, _⟩ => by cases hx)
    show (if m ≤ l then 0 else if m = l + 1 then cc l [] + 1 else cc l []) = cc l []
    rw [if_neg h]
    split <;> rfl
  | a :: R, h => by
    show (if a ≤ l then 0 else if a = l + 1 then cc l (R ++ [m]) + 1 else cc l (R ++ [m])) = (if a ≤ l then 0 else if a = l + 1 then cc l R + 1 else cc l R)
    by_cases z : a ≤ l
    · rw [if_pos z, if_pos z]
    · rw [cc_sn_f (R := R)]
      rcases h with h | ⟨x, hx, hxl⟩
      · exact Or.inl h
      · rcases List.mem_cons.mp hx with rfl | hx
        · exact absurd hxl z
        · exact Or.inr ⟨x, hx, hxl⟩
theorem lv_mem {N : List Nd} {j x : Nat} : x ∈ lv (N.drop j) ↔ ∃ i, j ≤ i ∧ i < N.length ∧ (nd N i).1 = x := by
  unfold lv
  rw [List.mem_map]
  constructor
  · rintro ⟨y, hy, rfl⟩
    obtain ⟨i, hi, e⟩ := List.mem_iff_getElem.mp hy
    rw [List.length_drop] at hi
    refine ⟨j + i, by omega, by omega, ?_⟩
    unfold nd
    rw [List.getD_eq_getElem?_getD, List.getElem?_eq_getElem (by omega)]
    rw [List.getElem_drop] at e
    rw [← e]
    rfl
  · rintro ⟨i, h1, h2, rfl⟩
    refine ⟨nd N i, ?_, rfl⟩
    unfold nd
    rw [List.getD_eq_getElem?_getD, List.getElem?_eq_getElem h2]
    rw [List.mem_iff_getElem]
    refine ⟨i - j, by rw [List.length_drop]; omega, ?_⟩
    rw [List.getElem_drop]
    congr 1
    omega
def NI (V : Nat → Nat → Nat) (n : Nat) (g : mh) (N : List Nd) (k i : Nat) : Prop :=
  (mI g 128 45 = nI N.length ∧ 1 ≤ N.length ∧ N.length ≤ 193) ∧
  (∀ j, j < N.length → mI g 146 j = nI (nd N j).1 ∧ (1 ≤ j → mI g 147 j = nI (nd N j).2.1) ∧ mI g 148 j = nI (cc (nd N j).1 (lv (N.drop (j + 1)))) ∧ (nd N j).1 ≤ n) ∧ mI g 147 0 = -1 ∧
  (∀ j, 1 ≤ j → j < N.length → ∃ u, u < j ∧ mI g 145 j = nI u ∧ (nd N u).1 + 1 = (nd N j).1 ∧ agr V (nd N u).2.2 (nd N j).2.2 (nd N u).1) ∧
  (∀ l, l ≤ i → ∃ p, p < N.length ∧ mI g 151 l = nI p ∧ (nd N p).1 = l ∧ agr V (nd N p).2.2 k l ∧ ∀ j, p < j → j < N.length → l < (nd N j).1)
def Wnd (x q : Nat) : Prop := (145 ≤ x ∧ x ≤ 149) ∨ x = 151 ∨ (x = 128 ∧ q = 45)
theorem s_laysNode {V : Nat → Nat → Nat} {n : Nat} (hn : n ≤ 8) {g : mh} {N : List Nd} {k i w : Nat} (hL : Lay g) (ni : NI V n g N k i) (hi : i < n) (hM : N.length < 193) (d : Nat) : ∃ u g', mI g 151 i = nI u ∧ u < 193 ∧ N_laysNode (d + 1) 128 (nI u) (nI (i + 1)) (nI w) g = some (none, g') ∧ Fi Wnd g g' ∧ NI V n g' (N ++ [(i + 1, w, k)]) k (i + 1) ∧ mI g' 149 N.length = nI 0 ∧ ∀ j, j < N.length → mI g' 149 j = mI g 149 j := by
  obtain ⟨⟨a1, a2, a3⟩, a4, a5, a6, a7⟩ := ni
  obtain ⟨u, u1, u2, u3, u4, u5⟩ := a7 i (Nat.le_refl _)
  obtain ⟨c, hc⟩ : ∃ c, c = cc (nd N u).1 (lv (N.drop (u + 1))) := ⟨_, rfl⟩
  have c1 := (a4 u u1).2.2.1
  rw [← hc] at c1
  obtain ⟨M, hMe⟩ : ∃ M, M = N.length := ⟨_, rfl⟩
  obtain ⟨G, hG⟩ : ∃ G, G = msi (msi (msi (msi (msi (msi (msi (msi g 145 M (nI u)) 146 M (nI (i + 1))) 147 M (nI w)) 148 M (nI 0)) 149 M (nI 0)) 148 u (nI (c + 1))) 151 (i + 1) (nI M)) 128 45 (nI (M + 1)) := ⟨_, rfl⟩
  have rd : ∀ x q, mI G x q = if x = 128 ∧ q = 45 then nI (M + 1) else if x = 151 ∧ q = i + 1 then nI M else if x = 148 ∧ q = u then nI (c + 1) else if x = 149 ∧ q = M then nI 0 else if x = 148 ∧ q = M then nI 0 else if x = 147 ∧ q = M then nI w else if x = 146 ∧ q = M then nI (i + 1) else if x = 145 ∧ q = M then nI u else mI g x q := by
    intro x q
    rw [hG]
    rfl
  have old : ∀ x q, ¬ (x = 128 ∧ q = 45) → ¬ (x = 151 ∧ q = i + 1) → ¬ (x = 148 ∧ q = u) → ¬ (145 ≤ x ∧ x ≤ 149 ∧ q = M) → mI G x q = mI g x q := by
    intro x q h1 h2 h3 h4
    rw [rd, if_neg h1, if_neg h2, if_neg h3, if_neg (by omega), if_neg (by omega), if_neg (by omega), if_neg (by omega), if_neg (by omega)]
  have fG : Fi Wnd g G := by
    refine ⟨by rw [hG]; rfl, fun x q hw => old x q ?_ ?_ ?_ ?_⟩
    all_goals (unfold Wnd at hw; omega)
  have len : (N ++ [(i + 1, w, k)]).length = M + 1 := by rw [List.length_append, ← hMe]; rfl
  have nl : ∀ j, j < M → nd (N ++ [(i + 1, w, k)]) j = nd N j := fun j hj => nd_l (by omega)
  have nM : nd (N ++ [(i + 1, w, k)]) M = (i + 1, w, k) := by rw [hMe]; exact nd_new
  have dr : ∀ j, j < M → lv ((N ++ [(i + 1, w, k)]).drop (j + 1)) = lv (N.drop (j + 1)) ++ [i + 1] := by
    intro j hj
    rw [List.drop_append_of_le_length (by omega), lv_app]
    rfl
  have drM : lv ((N ++ [(i + 1, w, k)]).drop (M + 1)) = [] := by
    rw [List.drop_eq_nil_of_le (by omega)]
    rfl
  have uc : ∀ x ∈ lv (N.drop (u + 1)), (nd N u).1 < x := by
    intro x hx
    obtain ⟨j, j1, j2, rfl⟩ := lv_mem.mp hx
    rw [u3]
    exact u5 j (by omega) j2
  refine ⟨u, G, u2, by omega, ?_, fG, ⟨⟨?_, by omega, by omega⟩, fun j hj => ?_, ?_, fun j j1 j2 => ?_, fun l hl => ?_⟩, ?_, fun j hj => ?_⟩
  · rw [← hMe] at a1
    have b1 : mI (msi g 145 M (nI u)) 128 45 = nI M := by rw [mI_si, if_neg (by omega)]; exact a1
    have b2 : mI (msi (msi g 145 M (nI u)) 146 M (nI (i + 1))) 128 45 = nI M := by rw [mI_si, if_neg (by omega)]; exact b1
    have b3 : mI (msi (msi (msi g 145 M (nI u)) 146 M (nI (i + 1))) 147 M (nI w)) 128 45 = nI M := by rw [mI_si, if_neg (by omega)]; exact b2
    have b4 : mI (msi (msi (msi (msi g 145 M (nI u)) 146 M (nI (i + 1))) 147 M (nI w)) 148 M (nI 0)) 128 45 = nI M := by rw [mI_si, if_neg (by omega)]; exact b3
    have b5 : mI (msi (msi (msi (msi (msi g 145 M (nI u)) 146 M (nI (i + 1))) 147 M (nI w)) 148 M (nI 0)) 149 M (nI 0)) 148 u = nI c := by rw [mI_si, if_neg (by omega), mI_si, if_neg (by omega), mI_si, if_neg (by omega), mI_si, if_neg (by omega), mI_si, if_neg (by omega)]; exact c1
    have b6 : mI (msi (msi (msi (msi (msi (msi g 145 M (nI u)) 146 M (nI (i + 1))) 147 M (nI w)) 148 M (nI 0)) 149 M (nI 0)) 148 u (nI (c + 1))) 128 45 = nI M := by rw [mI_si, if_neg (by omega), mI_si, if_neg (by omega)]; exact b4
    have b7 : mI (msi (msi (msi (msi (msi (msi (msi g 145 M (nI u)) 146 M (nI (i + 1))) 147 M (nI w)) 148 M (nI 0)) 149 M (nI 0)) 148 u (nI (c + 1))) 151 (i + 1) (nI M)) 128 45 = nI M := by rw [mI_si, if_neg (by omega)]; exact b6
    rw [e_N_laysNode]
    repeat (first | with_reducible refine hE ?_ | with_reducible refine hLi ?_ | (with_reducible apply hT; · (first | omega | (simp (disch := omega) only [lk_128 hL, lp_128_37 hL, lp_128_38 hL, lp_128_39 hL, lp_128_40 hL, lp_128_41 hL, lk_145 hL, ln_145 hL, lk_146 hL, ln_146 hL, lk_147 hL, ln_147 hL, lk_148 hL, ln_148 hL, lk_149 hL, ln_149 hL, a1, b1, b2, b3, b4, mK_si, mN_si, mP_si, mT_si, mU_si, mK_sp, mN_sp, mI_sp, mT_sp, mU_sp, qadd, qmul, qcl, qle, qlt, qeq, qlt0, q0le, qeq0, qle0, q0lt, true_or, or_true, false_or, or_false, true_and, and_true, false_and, and_false, eq_self, not_true_eq_false, not_false_eq_true, qz0, qz1, q00, q01, q10, q11, zb_z, zb_0, zb_1, zor, Bool.true_eq_false, Bool.false_eq_true, Bool.and_true, Bool.and_false, Bool.true_and, Bool.false_and, Bool.or_true, Bool.or_false, Bool.true_or, Bool.false_or, decide_eq_true_eq, decide_eq_false_iff_not, reduceCtorEq]; done) | (simp (disch := omega) only [lk_128 hL, lp_128_37 hL, lp_128_38 hL, lp_128_39 hL, lp_128_40 hL, lp_128_41 hL, lk_145 hL, ln_145 hL, lk_146 hL, ln_146 hL, lk_147 hL, ln_147 hL, lk_148 hL, ln_148 hL, lk_149 hL, ln_149 hL, a1, b1, b2, b3, b4, mK_si, mN_si, mP_si, mT_si, mU_si, mK_sp, mN_sp, mI_sp, mT_sp, mU_sp, qadd, qmul, qcl, qle, qlt, qeq, qlt0, q0le, qeq0, qle0, q0lt, true_or, or_true, false_or, or_false, true_and, and_true, false_and, and_false, eq_self, not_true_eq_false, not_false_eq_true, qz0, qz1, q00, q01, q10, q11, zb_z, zb_0, zb_1, zor, Bool.true_eq_false, Bool.false_eq_true, Bool.and_true, Bool.and_false, Bool.true_and, Bool.false_and, Bool.or_true, Bool.or_false, Bool.true_or, Bool.false_or, decide_eq_true_eq, decide_eq_false_iff_not, reduceCtorEq]; omega))) | (with_reducible apply hF; · (first | omega | (simp (disch := omega) only [lk_128 hL, lp_128_37 hL, lp_128_38 hL, lp_128_39 hL, lp_128_40 hL, lp_128_41 hL, lk_145 hL, ln_145 hL, lk_146 hL, ln_146 hL, lk_147 hL, ln_147 hL, lk_148 hL, ln_148 hL, lk_149 hL, ln_149 hL, a1, b1, b2, b3, b4, mK_si, mN_si, mP_si, mT_si, mU_si, mK_sp, mN_sp, mI_sp, mT_sp, mU_sp, qadd, qmul, qcl, qle, qlt, qeq, qlt0, q0le, qeq0, qle0, q0lt, true_or, or_true, false_or, or_false, true_and, and_true, false_and, and_false, eq_self, not_true_eq_false, not_false_eq_true, qz0, qz1, q00, q01, q10, q11, zb_z, zb_0, zb_1, zor, Bool.true_eq_false, Bool.false_eq_true, Bool.and_true, Bool.and_false, Bool.true_and, Bool.false_and, Bool.or_true, Bool.or_false, Bool.true_or, Bool.false_or, decide_eq_true_eq, decide_eq_false_iff_not, reduceCtorEq]; done) | (simp (disch := omega) only [lk_128 hL, lp_128_37 hL, lp_128_38 hL, lp_128_39 hL, lp_128_40 hL, lp_128_41 hL, lk_145 hL, ln_145 hL, lk_146 hL, ln_146 hL, lk_147 hL, ln_147 hL, lk_148 hL, ln_148 hL, lk_149 hL, ln_149 hL, a1, b1, b2, b3, b4, mK_si, mN_si, mP_si, mT_si, mU_si, mK_sp, mN_sp, mI_sp, mT_sp, mU_sp, qadd, qmul, qcl, qle, qlt, qeq, qlt0, q0le, qeq0, qle0, q0lt, true_or, or_true, false_or, or_false, true_and, and_true, false_and, and_false, eq_self, not_true_eq_false, not_false_eq_true, qz0, qz1, q00, q01, q10, q11, zb_z, zb_0, zb_1, zor, Bool.true_eq_false, Bool.false_eq_true, Bool.and_true, Bool.and_false, Bool.true_and, Bool.false_and, Bool.or_true, Bool.or_false, Bool.true_or, Bool.false_or, decide_eq_true_eq, decide_eq_false_iff_not, reduceCtorEq]; omega))))
    simp (disch := omega) only [lp_128_37 hL, lp_128_38 hL, lp_128_39 hL, lp_128_40 hL, lp_128_41 hL, a1, b1, b2, b3, b4, mK_si, mN_si, mP_si, mT_si, mU_si, mK_sp, mN_sp, mI_sp, mT_sp, mU_sp, qadd, qmul, qcl, qle, qlt, qeq, qlt0, q0le, qeq0, qle0, q0lt]
    rw [e_N_laysNode_30]
    repeat (first | with_reducible refine hE ?_ | with_reducible refine hLi ?_ | (with_reducible apply hT; · (first | omega | (simp (disch := omega) only [lk_128 hL, lp_128_40 hL, lp_128_43 hL, lk_148 hL, ln_148 hL, lk_151 hL, ln_151 hL, b5, b6, b7, qm1, mK_si, mN_si, mP_si, mT_si, mU_si, mK_sp, mN_sp, mI_sp, mT_sp, mU_sp, qadd, qmul, qcl, qle, qlt, qeq, qlt0, q0le, qeq0, qle0, q0lt, true_or, or_true, false_or, or_false, true_and, and_true, false_and, and_false, eq_self, not_true_eq_false, not_false_eq_true, qz0, qz1, q00, q01, q10, q11, zb_z, zb_0, zb_1, zor, Bool.true_eq_false, Bool.false_eq_true, Bool.and_true, Bool.and_false, Bool.true_and, Bool.false_and, Bool.or_true, Bool.or_false, Bool.true_or, Bool.false_or, decide_eq_true_eq, decide_eq_false_iff_not, reduceCtorEq]; done) | (simp (disch := omega) only [lk_128 hL, lp_128_40 hL, lp_128_43 hL, lk_148 hL, ln_148 hL, lk_151 hL, ln_151 hL, b5, b6, b7, qm1, mK_si, mN_si, mP_si, mT_si, mU_si, mK_sp, mN_sp, mI_sp, mT_sp, mU_sp, qadd, qmul, qcl, qle, qlt, qeq, qlt0, q0le, qeq0, qle0, q0lt, true_or, or_true, false_or, or_false, true_and, and_true, false_and, and_false, eq_self, not_true_eq_false, not_false_eq_true, qz0, qz1, q00, q01, q10, q11, zb_z, zb_0, zb_1, zor, Bool.true_eq_false, Bool.false_eq_true, Bool.and_true, Bool.and_false, Bool.true_and, Bool.false_and, Bool.or_true, Bool.or_false, Bool.true_or, Bool.false_or, decide_eq_true_eq, decide_eq_false_iff_not, reduceCtorEq]; omega))) | (with_reducible apply hF; · (first | omega | (simp (disch := omega) only [lk_128 hL, lp_128_40 hL, lp_128_43 hL, lk_148 hL, ln_148 hL, lk_151 hL, ln_151 hL, b5, b6, b7, qm1, mK_si, mN_si, mP_si, mT_si, mU_si, mK_sp, mN_sp, mI_sp, mT_sp, mU_sp, qadd, qmul, qcl, qle, qlt, qeq, qlt0, q0le, qeq0, qle0, q0lt, true_or, or_true, false_or, or_false, true_and, and_true, false_and, and_false, eq_self, not_true_eq_false, not_false_eq_true, qz0, qz1, q00, q01, q10, q11, zb_z, zb_0, zb_1, zor, Bool.true_eq_false, Bool.false_eq_true, Bool.and_true, Bool.and_false, Bool.true_and, Bool.false_and, Bool.or_true, Bool.or_false, Bool.true_or, Bool.false_or, decide_eq_true_eq, decide_eq_false_iff_not, reduceCtorEq]; done) | (simp (disch := omega) only [lk_128 hL, lp_128_40 hL, lp_128_43 hL, lk_148 hL, ln_148 hL, lk_151 hL, ln_151 hL, b5, b6, b7, qm1, mK_si, mN_si, mP_si, mT_si, mU_si, mK_sp, mN_sp, mI_sp, mT_sp, mU_sp, qadd, qmul, qcl, qle, qlt, qeq, qlt0, q0le, qeq0, qle0, q0lt, true_or, or_true, false_or, or_false, true_and, and_true, false_and, and_false, eq_self, not_true_eq_false, not_false_eq_true, qz0, qz1, q00, q01, q10, q11, zb_z, zb_0, zb_1, zor, Bool.true_eq_false, Bool.false_eq_true, Bool.and_true, Bool.and_false, Bool.true_and, Bool.false_and, Bool.or_true, Bool.or_false, Bool.true_or, Bool.false_or, decide_eq_true_eq, decide_eq_false_iff_not, reduceCtorEq]; omega))))
    simp (disch := omega) only [lp_128_40 hL, lp_128_43 hL, b5, b6, b7, mK_si, mN_si, mP_si, mT_si, mU_si, mK_sp, mN_sp, mI_sp, mT_sp, mU_sp, qadd, qmul, qcl, qle, qlt, qeq, qlt0, q0le, qeq0, qle0, q0lt]
    rw [hG]
  · rw [rd, if_pos ⟨rfl, rfl⟩, len]
  · by_cases z : j = M
    · rw [z, nM, drM]
      refine ⟨?_, fun _ => ?_, ?_, by show i + 1 ≤ n; omega⟩
      · rw [rd, if_neg (by omega), if_neg (by omega), if_neg (by omega), if_neg (by omega), if_neg (by omega), if_neg (by omega), if_pos ⟨rfl, rfl⟩]
      · rw [rd, if_neg (by omega), if_neg (by omega), if_neg (by omega), if_neg (by omega), if_neg (by omega), if_pos ⟨rfl, rfl⟩]
      · rw [rd, if_neg (by omega), if_neg (by omega), if_neg (by omega), if_neg (by omega), if_pos ⟨rfl, rfl⟩]
        rfl
    · have hj' : j < M := by omega
      rw [nl j hj', dr j hj']
      obtain ⟨x1, x2, x3, x4⟩ := a4 j (by omega)
      refine ⟨by rw [old _ _ (by omega) (by omega) (by omega) (by omega)]; exact x1, fun h1 => by rw [old _ _ (by omega) (by omega) (by omega) (by omega)]; exact x2 h1, ?_, x4⟩
      by_cases y : j = u
      · rw [rd, if_neg (by omega), if_neg (by omega), if_pos ⟨rfl, y⟩, y, hc]
        have z1 := cc_sn_t uc
        rw [show (nd N u).1 + 1 = i + 1 by omega] at z1
        rw [z1]
      · rw [old _ _ (by omega) (by omega) (by omega) (by omega), x3, cc_sn_f]
        by_cases lq : (nd N j).1 = i
        · right
          rcases Nat.lt_or_ge j u with z2 | z2
          · exact ⟨i, lv_mem.mpr ⟨u, by omega, u1, u3⟩, by omega⟩
          · have := u5 j (by omega) (by omega)
            omega
        · left
          omega
  · rw [old _ _ (by omega) (by omega) (by omega) (by omega)]
    exact a5
  · rw [len] at j2
    by_cases z : j = M
    · refine ⟨u, by omega, ?_, ?_⟩
      · rw [z, rd, if_neg (by omega), if_neg (by omega), if_neg (by omega), if_neg (by omega), if_neg (by omega), if_neg (by omega), if_neg (by omega), if_pos ⟨rfl, rfl⟩]
      · rw [z, nM, nl u (by omega), u3]
        exact ⟨rfl, u4⟩
    · obtain ⟨v, v1, v2, v3, v4⟩ := a6 j j1 (by omega)
      refine ⟨v, v1, by rw [old _ _ (by omega) (by omega) (by omega) (by omega)]; exact v2, ?_⟩
      rw [nl j (by omega), nl v (by omega)]
      exact ⟨v3, v4⟩
  · by_cases z : l = i + 1
    · refine ⟨M, by omega, by rw [rd, if_neg (by omega), if_pos ⟨rfl, z⟩], ?_⟩
      rw [nM, z]
      exact ⟨rfl, agr.rf, fun j j1 j2 => by omega⟩
    · obtain ⟨p, p1, p2, p3, p4, p5⟩ := a7 l (by omega)
      refine ⟨p, by omega, by rw [old _ _ (by omega) (by omega) (by omega) (by omega)]; exact p2, ?_⟩
      rw [nl p (by omega)]
      refine ⟨p3, p4, fun j j1 j2 => ?_⟩
      rw [len] at j2
      by_cases y : j = M
      · rw [y, nM]
        show l < i + 1
        omega
      · rw [nl j (by omega)]
        exact p5 j j1 (by omega)
  · rw [← hMe, rd, if_neg (by omega), if_neg (by omega), if_neg (by omega), if_pos ⟨rfl, rfl⟩]
  · exact old _ _ (by omega) (by omega) (by omega) (by omega)
section
variable {K : Ks} {O : List Nat}
theorem s_lt83 (d : Nat) (x1 x2 : Int32) (o4 : Option mv) {k : Nat} (hk : k < 24) (kk1 : kk K k = true) : ∀ j i, i + j = O.length → ∀ N g, RM g K → OM g O → VT g K 1 → NI (VK K O) O.length g N k i → N.length + j ≤ 193 → ∃ g', N_laysTree_83 (d + 1) 128 x1 x2 (nI k) o4 (nI i) g = N_laysTree_115 (d + 1) 128 x1 x2 (nI k) o4 (nI 0) g' ∧ Fi Wnd g g' ∧ NI (VK K O) O.length g' (N ++ pn (VK K O) k j i) k O.length ∧ (∀ q, N.length ≤ q → q < N.length + j → mI g' 149 q = nI 0) ∧ ∀ q, q < N.length → mI g' 149 q = mI g 149 q := by
  intro j
  induction j with
  | zero =>
    intro i hi N g r o hv ni hN
    obtain rfl : i = O.length := by omega
    have hL := r.1
    have ol := o.1
    have o2 := o.2.1
    refine ⟨g, ?_, Fi.rf, by show NI _ _ g (N ++ []) k _; rw [List.append_nil]; exact ni, fun q q1 q2 => by omega, fun _ _ => rfl⟩
    rw [e_N_laysTree_83]
    repeat (first | with_reducible refine hE ?_ | with_reducible refine hLi ?_ | (with_reducible apply hT; · (first | omega | (simp (disch := omega) only [lk_128 hL, lp_128_1 hL, lk_129 hL, ln_129 hL, o2, qadd, qmul, qcl, qle, qlt, qeq, qlt0, q0le, qeq0, qle0, q0lt, true_or, or_true, false_or, or_false, true_and, and_true, false_and, and_false, eq_self, not_true_eq_false, not_false_eq_true, qz0, qz1, q00, q01, q10, q11, zb_z, zb_0, zb_1, zor, Bool.true_eq_false, Bool.false_eq_true, Bool.and_true, Bool.and_false, Bool.true_and, Bool.false_and, Bool.or_true, Bool.or_false, Bool.true_or, Bool.false_or, decide_eq_true_eq, decide_eq_false_iff_not, reduceCtorEq]; done) | (simp (disch := omega) only [lk_128 hL, lp_128_1 hL, lk_129 hL, ln_129 hL, o2, qadd, qmul, qcl, qle, qlt, qeq, qlt0, q0le, qeq0, qle0, q0lt, true_or, or_true, false_or, or_false, true_and, and_true, false_and, and_false, eq_self, not_true_eq_false, not_false_eq_true, qz0, qz1, q00, q01, q10, q11, zb_z, zb_0, zb_1, zor, Bool.true_eq_false, Bool.false_eq_true, Bool.and_true, Bool.and_false, Bool.true_and, Bool.false_and, Bool.or_true, Bool.or_false, Bool.true_or, Bool.false_or, decide_eq_true_eq, decide_eq_false_iff_not, reduceCtorEq]; omega))) | (with_reducible apply hF; · (first | omega | (simp (disch := omega) only [lk_128 hL, lp_128_1 hL, lk_129 hL, ln_129 hL, o2, qadd, qmul, qcl, qle, qlt, qeq, qlt0, q0le, qeq0, qle0, q0lt, true_or, or_true, false_or, or_false, true_and, and_true, false_and, and_false, eq_self, not_true_eq_false, not_false_eq_true, qz0, qz1, q00, q01, q10, q11, zb_z, zb_0, zb_1, zor, Bool.true_eq_false, Bool.false_eq_true, Bool.and_true, Bool.and_false, Bool.true_and, Bool.false_and, Bool.or_true, Bool.or_false, Bool.true_or, Bool.false_or, decide_eq_true_eq, decide_eq_false_iff_not, reduceCtorEq]; done) | (simp (disch := omega) only [lk_128 hL, lp_128_1 hL, lk_129 hL, ln_129 hL, o2, qadd, qmul, qcl, qle, qlt, qeq, qlt0, q0le, qeq0, qle0, q0lt, true_or, or_true, false_or, or_false, true_and, and_true, false_and, and_false, eq_self, not_true_eq_false, not_false_eq_true, qz0, qz1, q00, q01, q10, q11, zb_z, zb_0, zb_1, zor, Bool.true_eq_false, Bool.false_eq_true, Bool.and_true, Bool.and_false, Bool.true_and, Bool.false_and, Bool.or_true, Bool.or_false, Bool.true_or, Bool.false_or, decide_eq_true_eq, decide_eq_false_iff_not, reduceCtorEq]; omega))))
    rfl
  | succ j ih =>
    intro i hi N g r o hv ni hN
    have hL := r.1
    have ol := o.1
    have o2 := o.2.1
    have hf := (o.2.2 i (by omega)).1
    have oi := (o.2.2 i (by omega)).2
    have va := hv.v o hk kk1 (show i < O.length by omega)
    have la := VK_lt r.wk (O := O) (i := i) (show k ≤ 24 by omega)
    obtain ⟨u, g1, u1, u2, e1, f1, ni1, z1, z2⟩ := s_laysNode (w := VK K O k i) ol hL ni (by omega) (by omega) d
    have len : (N ++ [(i + 1, VK K O k i, k)]).length = N.length + 1 := List.length_append
    obtain ⟨g', e', f', ni', y1, y2⟩ := ih (i + 1) (by omega) (N ++ [(i + 1, VK K O k i, k)]) g1 (r.fi f1 (fun k => by unfold Wnd; omega)) (o.fi f1 (fun k => by unfold Wnd; omega)) (fun b u h1 h2 => by rw [f1.2 _ _ (by unfold Wnd; omega)]; exact hv b u h1 h2) ni1 (by omega)
    refine ⟨g', ?_, f1.tr f', ?_, fun q q1 q2 => ?_, fun q hq => ?_⟩
    · rw [← e', e_N_laysTree_83]
      repeat (first | with_reducible refine hE ?_ | with_reducible refine hLi ?_ | (with_reducible apply hI; · (first | exact e1 | (simp (disch := omega) only [lk_128 hL, lp_128_1 hL, lk_129 hL, ln_129 hL, o2, lp_128_43 hL, lk_151 hL, ln_151 hL, oi, lp_128_33 hL, lk_141 hL, ln_141 hL, va, u1, qadd, qmul, qcl, qle, qlt, qeq, qlt0, q0le, qeq0, qle0, q0lt, true_or, or_true, false_or, or_false, true_and, and_true, false_and, and_false, eq_self, not_true_eq_false, not_false_eq_true, qz0, qz1, q00, q01, q10, q11, zb_z, zb_0, zb_1, zor, Bool.true_eq_false, Bool.false_eq_true, Bool.and_true, Bool.and_false, Bool.true_and, Bool.false_and, Bool.or_true, Bool.or_false, Bool.true_or, Bool.false_or, decide_eq_true_eq, decide_eq_false_iff_not, reduceCtorEq]; first | exact e1))) | (with_reducible apply hP; · (first | exact e1 | (simp (disch := omega) only [lk_128 hL, lp_128_1 hL, lk_129 hL, ln_129 hL, o2, lp_128_43 hL, lk_151 hL, ln_151 hL, oi, lp_128_33 hL, lk_141 hL, ln_141 hL, va, u1, qadd, qmul, qcl, qle, qlt, qeq, qlt0, q0le, qeq0, qle0, q0lt, true_or, or_true, false_or, or_false, true_and, and_true, false_and, and_false, eq_self, not_true_eq_false, not_false_eq_true, qz0, qz1, q00, q01, q10, q11, zb_z, zb_0, zb_1, zor, Bool.true_eq_false, Bool.false_eq_true, Bool.and_true, Bool.and_false, Bool.true_and, Bool.false_and, Bool.or_true, Bool.or_false, Bool.true_or, Bool.false_or, decide_eq_true_eq, decide_eq_false_iff_not, reduceCtorEq]; first | exact e1))) | (with_reducible apply hV; · (first | exact e1 | (simp (disch := omega) only [lk_128 hL, lp_128_1 hL, lk_129 hL, ln_129 hL, o2, lp_128_43 hL, lk_151 hL, ln_151 hL, oi, lp_128_33 hL, lk_141 hL, ln_141 hL, va, u1, qadd, qmul, qcl, qle, qlt, qeq, qlt0, q0le, qeq0, qle0, q0lt, true_or, or_true, false_or, or_false, true_and, and_true, false_and, and_false, eq_self, not_true_eq_false, not_false_eq_true, qz0, qz1, q00, q01, q10, q11, zb_z, zb_0, zb_1, zor, Bool.true_eq_false, Bool.false_eq_true, Bool.and_true, Bool.and_false, Bool.true_and, Bool.false_and, Bool.or_true, Bool.or_false, Bool.true_or, Bool.false_or, decide_eq_true_eq, decide_eq_false_iff_not, reduceCtorEq]; first | exact e1))) | (with_reducible apply hT; · (first | omega | (simp (disch := omega) only [lk_128 hL, lp_128_1 hL, lk_129 hL, ln_129 hL, o2, lp_128_43 hL, lk_151 hL, ln_151 hL, oi, lp_128_33 hL, lk_141 hL, ln_141 hL, va, u1, qadd, qmul, qcl, qle, qlt, qeq, qlt0, q0le, qeq0, qle0, q0lt, true_or, or_true, false_or, or_false, true_and, and_true, false_and, and_false, eq_self, not_true_eq_false, not_false_eq_true, qz0, qz1, q00, q01, q10, q11, zb_z, zb_0, zb_1, zor, Bool.true_eq_false, Bool.false_eq_true, Bool.and_true, Bool.and_false, Bool.true_and, Bool.false_and, Bool.or_true, Bool.or_false, Bool.true_or, Bool.false_or, decide_eq_true_eq, decide_eq_false_iff_not, reduceCtorEq]; done) | (simp (disch := omega) only [lk_128 hL, lp_128_1 hL, lk_129 hL, ln_129 hL, o2, lp_128_43 hL, lk_151 hL, ln_151 hL, oi, lp_128_33 hL, lk_141 hL, ln_141 hL, va, u1, qadd, qmul, qcl, qle, qlt, qeq, qlt0, q0le, qeq0, qle0, q0lt, true_or, or_true, false_or, or_false, true_and, and_true, false_and, and_false, eq_self, not_true_eq_false, not_false_eq_true, qz0, qz1, q00, q01, q10, q11, zb_z, zb_0, zb_1, zor, Bool.true_eq_false, Bool.false_eq_true, Bool.and_true, Bool.and_false, Bool.true_and, Bool.false_and, Bool.or_true, Bool.or_false, Bool.true_or, Bool.false_or, decide_eq_true_eq, decide_eq_false_iff_not, reduceCtorEq]; omega))) | (with_reducible apply hF; · (first | omega | (simp (disch := omega) only [lk_128 hL, lp_128_1 hL, lk_129 hL, ln_129 hL, o2, lp_128_43 hL, lk_151 hL, ln_151 hL, oi, lp_128_33 hL, lk_141 hL, ln_141 hL, va, u1, qadd, qmul, qcl, qle, qlt, qeq, qlt0, q0le, qeq0, qle0, q0lt, true_or, or_true, false_or, or_false, true_and, and_true, false_and, and_false, eq_self, not_true_eq_false, not_false_eq_true, qz0, qz1, q00, q01, q10, q11, zb_z, zb_0, zb_1, zor, Bool.true_eq_false, Bool.false_eq_true, Bool.and_true, Bool.and_false, Bool.true_and, Bool.false_and, Bool.or_true, Bool.or_false, Bool.true_or, Bool.false_or, decide_eq_true_eq, decide_eq_false_iff_not, reduceCtorEq]; done) | (simp (disch := omega) only [lk_128 hL, lp_128_1 hL, lk_129 hL, ln_129 hL, o2, lp_128_43 hL, lk_151 hL, ln_151 hL, oi, lp_128_33 hL, lk_141 hL, ln_141 hL, va, u1, qadd, qmul, qcl, qle, qlt, qeq, qlt0, q0le, qeq0, qle0, q0lt, true_or, or_true, false_or, or_false, true_and, and_true, false_and, and_false, eq_self, not_true_eq_false, not_false_eq_true, qz0, qz1, q00, q01, q10, q11, zb_z, zb_0, zb_1, zor, Bool.true_eq_false, Bool.false_eq_true, Bool.and_true, Bool.and_false, Bool.true_and, Bool.false_and, Bool.or_true, Bool.or_false, Bool.true_or, Bool.false_or, decide_eq_true_eq, decide_eq_false_iff_not, reduceCtorEq]; omega))))
      rw [qadd]
    · rw [List.append_assoc] at ni'
      exact ni'
    · by_cases z : q = N.length
      · rw [z, y2 _ (by omega)]
        exact z1
      · exact y1 q (by omega) (by omega)
    · rw [y2 q (by omega)]
      exact z2 q hq
/-- nodes of one level are apart -/
def UQ (V : Nat → Nat → Nat) (N : List Nd) : Prop := ∀ i j, i < N.length → j < N.length → (nd N i).1 = (nd N j).1 → agr V (nd N i).2.2 (nd N j).2.2 (nd N i).1 → i = j
def onp (V : Nat → Nat → Nat) (N : List Nd) (k q : Nat) : Bool := agb V k (nd N q).2.2 (nd N q).1
theorem s_lt115 (d : Nat) (x1 : Int32) (s : Nat) (o4 : Option mv) {k : Nat} (hk : k < 24) {N : List Nd} (uq : UQ (VK K O) N) (base : Nat → Nat) : ∀ j i, i + j = O.length + 1 → ∀ g, RM g K → OM g O → NI (VK K O) O.length g N k O.length → (∀ q, q < N.length → mI g 149 q = nI (base q + if (nd N q).1 < i ∧ onp (VK K O) N k q = true then 1 else 0)) → ∃ g' o3 o5 p, N_laysTree_115 d 128 x1 (nI s) (nI k) o4 (nI i) g = N_laysTree_59 d 128 x1 (nI (s + 1)) o3 o4 o5 g' ∧ Fi (fun x _ => x = 149 ∨ x = 150) g g' ∧ (∀ q, q < N.length → mI g' 149 q = nI (base q + if onp (VK K O) N k q = true then 1 else 0)) ∧ p < N.length ∧ mI g' 150 k = nI p ∧ (nd N p).1 = O.length ∧ agr (VK K O) (nd N p).2.2 k O.length ∧ ∀ q, q ≠ k → mI g' 150 q = mI g 150 q := by
  intro j
  induction j with
  | zero =>
    intro i hi g r o ni hb
    obtain rfl : i = O.length + 1 := by omega
    have hL := r.1
    have ol := o.1
    have o2 := o.2.1
    obtain ⟨⟨a1, a2, a3⟩, a4, a5, a6, a7⟩ := ni
    obtain ⟨p, p1, p2, p3, p4, p5⟩ := a7 O.length (Nat.le_refl _)
    refine ⟨msi g 150 k (nI p), some (vi (nI k)), some (vi (nI (O.length + 1))), p, ?_, Fi.si (Or.inr rfl), fun q hq => ?_, p1, by rw [mI_si, if_pos ⟨rfl, rfl⟩], p3, p4, fun q hq => by rw [mI_si, if_neg (by omega)]⟩
    · rw [e_N_laysTree_115]
      repeat (first | with_reducible refine hE ?_ | with_reducible refine hLi ?_ | (with_reducible apply hT; · (first | omega | (simp (disch := omega) only [lk_128 hL, lp_128_1 hL, lk_129 hL, ln_129 hL, o2, lp_128_43 hL, lk_151 hL, ln_151 hL, lp_128_42 hL, lk_150 hL, ln_150 hL, p2, qadd, qmul, qcl, qle, qlt, qeq, qlt0, q0le, qeq0, qle0, q0lt, true_or, or_true, false_or, or_false, true_and, and_true, false_and, and_false, eq_self, not_true_eq_false, not_false_eq_true, qz0, qz1, q00, q01, q10, q11, zb_z, zb_0, zb_1, zor, Bool.true_eq_false, Bool.false_eq_true, Bool.and_true, Bool.and_false, Bool.true_and, Bool.false_and, Bool.or_true, Bool.or_false, Bool.true_or, Bool.false_or, decide_eq_true_eq, decide_eq_false_iff_not, reduceCtorEq]; done) | (simp (disch := omega) only [lk_128 hL, lp_128_1 hL, lk_129 hL, ln_129 hL, o2, lp_128_43 hL, lk_151 hL, ln_151 hL, lp_128_42 hL, lk_150 hL, ln_150 hL, p2, qadd, qmul, qcl, qle, qlt, qeq, qlt0, q0le, qeq0, qle0, q0lt, true_or, or_true, false_or, or_false, true_and, and_true, false_and, and_false, eq_self, not_true_eq_false, not_false_eq_true, qz0, qz1, q00, q01, q10, q11, zb_z, zb_0, zb_1, zor, Bool.true_eq_false, Bool.false_eq_true, Bool.and_true, Bool.and_false, Bool.true_and, Bool.false_and, Bool.or_true, Bool.or_false, Bool.true_or, Bool.false_or, decide_eq_true_eq, decide_eq_false_iff_not, reduceCtorEq]; omega))) | (with_reducible apply hF; · (first | omega | (simp (disch := omega) only [lk_128 hL, lp_128_1 hL, lk_129 hL, ln_129 hL, o2, lp_128_43 hL, lk_151 hL, ln_151 hL, lp_128_42 hL, lk_150 hL, ln_150 hL, p2, qadd, qmul, qcl, qle, qlt, qeq, qlt0, q0le, qeq0, qle0, q0lt, true_or, or_true, false_or, or_false, true_and, and_true, false_and, and_false, eq_self, not_true_eq_false, not_false_eq_true, qz0, qz1, q00, q01, q10, q11, zb_z, zb_0, zb_1, zor, Bool.true_eq_false, Bool.false_eq_true, Bool.and_true, Bool.and_false, Bool.true_and, Bool.false_and, Bool.or_true, Bool.or_false, Bool.true_or, Bool.false_or, decide_eq_true_eq, decide_eq_false_iff_not, reduceCtorEq]; done) | (simp (disch := omega) only [lk_128 hL, lp_128_1 hL, lk_129 hL, ln_129 hL, o2, lp_128_43 hL, lk_151 hL, ln_151 hL, lp_128_42 hL, lk_150 hL, ln_150 hL, p2, qadd, qmul, qcl, qle, qlt, qeq, qlt0, q0le, qeq0, qle0, q0lt, true_or, or_true, false_or, or_false, true_and, and_true, false_and, and_false, eq_self, not_true_eq_false, not_false_eq_true, qz0, qz1, q00, q01, q10, q11, zb_z, zb_0, zb_1, zor, Bool.true_eq_false, Bool.false_eq_true, Bool.and_true, Bool.and_false, Bool.true_and, Bool.false_and, Bool.or_true, Bool.or_false, Bool.true_or, Bool.false_or, decide_eq_true_eq, decide_eq_false_iff_not, reduceCtorEq]; omega))))
      simp (disch := omega) only [lp_128_1 hL, lp_128_43 hL, lp_128_42 hL, o2, p2, qadd, qmul, qcl, qle, qlt, qeq, qlt0, q0le, qeq0, qle0, q0lt]
    · rw [mI_si, if_neg (by omega), hb q hq]
      have := (a4 q hq).2.2.2
      by_cases z : onp (VK K O) N k q = true
      · rw [if_pos ⟨by omega, z⟩, if_pos z]
      · rw [if_neg (fun y => z y.2), if_neg z]
  | succ j ih =>
    intro i hi g r o ni hb
    have hL := r.1
    have ol := o.1
    have o2 := o.2.1
    obtain ⟨⟨a1, a2, a3⟩, a4, a5, a6, a7⟩ := id ni
    obtain ⟨p, p1, p2, p3, p4, p5⟩ := a7 i (by omega)
    have hp := hb p p1
    rw [if_neg (by omega), Nat.add_zero] at hp
    have f1 : Fi (fun x _ => x = 149 ∨ x = 150) g (msi g 149 p (nI (base p + 1))) := Fi.si (Or.inl rfl)
    have onp' : onp (VK K O) N k p = true := by
      unfold onp
      rw [agb_t, p3]
      exact p4.sy
    obtain ⟨g', o3, o5, p', e', f', b', c1, c2, c3, c4, c5⟩ := ih (i + 1) (by omega) _ (r.fi f1 (fun k => by omega)) (o.fi f1 (fun k => by omega)) (by
      have e : ∀ x q, x ≠ 149 → mI (msi g 149 p (nI (base p + 1))) x q = mI g x q := fun x q hx => by rw [mI_si, if_neg (by omega)]
      unfold NI
      simp only [e _ _ (show (128 : Nat) ≠ 149 by decide), e _ _ (show (146 : Nat) ≠ 149 by decide), e _ _ (show (147 : Nat) ≠ 149 by decide), e _ _ (show (148 : Nat) ≠ 149 by decide), e _ _ (show (145 : Nat) ≠ 149 by decide), e _ _ (show (151 : Nat) ≠ 149 by decide)]
      exact ni) (fun q hq => by
      rw [mI_si]
      by_cases z : q = p
      · rw [if_pos ⟨rfl, z⟩, z, if_pos ⟨by omega, onp'⟩]
      · rw [if_neg (by omega), hb q hq]
        by_cases y : (nd N q).1 < i ∧ onp (VK K O) N k q = true
        · rw [if_pos y, if_pos ⟨by omega, y.2⟩]
        · rw [if_neg y, if_neg]
          rintro ⟨y1, y2⟩
          have y3 : ¬ (nd N q).1 < i := fun w => y ⟨w, y2⟩
          have y4 : (nd N q).1 = (nd N p).1 := by omega
          have y5 := agb_t.mp y2
          refine z (uq q p hq p1 y4 ?_)
          have : agr (VK K O) (nd N p).2.2 k (nd N q).1 := by rw [y4, p3]; exact p4
          exact y5.sy.tr this.sy)
    refine ⟨g', o3, o5, p', ?_, f1.tr f', b', c1, c2, c3, c4, fun q hq => ?_⟩
    · rw [← e', e_N_laysTree_115]
      repeat (first | with_reducible refine hE ?_ | with_reducible refine hLi ?_ | (with_reducible apply hT; · (first | omega | (simp (disch := omega) only [lk_128 hL, lp_128_1 hL, lk_129 hL, ln_129 hL, o2, lp_128_43 hL, lk_151 hL, ln_151 hL, lp_128_41 hL, lk_149 hL, ln_149 hL, p2, hp, qadd, qmul, qcl, qle, qlt, qeq, qlt0, q0le, qeq0, qle0, q0lt, true_or, or_true, false_or, or_false, true_and, and_true, false_and, and_false, eq_self, not_true_eq_false, not_false_eq_true, qz0, qz1, q00, q01, q10, q11, zb_z, zb_0, zb_1, zor, Bool.true_eq_false, Bool.false_eq_true, Bool.and_true, Bool.and_false, Bool.true_and, Bool.false_and, Bool.or_true, Bool.or_false, Bool.true_or, Bool.false_or, decide_eq_true_eq, decide_eq_false_iff_not, reduceCtorEq]; done) | (simp (disch := omega) only [lk_128 hL, lp_128_1 hL, lk_129 hL, ln_129 hL, o2, lp_128_43 hL, lk_151 hL, ln_151 hL, lp_128_41 hL, lk_149 hL, ln_149 hL, p2, hp, qadd, qmul, qcl, qle, qlt, qeq, qlt0, q0le, qeq0, qle0, q0lt, true_or, or_true, false_or, or_false, true_and, and_true, false_and, and_false, eq_self, not_true_eq_false, not_false_eq_true, qz0, qz1, q00, q01, q10, q11, zb_z, zb_0, zb_1, zor, Bool.true_eq_false, Bool.false_eq_true, Bool.and_true, Bool.and_false, Bool.true_and, Bool.false_and, Bool.or_true, Bool.or_false, Bool.true_or, Bool.false_or, decide_eq_true_eq, decide_eq_false_iff_not, reduceCtorEq]; omega))) | (with_reducible apply hF; · (first | omega | (simp (disch := omega) only [lk_128 hL, lp_128_1 hL, lk_129 hL, ln_129 hL, o2, lp_128_43 hL, lk_151 hL, ln_151 hL, lp_128_41 hL, lk_149 hL, ln_149 hL, p2, hp, qadd, qmul, qcl, qle, qlt, qeq, qlt0, q0le, qeq0, qle0, q0lt, true_or, or_true, false_or, or_false, true_and, and_true, false_and, and_false, eq_self, not_true_eq_false, not_false_eq_true, qz0, qz1, q00, q01, q10, q11, zb_z, zb_0, zb_1, zor, Bool.true_eq_false, Bool.false_eq_true, Bool.and_true, Bool.and_false, Bool.true_and, Bool.false_and, Bool.or_true, Bool.or_false, Bool.true_or, Bool.false_or, decide_eq_true_eq, decide_eq_false_iff_not, reduceCtorEq]; done) | (simp (disch := omega) only [lk_128 hL, lp_128_1 hL, lk_129 hL, ln_129 hL, o2, lp_128_43 hL, lk_151 hL, ln_151 hL, lp_128_41 hL, lk_149 hL, ln_149 hL, p2, hp, qadd, qmul, qcl, qle, qlt, qeq, qlt0, q0le, qeq0, qle0, q0lt, true_or, or_true, false_or, or_false, true_and, and_true, false_and, and_false, eq_self, not_true_eq_false, not_false_eq_true, qz0, qz1, q00, q01, q10, q11, zb_z, zb_0, zb_1, zor, Bool.true_eq_false, Bool.false_eq_true, Bool.and_true, Bool.and_false, Bool.true_and, Bool.false_and, Bool.or_true, Bool.or_false, Bool.true_or, Bool.false_or, decide_eq_true_eq, decide_eq_false_iff_not, reduceCtorEq]; omega))))
      simp (disch := omega) only [lp_128_43 hL, lp_128_41 hL, p2, hp, qadd, qmul, qcl, qle, qlt, qeq, qlt0, q0le, qeq0, qle0, q0lt]
    · rw [c5 q hq, mI_si, if_neg (by omega)]
end
theorem pn_nd (V : Nat → Nat → Nat) (k : Nat) : ∀ m i x, x < m → nd (pn V k m i) x = (i + x + 1, V k (i + x), k)
  | 0, _, _, h => by omega
  | m + 1, i, 0, _ => rfl
  | m + 1, i, x + 1, h => by
    have := pn_nd V k m (i + 1) x (by omega)
    show nd (pn V k m (i + 1)) x = _
    rw [this]
    have e : i + 1 + x = i + (x + 1) := by omega
    rw [e]
/-- neighbours, the last one, where clauses come from -/
def CN (V : Nat → Nat → Nat) (N : List Nd) : Prop := ∀ i, i + 1 < N.length → 1 ≤ (nd N (i + 1)).1 ∧ (nd N (i + 1)).1 ≤ (nd N i).1 + 1 ∧ agr V (nd N (i + 1)).2.2 (nd N i).2.2 ((nd N (i + 1)).1 - 1)
def LPn (V : Nat → Nat → Nat) (N : List Nd) (k i : Nat) : Prop := i ≤ (nd N (N.length - 1)).1 ∧ agr V (nd N (N.length - 1)).2.2 k i
def RP (N : List Nd) (S : List Nat) (s : Nat) : Prop := (nd N 0).1 = 0 ∧ ∀ q, 1 ≤ q → q < N.length → ∃ t, t < s ∧ (nd N q).2.2 = cd S t
theorem ext_N {V : Nat → Nat → Nat} {n : Nat} {N : List Nd} {S : List Nat} {s i : Nat} (hi : i ≤ n) (hN : 1 ≤ N.length) (uq : UQ V N) (cn : CN V N) (lp : LPn V N (cd S s) i) (rp : RP N S s) (nb : ∀ t l, t < s → l ≤ n → agr V (cd S t) (cd S s) l → l ≤ i) : UQ V (N ++ pn V (cd S s) (n - i) i) ∧ CN V (N ++ pn V (cd S s) (n - i) i) ∧ LPn V (N ++ pn V (cd S s) (n - i) i) (cd S s) n ∧ RP (N ++ pn V (cd S s) (n - i) i) S (s + 1) := by
  have len : (N ++ pn V (cd S s) (n - i) i).length = N.length + (n - i) := by rw [List.length_append, pn_len]
  have nl : ∀ j, j < N.length → nd (N ++ pn V (cd S s) (n - i) i) j = nd N j := fun j hj => nd_l hj
  have nr : ∀ x, x < n - i → nd (N ++ pn V (cd S s) (n - i) i) (N.length + x) = (i + x + 1, V (cd S s) (i + x), cd S s) := fun x hx => by rw [nd_r, pn_nd V _ _ _ _ hx]
  have key : ∀ q x, q < N.length → x < n - i → (nd N q).1 = i + x + 1 → agr V (nd N q).2.2 (cd S s) (i + x + 1) → False := by
    intro q x hq hx h1 h2
    have hq1 : 1 ≤ q := by
      rcases Nat.eq_zero_or_pos q with z | z
      · rw [z, rp.1] at h1
        omega
      · exact z
    obtain ⟨t, t1, t2⟩ := rp.2 q hq1 hq
    rw [t2] at h2
    have := nb t _ t1 (by omega) h2
    omega
  refine ⟨fun a b ha hb h1 h2 => ?_, fun a ha => ?_, ?_, ?_, fun q q1 q2 => ?_⟩
  · rw [len] at ha hb
    by_cases ca : a < N.length
    · by_cases cb : b < N.length
      · rw [nl a ca, nl b cb] at h1 h2
        exact uq a b ca cb h1 h2
      · obtain ⟨x, rfl⟩ : ∃ x, b = N.length + x := ⟨b - N.length, by omega⟩
        have hx : x < n - i := by omega
        rw [nl a ca, nr x hx] at h1 h2
        have h1 : (nd N a).1 = i + x + 1 := h1
        rw [h1] at h2
        exact (key a x ca hx h1 h2).elim
    · obtain ⟨x, rfl⟩ : ∃ x, a = N.length + x := ⟨a - N.length, by omega⟩
      have hx : x < n - i := by omega
      by_cases cb : b < N.length
      · rw [nr x hx, nl b cb] at h1 h2
        have h1 : i + x + 1 = (nd N b).1 := h1
        have h2 : agr V (cd S s) (nd N b).2.2 (i + x + 1) := h2
        exact (key b x cb hx h1.symm h2.sy).elim
      · obtain ⟨y, rfl⟩ : ∃ y, b = N.length + y := ⟨b - N.length, by omega⟩
        rw [nr x hx, nr y (by omega)] at h1
        have h1 : i + x + 1 = i + y + 1 := h1
        omega
  · rw [len] at ha
    by_cases ca : a + 1 < N.length
    · rw [nl (a + 1) ca, nl a (by omega)]
      exact cn a ca
    · by_cases cb : a + 1 = N.length
      · have e := nr 0 (by omega)
        rw [Nat.add_zero] at e
        rw [cb, e, nl a (by omega)]
        have l1 : N.length - 1 = a := by omega
        unfold LPn at lp
        rw [l1] at lp
        refine ⟨by show 1 ≤ i + 0 + 1; omega, by show i + 0 + 1 ≤ _; omega, ?_⟩
        show agr V (cd S s) _ (i + 0 + 1 - 1)
        rw [Nat.add_zero, Nat.add_sub_cancel]
        exact lp.2.sy
      · obtain ⟨x, rfl⟩ : ∃ x, a = N.length + x := ⟨a - N.length, by omega⟩
        rw [show N.length + x + 1 = N.length + (x + 1) by omega, nr (x + 1) (by omega), nr x (by omega)]
        exact ⟨by show 1 ≤ i + (x + 1) + 1; omega, by show i + (x + 1) + 1 ≤ i + x + 1 + 1; omega, agr.rf⟩
  · unfold LPn
    rw [len]
    by_cases z : n - i = 0
    · have e9 : N.length + (n - i) - 1 = N.length - 1 := by omega
      rw [e9, nl _ (by omega)]
      have e8 : n = i := by omega
      rw [e8]
      exact lp
    · rw [show N.length + (n - i) - 1 = N.length + (n - i - 1) by omega, nr _ (by omega)]
      refine ⟨by show n ≤ i + (n - i - 1) + 1; omega, agr.rf⟩
  · rw [nl 0 (by omega)]
    exact rp.1
  · rw [len] at q2
    by_cases ca : q < N.length
    · obtain ⟨t, t1, t2⟩ := rp.2 q q1 ca
      rw [nl q ca]
      exact ⟨t, by omega, t2⟩
    · obtain ⟨x, rfl⟩ : ∃ x, q = N.length + x := ⟨q - N.length, by omega⟩
      rw [nr x (by omega)]
      exact ⟨s, by omega, rfl⟩
theorem take_s {S : List Nat} {s : Nat} (h : s < S.length) : S.take (s + 1) = S.take s ++ [cd S s] := by
  rw [List.take_succ, List.getElem?_eq_getElem h]
  unfold cd
  rw [List.getD_eq_getElem?_getD, List.getElem?_eq_getElem h]
  rfl
theorem last_t {S : List Nat} {s : Nat} (h : s < S.length) : (S.take (s + 1)).getLast?.getD 0 = cd S s := by
  rw [take_s h, List.getLast?_append]
  rfl
def Wl5 (x q : Nat) : Prop := (144 ≤ x ∧ x ≤ 151) ∨ (x = 128 ∧ q = 45)
def Wlt (x q : Nat) : Prop := x = 141 ∨ (144 ≤ x ∧ x ≤ 151) ∨ (x = 128 ∧ q = 45)
section
variable {K : Ks} {O S : List Nat}
theorem s_lt59 (hS : SRT K O S 24) (d : Nat) : ∀ j s, s + j = S.length → ∀ N g, RM g K → OM g O → VT g K 1 → SRg g S → N = (0, 0, 0) :: rfn (VK K O) O.length 0 (S.take s) → (s = 0 → ∀ k, NI (VK K O) O.length g N k 0 ∧ LPn (VK K O) N k 0) → (0 < s → NI (VK K O) O.length g N (cd S (s - 1)) O.length ∧ LPn (VK K O) N (cd S (s - 1)) O.length) → UQ (VK K O) N → CN (VK K O) N → RP N S s → (∀ q, q < N.length → mI g 149 q = nI (ct (fun t => onp (VK K O) N (cd S t) q) s)) → (∀ t, t < s → ∃ p, p < N.length ∧ mI g 150 (cd S t) = nI p ∧ (nd N p).1 = O.length ∧ agr (VK K O) (nd N p).2.2 (cd S t) O.length) → ∀ o3 o4 o5, ∃ g' N', N_laysTree_59 (d + 2) 128 (nI S.length) (nI s) o3 o4 o5 g = some (none, g') ∧ Fi Wl5 g g' ∧ N' = (0, 0, 0) :: rfn (VK K O) O.length 0 S ∧ (∃ k i, NI (VK K O) O.length g' N' k i) ∧ UQ (VK K O) N' ∧ CN (VK K O) N' ∧ RP N' S S.length ∧ (∀ q, q < N'.length → mI g' 149 q = nI (ct (fun t => onp (VK K O) N' (cd S t) q) S.length)) ∧ (∀ t, t < S.length → ∃ p, p < N'.length ∧ mI g' 150 (cd S t) = nI p ∧ (nd N' p).1 = O.length ∧ agr (VK K O) (nd N' p).2.2 (cd S t) O.length) := by
  have hS1 := hS.1
  have hmk : ∀ t, t < S.length → cd S t < 24 ∧ kk K (cd S t) = true := fun t ht => (hS.2.2 _).mp (cd_mem ht)
  intro j
  induction j with
  | zero =>
    intro s hs N g r o hv hg hN b0 b1 uq cn rp hc hno o3 o4 o5
    obtain rfl : s = S.length := by omega
    refine ⟨g, N, ?_, Fi.rf, by rw [hN, List.take_length], ?_, uq, cn, rp, hc, hno⟩
    · rw [e_N_laysTree_59]
      repeat (first | with_reducible refine hE ?_ | with_reducible refine hLi ?_ | (with_reducible apply hT; · (first | omega | (simp (disch := omega) only [qadd, qmul, qcl, qle, qlt, qeq, qlt0, q0le, qeq0, qle0, q0lt, true_or, or_true, false_or, or_false, true_and, and_true, false_and, and_false, eq_self, not_true_eq_false, not_false_eq_true, qz0, qz1, q00, q01, q10, q11, zb_z, zb_0, zb_1, zor, Bool.true_eq_false, Bool.false_eq_true, Bool.and_true, Bool.and_false, Bool.true_and, Bool.false_and, Bool.or_true, Bool.or_false, Bool.true_or, Bool.false_or, decide_eq_true_eq, decide_eq_false_iff_not, reduceCtorEq]; done) | (simp (disch := omega) only [qadd, qmul, qcl, qle, qlt, qeq, qlt0, q0le, qeq0, qle0, q0lt, true_or, or_true, false_or, or_false, true_and, and_true, false_and, and_false, eq_self, not_true_eq_false, not_false_eq_true, qz0, qz1, q00, q01, q10, q11, zb_z, zb_0, zb_1, zor, Bool.true_eq_false, Bool.false_eq_true, Bool.and_true, Bool.and_false, Bool.true_and, Bool.false_and, Bool.or_true, Bool.or_false, Bool.true_or, Bool.false_or, decide_eq_true_eq, decide_eq_false_iff_not, reduceCtorEq]; omega))) | (with_reducible apply hF; · (first | omega | (simp (disch := omega) only [qadd, qmul, qcl, qle, qlt, qeq, qlt0, q0le, qeq0, qle0, q0lt, true_or, or_true, false_or, or_false, true_and, and_true, false_and, and_false, eq_self, not_true_eq_false, not_false_eq_true, qz0, qz1, q00, q01, q10, q11, zb_z, zb_0, zb_1, zor, Bool.true_eq_false, Bool.false_eq_true, Bool.and_true, Bool.and_false, Bool.true_and, Bool.false_and, Bool.or_true, Bool.or_false, Bool.true_or, Bool.false_or, decide_eq_true_eq, decide_eq_false_iff_not, reduceCtorEq]; done) | (simp (disch := omega) only [qadd, qmul, qcl, qle, qlt, qeq, qlt0, q0le, qeq0, qle0, q0lt, true_or, or_true, false_or, or_false, true_and, and_true, false_and, and_false, eq_self, not_true_eq_false, not_false_eq_true, qz0, qz1, q00, q01, q10, q11, zb_z, zb_0, zb_1, zor, Bool.true_eq_false, Bool.false_eq_true, Bool.and_true, Bool.and_false, Bool.true_and, Bool.false_and, Bool.or_true, Bool.or_false, Bool.true_or, Bool.false_or, decide_eq_true_eq, decide_eq_false_iff_not, reduceCtorEq]; omega))))
      rfl
    · rcases Nat.eq_zero_or_pos S.length with z | z
      · exact ⟨0, 0, (b0 z 0).1⟩
      · exact ⟨_, _, (b1 z).1⟩
  | succ j ih =>
    intro s hs N g r o hv hg hN b0 b1 uq cn rp hc hno o3 o4 o5
    have hL := r.1
    have ol := o.1
    obtain ⟨k1, k2⟩ := hmk s (by omega)
    -- the first level that is new
    obtain ⟨i, hi1, hi2, hi3, hi4, hi5, hi6, o4', hi7⟩ : ∃ i, i ≤ O.length ∧ NI (VK K O) O.length g N (cd S s) i ∧ LPn (VK K O) N (cd S s) i ∧ (∀ t l, t < s → l ≤ O.length → agr (VK K O) (cd S t) (cd S s) l → l ≤ i) ∧ (s = 0 → i = 0) ∧ (0 < s → i = fu (VK K O) (cd S s) (cd S (s - 1)) O.length 0) ∧ ∃ o4', N_laysTree_59 (d + 2) 128 (nI S.length) (nI s) o3 o4 o5 g = N_laysTree_83 (d + 2) 128 (nI S.length) (nI s) (nI (cd S s)) o4' (nI i) g := by
      have gs := hg s (by omega)
      rcases Nat.eq_zero_or_pos s with z | z
      · obtain ⟨c1, c2⟩ := b0 z (cd S s)
        refine ⟨0, Nat.zero_le _, c1, c2, fun t l h1 => by omega, fun _ => rfl, fun h => by omega, some (vi (nI 0)), ?_⟩
        rw [e_N_laysTree_59]
        subst z
        repeat (first | with_reducible refine hE ?_ | with_reducible refine hLi ?_ | (with_reducible apply hT; · (first | omega | (simp (disch := omega) only [lk_128 hL, lp_128_36 hL, lk_144 hL, ln_144 hL, gs, qadd, qmul, qcl, qle, qlt, qeq, qlt0, q0le, qeq0, qle0, q0lt, true_or, or_true, false_or, or_false, true_and, and_true, false_and, and_false, eq_self, not_true_eq_false, not_false_eq_true, qz0, qz1, q00, q01, q10, q11, zb_z, zb_0, zb_1, zor, Bool.true_eq_false, Bool.false_eq_true, Bool.and_true, Bool.and_false, Bool.true_and, Bool.false_and, Bool.or_true, Bool.or_false, Bool.true_or, Bool.false_or, decide_eq_true_eq, decide_eq_false_iff_not, reduceCtorEq]; done) | (simp (disch := omega) only [lk_128 hL, lp_128_36 hL, lk_144 hL, ln_144 hL, gs, qadd, qmul, qcl, qle, qlt, qeq, qlt0, q0le, qeq0, qle0, q0lt, true_or, or_true, false_or, or_false, true_and, and_true, false_and, and_false, eq_self, not_true_eq_false, not_false_eq_true, qz0, qz1, q00, q01, q10, q11, zb_z, zb_0, zb_1, zor, Bool.true_eq_false, Bool.false_eq_true, Bool.and_true, Bool.and_false, Bool.true_and, Bool.false_and, Bool.or_true, Bool.or_false, Bool.true_or, Bool.false_or, decide_eq_true_eq, decide_eq_false_iff_not, reduceCtorEq]; omega))) | (with_reducible apply hF; · (first | omega | (simp (disch := omega) only [lk_128 hL, lp_128_36 hL, lk_144 hL, ln_144 hL, gs, qadd, qmul, qcl, qle, qlt, qeq, qlt0, q0le, qeq0, qle0, q0lt, true_or, or_true, false_or, or_false, true_and, and_true, false_and, and_false, eq_self, not_true_eq_false, not_false_eq_true, qz0, qz1, q00, q01, q10, q11, zb_z, zb_0, zb_1, zor, Bool.true_eq_false, Bool.false_eq_true, Bool.and_true, Bool.and_false, Bool.true_and, Bool.false_and, Bool.or_true, Bool.or_false, Bool.true_or, Bool.false_or, decide_eq_true_eq, decide_eq_false_iff_not, reduceCtorEq]; done) | (simp (disch := omega) only [lk_128 hL, lp_128_36 hL, lk_144 hL, ln_144 hL, gs, qadd, qmul, qcl, qle, qlt, qeq, qlt0, q0le, qeq0, qle0, q0lt, true_or, or_true, false_or, or_false, true_and, and_true, false_and, and_false, eq_self, not_true_eq_false, not_false_eq_true, qz0, qz1, q00, q01, q10, q11, zb_z, zb_0, zb_1, zor, Bool.true_eq_false, Bool.false_eq_true, Bool.and_true, Bool.and_false, Bool.true_and, Bool.false_and, Bool.or_true, Bool.or_false, Bool.true_or, Bool.false_or, decide_eq_true_eq, decide_eq_false_iff_not, reduceCtorEq]; omega))))
        simp (disch := omega) only [lp_128_36 hL, gs, qadd, qmul, qcl, qle, qlt, qeq, qlt0, q0le, qeq0, qle0, q0lt]
      · obtain ⟨c1, c2⟩ := b1 z
        obtain ⟨p1, p2⟩ := hmk (s - 1) (by omega)
        have f0 := fu0 (V := VK K O) (n := O.length) (cd S s) (cd S (s - 1))
        have gp := hg (s - 1) (by omega)
        have e1 := s_firstUnlike r o hv k1 p1 k2 p2 (d + 1)
        refine ⟨fu (VK K O) (cd S s) (cd S (s - 1)) O.length 0, f0.1, ?_, ?_, fun t l h1 h2 h3 => ?_, fun h => by omega, fun _ => rfl, some (vi (nI (fu (VK K O) (cd S s) (cd S (s - 1)) O.length 0))), ?_⟩
        · obtain ⟨a1, a2, a3, a4, a5⟩ := c1
          refine ⟨a1, a2, a3, a4, fun l hl => ?_⟩
          obtain ⟨p, q1, q2, q3, q4, q5⟩ := a5 l (by omega)
          exact ⟨p, q1, q2, q3, q4.tr ((f0.2.1.mo hl).sy), q5⟩
        · exact ⟨by have := c2.1; omega, (c2.2.mo f0.1).tr f0.2.1.sy⟩
        · by_cases y : t = s - 1
          · rw [y] at h3
            exact fu_of h2 h3.sy
          · have m1 := hS.2.1 t (s - 1) (by omega) (by omega)
            have m2 := hS.2.1 (s - 1) s (by omega) (by omega)
            exact fu_of h2 (AH.mid m1 m2 h2 h3).sy
        · have q1 : nI s - nI 1 = nI (s - 1) := by rw [qsub (by omega)]
          rw [e_N_laysTree_59]
          repeat (first | with_reducible refine hE ?_ | with_reducible refine hLi ?_ | (with_reducible apply hI; · (first | exact e1 | (simp (disch := omega) only [lk_128 hL, lp_128_36 hL, lk_144 hL, ln_144 hL, gs, gp, q1, qadd, qmul, qcl, qle, qlt, qeq, qlt0, q0le, qeq0, qle0, q0lt, true_or, or_true, false_or, or_false, true_and, and_true, false_and, and_false, eq_self, not_true_eq_false, not_false_eq_true, qz0, qz1, q00, q01, q10, q11, zb_z, zb_0, zb_1, zor, Bool.true_eq_false, Bool.false_eq_true, Bool.and_true, Bool.and_false, Bool.true_and, Bool.false_and, Bool.or_true, Bool.or_false, Bool.true_or, Bool.false_or, decide_eq_true_eq, decide_eq_false_iff_not, reduceCtorEq]; first | exact e1))) | (with_reducible apply hP; · (first | exact e1 | (simp (disch := omega) only [lk_128 hL, lp_128_36 hL, lk_144 hL, ln_144 hL, gs, gp, q1, qadd, qmul, qcl, qle, qlt, qeq, qlt0, q0le, qeq0, qle0, q0lt, true_or, or_true, false_or, or_false, true_and, and_true, false_and, and_false, eq_self, not_true_eq_false, not_false_eq_true, qz0, qz1, q00, q01, q10, q11, zb_z, zb_0, zb_1, zor, Bool.true_eq_false, Bool.false_eq_true, Bool.and_true, Bool.and_false, Bool.true_and, Bool.false_and, Bool.or_true, Bool.or_false, Bool.true_or, Bool.false_or, decide_eq_true_eq, decide_eq_false_iff_not, reduceCtorEq]; first | exact e1))) | (with_reducible apply hV; · (first | exact e1 | (simp (disch := omega) only [lk_128 hL, lp_128_36 hL, lk_144 hL, ln_144 hL, gs, gp, q1, qadd, qmul, qcl, qle, qlt, qeq, qlt0, q0le, qeq0, qle0, q0lt, true_or, or_true, false_or, or_false, true_and, and_true, false_and, and_false, eq_self, not_true_eq_false, not_false_eq_true, qz0, qz1, q00, q01, q10, q11, zb_z, zb_0, zb_1, zor, Bool.true_eq_false, Bool.false_eq_true, Bool.and_true, Bool.and_false, Bool.true_and, Bool.false_and, Bool.or_true, Bool.or_false, Bool.true_or, Bool.false_or, decide_eq_true_eq, decide_eq_false_iff_not, reduceCtorEq]; first | exact e1))) | (with_reducible apply hT; · (first | omega | (simp (disch := omega) only [lk_128 hL, lp_128_36 hL, lk_144 hL, ln_144 hL, gs, gp, q1, qadd, qmul, qcl, qle, qlt, qeq, qlt0, q0le, qeq0, qle0, q0lt, true_or, or_true, false_or, or_false, true_and, and_true, false_and, and_false, eq_self, not_true_eq_false, not_false_eq_true, qz0, qz1, q00, q01, q10, q11, zb_z, zb_0, zb_1, zor, Bool.true_eq_false, Bool.false_eq_true, Bool.and_true, Bool.and_false, Bool.true_and, Bool.false_and, Bool.or_true, Bool.or_false, Bool.true_or, Bool.false_or, decide_eq_true_eq, decide_eq_false_iff_not, reduceCtorEq]; done) | (simp (disch := omega) only [lk_128 hL, lp_128_36 hL, lk_144 hL, ln_144 hL, gs, gp, q1, qadd, qmul, qcl, qle, qlt, qeq, qlt0, q0le, qeq0, qle0, q0lt, true_or, or_true, false_or, or_false, true_and, and_true, false_and, and_false, eq_self, not_true_eq_false, not_false_eq_true, qz0, qz1, q00, q01, q10, q11, zb_z, zb_0, zb_1, zor, Bool.true_eq_false, Bool.false_eq_true, Bool.and_true, Bool.and_false, Bool.true_and, Bool.false_and, Bool.or_true, Bool.or_false, Bool.true_or, Bool.false_or, decide_eq_true_eq, decide_eq_false_iff_not, reduceCtorEq]; omega))) | (with_reducible apply hF; · (first | omega | (simp (disch := omega) only [lk_128 hL, lp_128_36 hL, lk_144 hL, ln_144 hL, gs, gp, q1, qadd, qmul, qcl, qle, qlt, qeq, qlt0, q0le, qeq0, qle0, q0lt, true_or, or_true, false_or, or_false, true_and, and_true, false_and, and_false, eq_self, not_true_eq_false, not_false_eq_true, qz0, qz1, q00, q01, q10, q11, zb_z, zb_0, zb_1, zor, Bool.true_eq_false, Bool.false_eq_true, Bool.and_true, Bool.and_false, Bool.true_and, Bool.false_and, Bool.or_true, Bool.or_false, Bool.true_or, Bool.false_or, decide_eq_true_eq, decide_eq_false_iff_not, reduceCtorEq]; done) | (simp (disch := omega) only [lk_128 hL, lp_128_36 hL, lk_144 hL, ln_144 hL, gs, gp, q1, qadd, qmul, qcl, qle, qlt, qeq, qlt0, q0le, qeq0, qle0, q0lt, true_or, or_true, false_or, or_false, true_and, and_true, false_and, and_false, eq_self, not_true_eq_false, not_false_eq_true, qz0, qz1, q00, q01, q10, q11, zb_z, zb_0, zb_1, zor, Bool.true_eq_false, Bool.false_eq_true, Bool.and_true, Bool.and_false, Bool.true_and, Bool.false_and, Bool.or_true, Bool.or_false, Bool.true_or, Bool.false_or, decide_eq_true_eq, decide_eq_false_iff_not, reduceCtorEq]; omega))))
          simp (disch := omega) only [lp_128_36 hL, gs, qadd, qmul, qcl, qle, qlt, qeq, qlt0, q0le, qeq0, qle0, q0lt]
    have hNl : 1 ≤ N.length := hi2.1.2.1
    have e1 : N ++ pn (VK K O) (cd S s) (O.length - i) i = (0, 0, 0) :: rfn (VK K O) O.length 0 (S.take (s + 1)) := by
      rw [hN, take_s (by omega)]
      show (0, 0, 0) :: (rfn (VK K O) O.length 0 (S.take s) ++ pn (VK K O) (cd S s) (O.length - i) i) = _
      congr 1
      rcases Nat.eq_zero_or_pos s with z | z
      · rw [hi5 z, z]
        rfl
      · have ne : S.take s ≠ [] := by
          intro y
          have := congrArg List.length y
          rw [List.length_take] at this
          have : min s S.length = 0 := this
          omega
        rw [rfn_app (VK K O) O.length (S.take s) 0 ne]
        have el : (S.take s).getLast?.getD 0 = cd S (s - 1) := by
          have := last_t (S := S) (s := s - 1) (by omega)
          rwa [show s - 1 + 1 = s by omega] at this
        rw [el, ← hi6 z]
        rfl
    have bnd : N.length + (O.length - i) ≤ 193 := by
      have := congrArg List.length e1
      rw [List.length_append, pn_len, List.length_cons] at this
      have l1 := rfn_len (VK K O) O.length (S.take (s + 1)) 0
      rw [List.length_take] at l1
      have l2 : O.length * min (s + 1) S.length ≤ 8 * 24 := Nat.mul_le_mul ol (by omega)
      omega
    obtain ⟨g1, e2, f1, ni1, y1, y2⟩ := s_lt83 (d + 1) (nI S.length) (nI s) o4' k1 k2 (O.length - i) i (by omega) N g r o hv hi2 bnd
    obtain ⟨uq', cn', lp', rp'⟩ := ext_N hi1 hNl uq cn hi3 rp hi4
    obtain ⟨N1, hN1⟩ : ∃ N1, N1 = N ++ pn (VK K O) (cd S s) (O.length - i) i := ⟨_, rfl⟩
    rw [← hN1] at ni1 uq' cn' lp' rp' e1
    have len : N1.length = N.length + (O.length - i) := by rw [hN1, List.length_append, pn_len]
    have nl : ∀ q, q < N.length → nd N1 q = nd N q := fun q hq => by rw [hN1]; exact nd_l hq
    have nr : ∀ x, x < O.length - i → nd N1 (N.length + x) = (i + x + 1, VK K O (cd S s) (i + x), cd S s) := fun x hx => by rw [hN1, nd_r, pn_nd _ _ _ _ _ hx]
    have r1 := r.fi f1 (fun k => by unfold Wnd; omega)
    have o1 := o.fi f1 (fun k => by unfold Wnd; omega)
    have hb : ∀ q, q < N1.length → mI g1 149 q = nI (ct (fun t => onp (VK K O) N1 (cd S t) q) s) := by
      intro q hq
      by_cases z : q < N.length
      · rw [y2 q z, hc q z]
        congr 1
        refine ct_congr s (fun t _ => ?_)
        unfold onp
        rw [nl q z]
      · obtain ⟨x, rfl⟩ : ∃ x, q = N.length + x := ⟨q - N.length, by omega⟩
        rw [y1 _ (by omega) (by omega)]
        congr 1
        symm
        have : ∀ m, m ≤ s → ct (fun t => onp (VK K O) N1 (cd S t) (N.length + x)) m = 0 := by
          intro m
          induction m with
          | zero => exact fun _ => rfl
          | succ m im =>
            intro hm
            have : onp (VK K O) N1 (cd S m) (N.length + x) = false := by
              apply Bool.eq_false_iff.mpr
              intro w
              unfold onp at w
              rw [nr x (by omega)] at w
              have := hi4 m (i + x + 1) (by omega) (by omega) (agb_t.mp w)
              omega
            rw [ct_f (p := fun t => onp (VK K O) N1 (cd S t) (N.length + x)) this]
            exact im (by omega)
        exact this s (Nat.le_refl _)
    obtain ⟨g2, o3', o5', p, e3, f2, c1, c2, c3, c4, c5, c6⟩ := s_lt115 (d + 2) (nI S.length) s o4' k1 uq' (fun q => ct (fun t => onp (VK K O) N1 (cd S t) q) s) (O.length + 1) 0 (Nat.zero_add _) g1 r1 o1 ni1 (fun q hq => by rw [if_neg (by omega), Nat.add_zero]; exact hb q hq)
    have ni2 : NI (VK K O) O.length g2 N1 (cd S s) O.length := by
      have e : ∀ x q, x ≠ 149 → x ≠ 150 → mI g2 x q = mI g1 x q := fun x q h1 h2 => f2.2 x q (by omega)
      unfold NI
      simp only [e 128 _ (by decide) (by decide), e 146 _ (by decide) (by decide), e 147 _ (by decide) (by decide), e 148 _ (by decide) (by decide), e 145 _ (by decide) (by decide), e 151 _ (by decide) (by decide)]
      exact ni1
    have f12 : Fi Wl5 g g2 := (f1.mo (fun x q z => by unfold Wnd at z; unfold Wl5; omega)).tr (f2.mo (fun x q z => by unfold Wl5; omega))
    have v2 : VT g2 K 1 := fun b u h1 h2 => by rw [f2.2 _ _ (by omega), f1.2 _ _ (by unfold Wnd; omega)]; exact hv b u h1 h2
    have s2 : SRg g2 S := fun t ht => by rw [f2.2 _ _ (by omega), f1.2 _ _ (by unfold Wnd; omega)]; exact hg t ht
    obtain ⟨g', N', e', f', x1, x2, x3, x4, x5, x6, x7⟩ := ih (s + 1) (by omega) N1 g2 (r.fi f12 (fun k => by unfold Wl5; omega)) (o.fi f12 (fun k => by unfold Wl5; omega)) v2 s2 e1 (fun h => by omega) (fun _ => ⟨ni2, lp'⟩) uq' cn' rp' (fun q hq => by
      rw [c1 q hq]
      congr 1
      cases hon : onp (VK K O) N1 (cd S s) q with
      | true => rw [if_pos rfl, ct_t (p := fun t => onp (VK K O) N1 (cd S t) q) hon]
      | false => rw [if_neg (by decide), ct_f (p := fun t => onp (VK K O) N1 (cd S t) q) hon]; rfl) (fun t ht => by
      by_cases z : t = s
      · rw [z]
        exact ⟨p, c2, c3, c4, c5⟩
      · obtain ⟨p', q1, q2, q3, q4⟩ := hno t (by omega)
        have ne := (hS.2.1 t s (by omega) (by omega)).ne
        refine ⟨p', by omega, ?_, ?_⟩
        · rw [c6 _ ne, f1.2 _ _ (by unfold Wnd; omega)]
          exact q2
        · rw [nl p' q1]
          exact ⟨q3, q4⟩) o3' o4' o5'
    exact ⟨g', N', hi7.trans (e2.trans (e3.trans e')), f12.tr f', x1, x2, x3, x4, x5, x6, x7⟩
end
theorem ct_ins {P q : Nat → Bool} {c : Nat} (hc : P c = false) : ∀ m, c < m → ct (fun k => (P k || Nat.beq c k) && q k) m = ct (fun k => P k && q k) m + if q c = true then 1 else 0
  | 0, h => by omega
  | m + 1, h => by
    by_cases z : c = m
    · subst z
      have e : ct (fun k => (P k || Nat.beq c k) && q k) c = ct (fun k => P k && q k) c := ct_congr c (fun k hk => by rw [beq_f.mpr (by omega), Bool.or_false])
      have h1 : (fun k => (P k || Nat.beq c k) && q k) c = q c := by
        show ((P c || Nat.beq c c) && q c) = q c
        rw [Nat.beq_refl, Bool.or_true, Bool.true_and]
      have h2 : (fun k => P k && q k) c = false := by
        show (P c && q c) = false
        rw [hc, Bool.false_and]
      rw [ct_f (p := fun k => P k && q k) h2]
      cases hq : q c with
      | true => rw [ct_t (p := fun k => (P k || Nat.beq c k) && q k) (h1.trans hq), e, if_pos rfl]
      | false => rw [ct_f (p := fun k => (P k || Nat.beq c k) && q k) (h1.trans hq), e, if_neg (by decide)]; rfl
    · have ih := ct_ins (q := q) hc m (by omega)
      have h1 : ((P m || Nat.beq c m) && q m) = (P m && q m) := by rw [beq_f.mpr z, Bool.or_false]
      cases hp : (P m && q m) with
      | true => rw [ct_t (p := fun k => (P k || Nat.beq c k) && q k) (h1.trans hp), ct_t (p := fun k => P k && q k) hp, ih]; omega
      | false => rw [ct_f (p := fun k => (P k || Nat.beq c k) && q k) (h1.trans hp), ct_f (p := fun k => P k && q k) hp, ih]
theorem ct_perm {S : List Nat} {q : Nat → Bool} {m : Nat} (h1 : ∀ i j, i < j → j < S.length → cd S i ≠ cd S j) (h2 : ∀ i, i < S.length → cd S i < m) : ∀ s, s ≤ S.length → ct (fun t => q (cd S t)) s = ct (fun k => xn (fun t => Nat.beq (cd S t) k) s && q k) m
  | 0, _ => (ct_ff (fun _ => rfl) m).symm
  | s + 1, hs => by
    have ih := ct_perm (q := q) h1 h2 s (by omega)
    have hc : xn (fun t => Nat.beq (cd S t) (cd S s)) s = false := by
      rw [xn_f]
      intro t ht
      exact beq_f.mpr (h1 t s ht (by omega))
    have e := ct_ins (q := q) (P := fun k => xn (fun t => Nat.beq (cd S t) k) s) (c := cd S s) hc m (h2 s (by omega))
    have e2 : ct (fun k => xn (fun t => Nat.beq (cd S t) k) (s + 1) && q k) m = ct (fun k => xn (fun t => Nat.beq (cd S t) k) s && q k) m + if q (cd S s) = true then 1 else 0 := e
    rw [e2, ← ih]
    cases hq : q (cd S s) with
    | true => rw [ct_t (p := fun t => q (cd S t)) hq, if_pos rfl]
    | false => rw [ct_f (p := fun t => q (cd S t)) hq, if_neg (by decide)]; rfl
/-- the reference's tree is laid -/
def TRN (g : mh) (K : Ks) (O : List Nat) (N : List Nd) : Prop :=
  VT g K 1 ∧ (mI g 128 45 = nI N.length ∧ 1 ≤ N.length ∧ N.length ≤ 193) ∧
  (∀ j, j < N.length → mI g 146 j = nI (nd N j).1 ∧ (1 ≤ j → mI g 147 j = nI (nd N j).2.1) ∧ mI g 148 j = nI (cc (nd N j).1 (lv (N.drop (j + 1)))) ∧ (nd N j).1 ≤ O.length) ∧ mI g 147 0 = -1 ∧
  (∀ j, 1 ≤ j → j < N.length → ∃ u, u < j ∧ mI g 145 j = nI u ∧ (nd N u).1 + 1 = (nd N j).1 ∧ agr (VK K O) (nd N u).2.2 (nd N j).2.2 (nd N u).1) ∧
  (∀ q, q < N.length → mI g 149 q = nI (ct (mem (VK K O) (kk K) (nd N q)) 24)) ∧
  (∀ k, k < 24 → kk K k = true → ∃ p, p < N.length ∧ mI g 150 k = nI p ∧ (nd N p).1 = O.length ∧ agr (VK K O) (nd N p).2.2 k O.length)
/-- what its nodes are -/
def TRP (K : Ks) (O S : List Nat) (N : List Nd) : Prop := SRT K O S 24 ∧ N = (0, 0, 0) :: rfn (VK K O) O.length 0 S ∧ UQ (VK K O) N ∧ CN (VK K O) N ∧ ∀ q, 1 ≤ q → q < N.length → (nd N q).2.2 < 24 ∧ kk K (nd N q).2.2 = true
theorem s_laysTree {g : mh} {K : Ks} {O : List Nat} (r : RM g K) (o : OM g O) (d : Nat) : ∃ g' S N, N_laysTree (d + 6) 128 g = some (none, g') ∧ Fi Wlt g g' ∧ TRP K O S N ∧ TRN g' K O N := by
  have hL := r.1
  obtain ⟨g1, e1, f1, v1⟩ := s_laysValues d (show 1 < 2 by decide) r
  have hL1 := f1.lay hL
  obtain ⟨G, hG⟩ : ∃ G, G = msi (msi (msi (msi (msi (msi (msi (msi g1 128 45 (nI 0)) 145 0 (-1)) 146 0 (nI 0)) 147 0 (-1)) 148 0 (nI 0)) 149 0 (nI 0)) 151 0 (nI 0)) 128 45 (nI 1) := ⟨_, rfl⟩
  have rd : ∀ x q, mI G x q = if x = 128 ∧ q = 45 then nI 1 else if x = 151 ∧ q = 0 then nI 0 else if x = 149 ∧ q = 0 then nI 0 else if x = 148 ∧ q = 0 then nI 0 else if x = 147 ∧ q = 0 then -1 else if x = 146 ∧ q = 0 then nI 0 else if x = 145 ∧ q = 0 then -1 else if x = 128 ∧ q = 45 then nI 0 else mI g1 x q := by
    intro x q
    rw [hG]
    rfl
  have fG : Fi Wlt g1 G := by
    refine ⟨by rw [hG]; rfl, fun x q hw => ?_⟩
    unfold Wlt at hw
    rw [rd, if_neg (by omega), if_neg (by omega), if_neg (by omega), if_neg (by omega), if_neg (by omega), if_neg (by omega), if_neg (by omega), if_neg (by omega)]
  have fa : Fi Wlt g G := (f1.mo (fun x q z => Or.inl z)).tr fG
  have rG := r.fi fa (fun k => by unfold Wlt; omega)
  have oG := o.fi fa (fun k => by unfold Wlt; omega)
  have vG : VT G K 1 := fun b u h1 h2 => by
    rw [rd, if_neg (by omega), if_neg (by omega), if_neg (by omega), if_neg (by omega), if_neg (by omega), if_neg (by omega), if_neg (by omega), if_neg (by omega)]
    exact v1 b u h1 h2
  have e2 : N_laysNode (d + 5) 128 (-1) (nI 0) (-1) (msi g1 128 45 (nI 0)) = some (none, G) := by
    have b0 : mI (msi g1 128 45 (nI 0)) 128 45 = nI 0 := by rw [mI_si, if_pos ⟨rfl, rfl⟩]
    have b1 : mI (msi (msi g1 128 45 (nI 0)) 145 0 (-1)) 128 45 = nI 0 := by rw [mI_si, if_neg (by omega)]; exact b0
    have b2 : mI (msi (msi (msi g1 128 45 (nI 0)) 145 0 (-1)) 146 0 (nI 0)) 128 45 = nI 0 := by rw [mI_si, if_neg (by omega)]; exact b1
    have b3 : mI (msi (msi (msi (msi g1 128 45 (nI 0)) 145 0 (-1)) 146 0 (nI 0)) 147 0 (-1)) 128 45 = nI 0 := by rw [mI_si, if_neg (by omega)]; exact b2
    have b4 : mI (msi (msi (msi (msi (msi g1 128 45 (nI 0)) 145 0 (-1)) 146 0 (nI 0)) 147 0 (-1)) 148 0 (nI 0)) 128 45 = nI 0 := by rw [mI_si, if_neg (by omega)]; exact b3
    have b5 : mI (msi (msi (msi (msi (msi (msi g1 128 45 (nI 0)) 145 0 (-1)) 146 0 (nI 0)) 147 0 (-1)) 148 0 (nI 0)) 149 0 (nI 0)) 128 45 = nI 0 := by rw [mI_si, if_neg (by omega)]; exact b4
    have b6 : mI (msi (msi (msi (msi (msi (msi (msi g1 128 45 (nI 0)) 145 0 (-1)) 146 0 (nI 0)) 147 0 (-1)) 148 0 (nI 0)) 149 0 (nI 0)) 151 0 (nI 0)) 128 45 = nI 0 := by rw [mI_si, if_neg (by omega)]; exact b5
    rw [e_N_laysNode]
    repeat (first | with_reducible refine hE ?_ | with_reducible refine hLi ?_ | (with_reducible apply hT; · (first | omega | (simp (disch := omega) only [lk_128 hL1, lp_128_37 hL1, lp_128_38 hL1, lp_128_39 hL1, lp_128_40 hL1, lp_128_41 hL1, lk_145 hL1, ln_145 hL1, lk_146 hL1, ln_146 hL1, lk_147 hL1, ln_147 hL1, lk_148 hL1, ln_148 hL1, lk_149 hL1, ln_149 hL1, b0, b1, b2, b3, b4, mK_si, mN_si, mP_si, mT_si, mU_si, mK_sp, mN_sp, mI_sp, mT_sp, mU_sp, qadd, qmul, qcl, qle, qlt, qeq, qlt0, q0le, qeq0, qle0, q0lt, true_or, or_true, false_or, or_false, true_and, and_true, false_and, and_false, eq_self, not_true_eq_false, not_false_eq_true, qz0, qz1, q00, q01, q10, q11, zb_z, zb_0, zb_1, zor, Bool.true_eq_false, Bool.false_eq_true, Bool.and_true, Bool.and_false, Bool.true_and, Bool.false_and, Bool.or_true, Bool.or_false, Bool.true_or, Bool.false_or, decide_eq_true_eq, decide_eq_false_iff_not, reduceCtorEq]; done) | (simp (disch := omega) only [lk_128 hL1, lp_128_37 hL1, lp_128_38 hL1, lp_128_39 hL1, lp_128_40 hL1, lp_128_41 hL1, lk_145 hL1, ln_145 hL1, lk_146 hL1, ln_146 hL1, lk_147 hL1, ln_147 hL1, lk_148 hL1, ln_148 hL1, lk_149 hL1, ln_149 hL1, b0, b1, b2, b3, b4, mK_si, mN_si, mP_si, mT_si, mU_si, mK_sp, mN_sp, mI_sp, mT_sp, mU_sp, qadd, qmul, qcl, qle, qlt, qeq, qlt0, q0le, qeq0, qle0, q0lt, true_or, or_true, false_or, or_false, true_and, and_true, false_and, and_false, eq_self, not_true_eq_false, not_false_eq_true, qz0, qz1, q00, q01, q10, q11, zb_z, zb_0, zb_1, zor, Bool.true_eq_false, Bool.false_eq_true, Bool.and_true, Bool.and_false, Bool.true_and, Bool.false_and, Bool.or_true, Bool.or_false, Bool.true_or, Bool.false_or, decide_eq_true_eq, decide_eq_false_iff_not, reduceCtorEq]; omega))) | (with_reducible apply hF; · (first | omega | (simp (disch := omega) only [lk_128 hL1, lp_128_37 hL1, lp_128_38 hL1, lp_128_39 hL1, lp_128_40 hL1, lp_128_41 hL1, lk_145 hL1, ln_145 hL1, lk_146 hL1, ln_146 hL1, lk_147 hL1, ln_147 hL1, lk_148 hL1, ln_148 hL1, lk_149 hL1, ln_149 hL1, b0, b1, b2, b3, b4, mK_si, mN_si, mP_si, mT_si, mU_si, mK_sp, mN_sp, mI_sp, mT_sp, mU_sp, qadd, qmul, qcl, qle, qlt, qeq, qlt0, q0le, qeq0, qle0, q0lt, true_or, or_true, false_or, or_false, true_and, and_true, false_and, and_false, eq_self, not_true_eq_false, not_false_eq_true, qz0, qz1, q00, q01, q10, q11, zb_z, zb_0, zb_1, zor, Bool.true_eq_false, Bool.false_eq_true, Bool.and_true, Bool.and_false, Bool.true_and, Bool.false_and, Bool.or_true, Bool.or_false, Bool.true_or, Bool.false_or, decide_eq_true_eq, decide_eq_false_iff_not, reduceCtorEq]; done) | (simp (disch := omega) only [lk_128 hL1, lp_128_37 hL1, lp_128_38 hL1, lp_128_39 hL1, lp_128_40 hL1, lp_128_41 hL1, lk_145 hL1, ln_145 hL1, lk_146 hL1, ln_146 hL1, lk_147 hL1, ln_147 hL1, lk_148 hL1, ln_148 hL1, lk_149 hL1, ln_149 hL1, b0, b1, b2, b3, b4, mK_si, mN_si, mP_si, mT_si, mU_si, mK_sp, mN_sp, mI_sp, mT_sp, mU_sp, qadd, qmul, qcl, qle, qlt, qeq, qlt0, q0le, qeq0, qle0, q0lt, true_or, or_true, false_or, or_false, true_and, and_true, false_and, and_false, eq_self, not_true_eq_false, not_false_eq_true, qz0, qz1, q00, q01, q10, q11, zb_z, zb_0, zb_1, zor, Bool.true_eq_false, Bool.false_eq_true, Bool.and_true, Bool.and_false, Bool.true_and, Bool.false_and, Bool.or_true, Bool.or_false, Bool.true_or, Bool.false_or, decide_eq_true_eq, decide_eq_false_iff_not, reduceCtorEq]; omega))))
    simp (disch := omega) only [lp_128_37 hL1, lp_128_38 hL1, lp_128_39 hL1, lp_128_40 hL1, lp_128_41 hL1, b0, b1, b2, b3, b4, mK_si, mN_si, mP_si, mT_si, mU_si, mK_sp, mN_sp, mI_sp, mT_sp, mU_sp, qadd, qmul, qcl, qle, qlt, qeq, qlt0, q0le, qeq0, qle0, q0lt]
    rw [e_N_laysNode_30]
    repeat (first | with_reducible refine hE ?_ | with_reducible refine hLi ?_ | (with_reducible apply hT; · (first | omega | (simp (disch := omega) only [lk_128 hL1, lp_128_43 hL1, lk_151 hL1, ln_151 hL1, b5, b6, mK_si, mN_si, mP_si, mT_si, mU_si, mK_sp, mN_sp, mI_sp, mT_sp, mU_sp, qadd, qmul, qcl, qle, qlt, qeq, qlt0, q0le, qeq0, qle0, q0lt, true_or, or_true, false_or, or_false, true_and, and_true, false_and, and_false, eq_self, not_true_eq_false, not_false_eq_true, qz0, qz1, q00, q01, q10, q11, zb_z, zb_0, zb_1, zor, Bool.true_eq_false, Bool.false_eq_true, Bool.and_true, Bool.and_false, Bool.true_and, Bool.false_and, Bool.or_true, Bool.or_false, Bool.true_or, Bool.false_or, decide_eq_true_eq, decide_eq_false_iff_not, reduceCtorEq]; done) | (simp (disch := omega) only [lk_128 hL1, lp_128_43 hL1, lk_151 hL1, ln_151 hL1, b5, b6, mK_si, mN_si, mP_si, mT_si, mU_si, mK_sp, mN_sp, mI_sp, mT_sp, mU_sp, qadd, qmul, qcl, qle, qlt, qeq, qlt0, q0le, qeq0, qle0, q0lt, true_or, or_true, false_or, or_false, true_and, and_true, false_and, and_false, eq_self, not_true_eq_false, not_false_eq_true, qz0, qz1, q00, q01, q10, q11, zb_z, zb_0, zb_1, zor, Bool.true_eq_false, Bool.false_eq_true, Bool.and_true, Bool.and_false, Bool.true_and, Bool.false_and, Bool.or_true, Bool.or_false, Bool.true_or, Bool.false_or, decide_eq_true_eq, decide_eq_false_iff_not, reduceCtorEq]; omega))) | (with_reducible apply hF; · (first | omega | (simp (disch := omega) only [lk_128 hL1, lp_128_43 hL1, lk_151 hL1, ln_151 hL1, b5, b6, mK_si, mN_si, mP_si, mT_si, mU_si, mK_sp, mN_sp, mI_sp, mT_sp, mU_sp, qadd, qmul, qcl, qle, qlt, qeq, qlt0, q0le, qeq0, qle0, q0lt, true_or, or_true, false_or, or_false, true_and, and_true, false_and, and_false, eq_self, not_true_eq_false, not_false_eq_true, qz0, qz1, q00, q01, q10, q11, zb_z, zb_0, zb_1, zor, Bool.true_eq_false, Bool.false_eq_true, Bool.and_true, Bool.and_false, Bool.true_and, Bool.false_and, Bool.or_true, Bool.or_false, Bool.true_or, Bool.false_or, decide_eq_true_eq, decide_eq_false_iff_not, reduceCtorEq]; done) | (simp (disch := omega) only [lk_128 hL1, lp_128_43 hL1, lk_151 hL1, ln_151 hL1, b5, b6, mK_si, mN_si, mP_si, mT_si, mU_si, mK_sp, mN_sp, mI_sp, mT_sp, mU_sp, qadd, qmul, qcl, qle, qlt, qeq, qlt0, q0le, qeq0, qle0, q0lt, true_or, or_true, false_or, or_false, true_and, and_true, false_and, and_false, eq_self, not_true_eq_false, not_false_eq_true, qz0, qz1, q00, q01, q10, q11, zb_z, zb_0, zb_1, zor, Bool.true_eq_false, Bool.false_eq_true, Bool.and_true, Bool.and_false, Bool.true_and, Bool.false_and, Bool.or_true, Bool.or_false, Bool.true_or, Bool.false_or, decide_eq_true_eq, decide_eq_false_iff_not, reduceCtorEq]; omega))))
    simp (disch := omega) only [lp_128_43 hL1, b5, b6, mK_si, mN_si, mP_si, mT_si, mU_si, mK_sp, mN_sp, mI_sp, mT_sp, mU_sp, qadd, qmul, qcl, qle, qlt, qeq, qlt0, q0le, qeq0, qle0, q0lt]
    rw [hG]
  have s0 : SRT K O [] 0 := ⟨Nat.le_refl _, fun i j h1 h2 => absurd h2 (Nat.not_lt_zero _), fun k => Iff.intro (fun h => by cases h) (fun h => absurd h.1 (Nat.not_lt_zero _))⟩
  obtain ⟨S, o3, g2, e3, f2, hS, hg⟩ := s_lt15 (d + 2) none none 24 0 rfl [] G rG oG vG s0 (fun i hi => absurd hi (Nat.not_lt_zero _)) none
  have f2' : Fi Wlt G g2 := f2.mo (fun x q z => by unfold Wlt; omega)
  have rd2 : ∀ x q, x ≠ 144 → mI g2 x q = mI G x q := fun x q hx => f2.2 _ _ hx
  have ni0 : ∀ k, NI (VK K O) O.length g2 [(0, 0, 0)] k 0 := by
    intro k
    refine ⟨⟨?_, Nat.le_refl _, by decide⟩, fun j hj => ?_, ?_, fun j h1 h2 => ?_, fun l hl => ?_⟩
    · rw [rd2 _ _ (by decide), rd, if_pos ⟨rfl, rfl⟩]
      rfl
    · have hj : j < 1 := hj
      obtain rfl : j = 0 := by omega
      refine ⟨?_, fun h => by omega, ?_, Nat.zero_le _⟩
      · rw [rd2 _ _ (by decide), rd, if_neg (by omega), if_neg (by omega), if_neg (by omega), if_neg (by omega), if_neg (by omega), if_pos ⟨rfl, rfl⟩]
        rfl
      · rw [rd2 _ _ (by decide), rd, if_neg (by omega), if_neg (by omega), if_neg (by omega), if_pos ⟨rfl, rfl⟩]
        rfl
    · rw [rd2 _ _ (by decide), rd, if_neg (by omega), if_neg (by omega), if_neg (by omega), if_neg (by omega), if_pos ⟨rfl, rfl⟩]
    · have h2 : j < 1 := h2
      omega
    · obtain rfl : l = 0 := by omega
      refine ⟨0, by decide, ?_, rfl, fun i hi => by omega, fun j h1 h2 => ?_⟩
      · rw [rd2 _ _ (by decide), rd, if_neg (by omega), if_pos ⟨rfl, rfl⟩]
      · have h2 : j < 1 := h2
        omega
  obtain ⟨g', N, e4, f4, x1, ⟨k0, i0, x2⟩, x3, x4, x5, x6, x7⟩ := s_lt59 hS (d + 3) S.length 0 (Nat.zero_add _) [(0, 0, 0)] g2 (rG.fi f2' (fun k => by unfold Wlt; omega)) (oG.fi f2' (fun k => by unfold Wlt; omega)) (fun b u h1 h2 => by rw [rd2 _ _ (by decide)]; exact vG b u h1 h2) hg (by rw [List.take_zero]; rfl) (fun _ k => ⟨ni0 k, Nat.zero_le _, fun i hi => by omega⟩) (fun h => by omega) (fun i j h1 h2 _ _ => by
      have h1 : i < 1 := h1
      have h2 : j < 1 := h2
      omega) (fun i h1 => by
      have h1 : i + 1 < 1 := h1
      omega) ⟨rfl, fun q h1 h2 => by
      have h2 : q < 1 := h2
      omega⟩ (fun q hq => by
      have hq : q < 1 := hq
      obtain rfl : q = 0 := by omega
      rw [rd2 _ _ (by decide), rd, if_neg (by omega), if_neg (by omega), if_pos ⟨rfl, rfl⟩]
      rfl) (fun t ht => by omega) o3 none none
  have fall := fa.tr (f2'.tr (f4.mo (fun x q z => Or.inr z)))
  refine ⟨g', S, N, ?_, fall, ⟨hS, x1, x3, x4, fun q h1 h2 => ?_⟩, ?_, x2.1, x2.2.1, x2.2.2.1, x2.2.2.2.1, fun q hq => ?_, fun k hk kk1 => ?_⟩
  · rw [e_N_laysTree]
    repeat (first | with_reducible refine hE ?_ | with_reducible refine hLi ?_ | (with_reducible apply hI; · (first | exact e1 | exact e2 | (simp (disch := omega) only [lk_128 hL, lk_128 hL1, mK_si, mN_si, mP_si, mT_si, mU_si, mK_sp, mN_sp, mI_sp, mT_sp, mU_sp, qadd, qmul, qcl, qle, qlt, qeq, qlt0, q0le, qeq0, qle0, q0lt, true_or, or_true, false_or, or_false, true_and, and_true, false_and, and_false, eq_self, not_true_eq_false, not_false_eq_true, qz0, qz1, q00, q01, q10, q11, zb_z, zb_0, zb_1, zor, Bool.true_eq_false, Bool.false_eq_true, Bool.and_true, Bool.and_false, Bool.true_and, Bool.false_and, Bool.or_true, Bool.or_false, Bool.true_or, Bool.false_or, decide_eq_true_eq, decide_eq_false_iff_not, reduceCtorEq]; first | exact e1 | exact e2))) | (with_reducible apply hP; · (first | exact e1 | exact e2 | (simp (disch := omega) only [lk_128 hL, lk_128 hL1, mK_si, mN_si, mP_si, mT_si, mU_si, mK_sp, mN_sp, mI_sp, mT_sp, mU_sp, qadd, qmul, qcl, qle, qlt, qeq, qlt0, q0le, qeq0, qle0, q0lt, true_or, or_true, false_or, or_false, true_and, and_true, false_and, and_false, eq_self, not_true_eq_false, not_false_eq_true, qz0, qz1, q00, q01, q10, q11, zb_z, zb_0, zb_1, zor, Bool.true_eq_false, Bool.false_eq_true, Bool.and_true, Bool.and_false, Bool.true_and, Bool.false_and, Bool.or_true, Bool.or_false, Bool.true_or, Bool.false_or, decide_eq_true_eq, decide_eq_false_iff_not, reduceCtorEq]; first | exact e1 | exact e2))) | (with_reducible apply hV; · (first | exact e1 | exact e2 | (simp (disch := omega) only [lk_128 hL, lk_128 hL1, mK_si, mN_si, mP_si, mT_si, mU_si, mK_sp, mN_sp, mI_sp, mT_sp, mU_sp, qadd, qmul, qcl, qle, qlt, qeq, qlt0, q0le, qeq0, qle0, q0lt, true_or, or_true, false_or, or_false, true_and, and_true, false_and, and_false, eq_self, not_true_eq_false, not_false_eq_true, qz0, qz1, q00, q01, q10, q11, zb_z, zb_0, zb_1, zor, Bool.true_eq_false, Bool.false_eq_true, Bool.and_true, Bool.and_false, Bool.true_and, Bool.false_and, Bool.or_true, Bool.or_false, Bool.true_or, Bool.false_or, decide_eq_true_eq, decide_eq_false_iff_not, reduceCtorEq]; first | exact e1 | exact e2))) | (with_reducible apply hT; · (first | omega | (simp (disch := omega) only [lk_128 hL, lk_128 hL1, mK_si, mN_si, mP_si, mT_si, mU_si, mK_sp, mN_sp, mI_sp, mT_sp, mU_sp, qadd, qmul, qcl, qle, qlt, qeq, qlt0, q0le, qeq0, qle0, q0lt, true_or, or_true, false_or, or_false, true_and, and_true, false_and, and_false, eq_self, not_true_eq_false, not_false_eq_true, qz0, qz1, q00, q01, q10, q11, zb_z, zb_0, zb_1, zor, Bool.true_eq_false, Bool.false_eq_true, Bool.and_true, Bool.and_false, Bool.true_and, Bool.false_and, Bool.or_true, Bool.or_false, Bool.true_or, Bool.false_or, decide_eq_true_eq, decide_eq_false_iff_not, reduceCtorEq]; done) | (simp (disch := omega) only [lk_128 hL, lk_128 hL1, mK_si, mN_si, mP_si, mT_si, mU_si, mK_sp, mN_sp, mI_sp, mT_sp, mU_sp, qadd, qmul, qcl, qle, qlt, qeq, qlt0, q0le, qeq0, qle0, q0lt, true_or, or_true, false_or, or_false, true_and, and_true, false_and, and_false, eq_self, not_true_eq_false, not_false_eq_true, qz0, qz1, q00, q01, q10, q11, zb_z, zb_0, zb_1, zor, Bool.true_eq_false, Bool.false_eq_true, Bool.and_true, Bool.and_false, Bool.true_and, Bool.false_and, Bool.or_true, Bool.or_false, Bool.true_or, Bool.false_or, decide_eq_true_eq, decide_eq_false_iff_not, reduceCtorEq]; omega))) | (with_reducible apply hF; · (first | omega | (simp (disch := omega) only [lk_128 hL, lk_128 hL1, mK_si, mN_si, mP_si, mT_si, mU_si, mK_sp, mN_sp, mI_sp, mT_sp, mU_sp, qadd, qmul, qcl, qle, qlt, qeq, qlt0, q0le, qeq0, qle0, q0lt, true_or, or_true, false_or, or_false, true_and, and_true, false_and, and_false, eq_self, not_true_eq_false, not_false_eq_true, qz0, qz1, q00, q01, q10, q11, zb_z, zb_0, zb_1, zor, Bool.true_eq_false, Bool.false_eq_true, Bool.and_true, Bool.and_false, Bool.true_and, Bool.false_and, Bool.or_true, Bool.or_false, Bool.true_or, Bool.false_or, decide_eq_true_eq, decide_eq_false_iff_not, reduceCtorEq]; done) | (simp (disch := omega) only [lk_128 hL, lk_128 hL1, mK_si, mN_si, mP_si, mT_si, mU_si, mK_sp, mN_sp, mI_sp, mT_sp, mU_sp, qadd, qmul, qcl, qle, qlt, qeq, qlt0, q0le, qeq0, qle0, q0lt, true_or, or_true, false_or, or_false, true_and, and_true, false_and, and_false, eq_self, not_true_eq_false, not_false_eq_true, qz0, qz1, q00, q01, q10, q11, zb_z, zb_0, zb_1, zor, Bool.true_eq_false, Bool.false_eq_true, Bool.and_true, Bool.and_false, Bool.true_and, Bool.false_and, Bool.or_true, Bool.or_false, Bool.true_or, Bool.false_or, decide_eq_true_eq, decide_eq_false_iff_not, reduceCtorEq]; omega))))
    exact e3.trans e4
  · obtain ⟨t, t1, t2⟩ := x5.2 q h1 h2
    rw [t2]
    exact (hS.2.2 _).mp (cd_mem t1)
  · intro b u h1 h2
    have f4' : mI g' 141 (40 * b + u) = mI g2 141 (40 * b + u) := by
      exact f4.2 _ _ (by unfold Wl5; omega)
    rw [f4', rd2 _ _ (by decide)]
    exact vG b u h1 h2
  · rw [x6 q hq]
    congr 1
    have e := ct_perm (S := S) (q := fun k => agb (VK K O) k (nd N q).2.2 (nd N q).1) (m := 24) (fun i j h1 h2 => (hS.2.1 i j h1 h2).ne) (fun i hi => ((hS.2.2 _).mp (cd_mem hi)).1) S.length (Nat.le_refl _)
    refine e.trans (ct_congr 24 (fun k hk => ?_))
    unfold mem
    congr 1
    apply bool_iff
    rw [xn_t]
    constructor
    · rintro ⟨t, t1, t2⟩
      rw [beq_t] at t2
      rw [← t2]
      exact ((hS.2.2 _).mp (cd_mem t1)).2
    · intro h
      obtain ⟨t, t1, t2⟩ := mem_cd ((hS.2.2 k).mpr ⟨hk, h⟩)
      exact ⟨t, t1, beq_t.mpr t2⟩
  · obtain ⟨t, t1, t2⟩ := mem_cd ((hS.2.2 k).mpr ⟨hk, kk1⟩)
    have := x7 t t1
    rw [t2] at this
    exact this
