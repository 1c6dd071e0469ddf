/-! ===== a clause without a literal; the reference's factor ===== -/
theorem nlit_drop (l : List Nat) (k : Nat) : nlit (l.drop k) ≤ nlit l := by
  have := nlit_app (l.take k) (l.drop k)
  rw [List.take_append_drop] at this
  omega
theorem wo_wf {W : List Nat} (w : WF W) {j : Nat} (hj : j < nlit W) : WF (W.take (beg W j) ++ W.drop (beg W (j + 1))) ∧ (dl [] W).take (beg W j) ++ (dl [] W).drop (beg W (j + 1)) = dl [] (W.take (beg W j) ++ W.drop (beg W (j + 1))) := by
  obtain ⟨l1, l2, l3, l4, l5, l6⟩ := w.lit hj
  have hl := w.2.1
  obtain ⟨c, r, b1, b2, -⟩ := beg_at W 0 j w.1 hj
  have wb := w.1
  rw [← List.take_append_drop (beg W j) W] at wb
  obtain ⟨wL, wB⟩ := wf_cut _ _ 0 wb (Or.inr ⟨c, r, b1, b2⟩)
  have we := w.1
  rw [← List.take_append_drop (beg W (j + 1)) W] at we
  obtain ⟨wE, wM⟩ := wf_cut _ _ 0 we (by
    by_cases z : j + 1 < nlit W
    · obtain ⟨c, r, b1, b2, -⟩ := beg_at W 0 (j + 1) w.1 z
      exact Or.inr ⟨c, r, b1, b2⟩
    · left
      rw [beg_out W (j + 1) (by omega), List.drop_length])
  have dL : (dl [] W).take (beg W j) = dl [] (W.take (beg W j)) := by
    have := dl_wf (W.take (beg W j)) [] (W.drop (beg W j)) wL wB
    rw [List.take_append_drop] at this
    have hlen : (dl [] (W.take (beg W j))).length = beg W j := by rw [dl_len, List.length_take]; omega
    rw [this, List.take_append_of_le_length (by omega), List.take_of_length_le (by omega)]
  have dM : (dl [] W).drop (beg W (j + 1)) = dl [] (W.drop (beg W (j + 1))) := by
    have := dl_wf (W.take (beg W (j + 1))) [] (W.drop (beg W (j + 1))) wE wM
    rw [List.take_append_drop] at this
    have hlen : (dl [] (W.take (beg W (j + 1)))).length = beg W (j + 1) := by rw [dl_len, List.length_take]; omega
    rw [this, List.drop_append_of_le_length (by omega), List.drop_eq_nil_of_le (by omega), List.nil_append]
  have wR := wf_app _ 0 _ wL wM
  have eR : (dl [] W).take (beg W j) ++ (dl [] W).drop (beg W (j + 1)) = dl [] (W.take (beg W j) ++ W.drop (beg W (j + 1))) := by
    rw [dL, dM, dl_wf _ [] _ wL wM]
  have lenR : (W.take (beg W j) ++ W.drop (beg W (j + 1))).length ≤ 30 := by
    rw [List.length_append, List.length_take, List.length_drop]
    omega
  refine ⟨⟨wR, lenR, ?_, fun i hi => ?_⟩, eR⟩
  · have n1 := nlit_app (W.take (beg W j)) (W.drop (beg W j))
    rw [List.take_append_drop] at n1
    have n2 := nlit_drop (W.drop (beg W j)) (beg W (j + 1) - beg W j)
    rw [List.drop_drop, show beg W j + (beg W (j + 1) - beg W j) = beg W (j + 1) by omega] at n2
    rw [nlit_app]
    have := w.2.2.1
    omega
  · rw [← dep_dl wR hi, ← eR]
    have hm : cd ((dl [] W).take (beg W j) ++ (dl [] W).drop (beg W (j + 1))) i ∈ (dl [] W).take (beg W j) ++ (dl [] W).drop (beg W (j + 1)) := cd_mem (by rw [eR, dl_len]; exact hi)
    have key : ∀ y ∈ dl [] W, y ≤ 5 := by
      intro y hy
      obtain ⟨n, hn, e⟩ := List.getElem_of_mem hy
      have hn' : n < W.length := by rw [dl_len] at hn; exact hn
      have := w.2.2.2 n hn'
      rw [← dep_dl w.1 hn'] at this
      unfold cd at this
      rw [List.getD_eq_getElem?_getD, List.getElem?_eq_getElem hn] at this
      rw [← e]
      exact this
    rcases List.mem_append.mp hm with z | z
    · exact key _ (List.mem_of_mem_take z)
    · exact key _ (List.mem_of_mem_drop z)
section
variable {h h' : mh} {K : Ks} {O : List Nat} {n : Nat} {H : Sh} {I : Im} {T : List Nat} {fk fp : Int32}
theorem CS.sw (c : CS h K O n H I T fk fp) (f : Fc W6 V11 h h') (dc : DC0 h') : CS h' K O n H I T fk fp := by
  obtain ⟨s1, s2, s3, s4, s5, s6, s7, s8, s9, s10⟩ := c
  have tT := s1.1.2.2
  have im' : ∀ x k, W6 x k → ¬ im x := fun x k z => by unfold W6 at z; unfold im; omega
  have vk : ∀ x k, V11 x k → Vk x k := fun x k z => by rw [Vk_iff]; unfold V11 at z; omega
  refine ⟨s1.fr f im' vk (by unfold V11; omega) (fun k => by unfold V11; omega), s2.fr f tT (by unfold W6; omega) (fun k => by unfold W6; omega), s3.fr f tT im' vk (fun a k h1 h2 => by unfold W6; omega) (fun a k h1 h2 => by unfold V11; omega), s4.fr f tT im' vk (fun a k h1 h2 => by unfold W6; omega) (fun a k h1 h2 => by unfold V11; omega) (fun k => by unfold V11; omega), s5.fr f tT (by unfold W6; omega) (fun k => by unfold W6; omega), by rw [f.1 _ _ (by omega) (by unfold W6; omega)]; exact s6, by rw [f.1 _ _ (by omega) (by unfold W6; omega)]; exact s7, s8.fr f tT (fun a k h1 h2 => by unfold W6; omega), ⟨dc, ?_⟩, s10⟩
  exact ⟨by rw [(f.2.2.1 2 (by omega)).1]; exact s9.2.1, by rw [(f.2.2.1 2 (by omega)).2]; exact s9.2.2.1, fun i hi => by rw [f.1 _ _ (by omega) (by unfold W6; omega)]; exact s9.2.2.2 i hi⟩
end
theorem s_factorN {A W' : List Nat} {i j k d : Nat} {e : Int32} (k9 : ∀ g, Lay g → RPt g A → ∃ g', (∀ p4 p5 p6 p7 p8, N_unites_2 (d + 5) 128 (nI i) (nI j) (nI 1) p4 p5 p6 p7 p8 g = some (some (vi e), g')) ∧ Fi Wpu g g' ∧ (e = nI 0 → RPt g' W')) (hk : k ≤ 24) (w : WF A) {g : mh} (hL : Lay g) (m : MC g 129 0 k A) :
    (¬ e = 0 → ∃ g', N_factor_56 (d + 6) 128 (nI k) (nI i) (nI j) (nI 0) none none none (msi g 128 17 (nI 0)) = some (some (vi e), g') ∧ Fi Wm g g') ∧
    (e = nI 0 → WF W' → j < nlit W' → ∃ g1 g', N_factor_56 (d + 6) 128 (nI k) (nI i) (nI j) (nI 0) none none none (msi g 128 17 (nI 0)) = some (some (vi (nI (nlit (W'.take (beg W' j) ++ W'.drop (beg W' (j + 1)))))), g') ∧ Fi Wm g g1 ∧ Fi (fun x j => x = 129 ∧ 32 * 24 ≤ j ∧ j < 32 * 24 + 32) g1 g' ∧ MC g' 129 0 24 (W'.take (beg W' j) ++ W'.drop (beg W' (j + 1)))) := by
  have hA := w.2.1
  obtain ⟨G, hG⟩ : ∃ G, G = msi g 128 17 (nI 0) := ⟨_, rfl⟩
  have f0 : Fi Wm g G := by rw [hG]; exact Fi.si (Or.inr (by omega))
  have r0 : RPt G [] := ⟨by rw [hG, mI_si, if_pos ⟨rfl, rfl⟩]; rfl, by decide, fun i hi => absurd hi (Nat.not_lt_zero _)⟩
  have l0 := f0.lay hL
  have m0 : MC G 129 0 k A := m.fi w f0 Wm_129
  obtain ⟨g1, e1, f1, r1⟩ := s_factor56 hk hA (d + 5) (nI i) (nI j) none none none A 0 [] G rfl (Nat.zero_le _) l0 m0 r0 (by show 0 + A.length < 1900; omega)
  have r1 : RPt g1 A := r1
  have l1 := f1.lay l0
  have m1 : MC g1 129 0 k A := m0.fi w (Wpt_m f1) Wm_129
  have e2 := s_longOf l1 (d + 5) (k := k) hk
  rw [m1.at0.2.1] at e2
  obtain ⟨g2, u1, u2, u3⟩ := k9 g1 l1 r1
  have l2 := u2.lay l1
  have fm2 : Fi Wm g g2 := (f0.tr (Wpt_m f1)).tr (u2.mo (fun x k z => by unfold Wpu at z; unfold Wm; omega))
  have e3 : N_unites (d + 6) 128 (nI i) (nI j) g1 = some (some (vi e), g2) := by
    rw [e_N_unites]
    exact u1 _ _ _ _ _
  rw [← hG, e1]
  refine ⟨fun ne => ⟨g2, ?_, fm2⟩, fun e0 wW hjn => ?_⟩
  · rw [e_N_factor_56]
    repeat (first | with_reducible refine hE ?_ | with_reducible refine hLi ?_ | (with_reducible apply hI; · (first | exact e2 | exact e3 | (simp (disch := omega) only [lk_128 l1, ne, qadd, qmul, qcl, qle, qlt, qeq, qlt0, q0le, qeq0, qle0, q0lt, true_or, or_true, false_or, or_false, true_and, and_true, false_and, and_false, eq_self, not_true_eq_false, not_false_eq_true, qz0, qz1, q00, q01, q10, q11, zb_z, zb_0, zb_1, zor, Bool.true_eq_false, Bool.false_eq_true, Bool.and_true, Bool.and_false, Bool.true_and, Bool.false_and, Bool.or_true, Bool.or_false, Bool.true_or, Bool.false_or, decide_eq_true_eq, decide_eq_false_iff_not, reduceCtorEq]; first | exact e2 | exact e3))) | (with_reducible apply hP; · (first | exact e2 | exact e3 | (simp (disch := omega) only [lk_128 l1, ne, qadd, qmul, qcl, qle, qlt, qeq, qlt0, q0le, qeq0, qle0, q0lt, true_or, or_true, false_or, or_false, true_and, and_true, false_and, and_false, eq_self, not_true_eq_false, not_false_eq_true, qz0, qz1, q00, q01, q10, q11, zb_z, zb_0, zb_1, zor, Bool.true_eq_false, Bool.false_eq_true, Bool.and_true, Bool.and_false, Bool.true_and, Bool.false_and, Bool.or_true, Bool.or_false, Bool.true_or, Bool.false_or, decide_eq_true_eq, decide_eq_false_iff_not, reduceCtorEq]; first | exact e2 | exact e3))) | (with_reducible apply hV; · (first | exact e2 | exact e3 | (simp (disch := omega) only [lk_128 l1, ne, qadd, qmul, qcl, qle, qlt, qeq, qlt0, q0le, qeq0, qle0, q0lt, true_or, or_true, false_or, or_false, true_and, and_true, false_and, and_false, eq_self, not_true_eq_false, not_false_eq_true, qz0, qz1, q00, q01, q10, q11, zb_z, zb_0, zb_1, zor, Bool.true_eq_false, Bool.false_eq_true, Bool.and_true, Bool.and_false, Bool.true_and, Bool.false_and, Bool.or_true, Bool.or_false, Bool.true_or, Bool.false_or, decide_eq_true_eq, decide_eq_false_iff_not, reduceCtorEq]; first | exact e2 | exact e3))) | (with_reducible apply hT; · (first | omega | (simp (disch := omega) only [lk_128 l1, ne, qadd, qmul, qcl, qle, qlt, qeq, qlt0, q0le, qeq0, qle0, q0lt, true_or, or_true, false_or, or_false, true_and, and_true, false_and, and_false, eq_self, not_true_eq_false, not_false_eq_true, qz0, qz1, q00, q01, q10, q11, zb_z, zb_0, zb_1, zor, Bool.true_eq_false, Bool.false_eq_true, Bool.and_true, Bool.and_false, Bool.true_and, Bool.false_and, Bool.or_true, Bool.or_false, Bool.true_or, Bool.false_or, decide_eq_true_eq, decide_eq_false_iff_not, reduceCtorEq]; done) | (simp (disch := omega) only [lk_128 l1, ne, qadd, qmul, qcl, qle, qlt, qeq, qlt0, q0le, qeq0, qle0, q0lt, true_or, or_true, false_or, or_false, true_and, and_true, false_and, and_false, eq_self, not_true_eq_false, not_false_eq_true, qz0, qz1, q00, q01, q10, q11, zb_z, zb_0, zb_1, zor, Bool.true_eq_false, Bool.false_eq_true, Bool.and_true, Bool.and_false, Bool.true_and, Bool.false_and, Bool.or_true, Bool.or_false, Bool.true_or, Bool.false_or, decide_eq_true_eq, decide_eq_false_iff_not, reduceCtorEq]; omega))) | (with_reducible apply hF; · (first | omega | (simp (disch := omega) only [lk_128 l1, ne, qadd, qmul, qcl, qle, qlt, qeq, qlt0, q0le, qeq0, qle0, q0lt, true_or, or_true, false_or, or_false, true_and, and_true, false_and, and_false, eq_self, not_true_eq_false, not_false_eq_true, qz0, qz1, q00, q01, q10, q11, zb_z, zb_0, zb_1, zor, Bool.true_eq_false, Bool.false_eq_true, Bool.and_true, Bool.and_false, Bool.true_and, Bool.false_and, Bool.or_true, Bool.or_false, Bool.true_or, Bool.false_or, decide_eq_true_eq, decide_eq_false_iff_not, reduceCtorEq]; done) | (simp (disch := omega) only [lk_128 l1, ne, qadd, qmul, qcl, qle, qlt, qeq, qlt0, q0le, qeq0, qle0, q0lt, true_or, or_true, false_or, or_false, true_and, and_true, false_and, and_false, eq_self, not_true_eq_false, not_false_eq_true, qz0, qz1, q00, q01, q10, q11, zb_z, zb_0, zb_1, zor, Bool.true_eq_false, Bool.false_eq_true, Bool.and_true, Bool.and_false, Bool.true_and, Bool.false_and, Bool.or_true, Bool.or_false, Bool.true_or, Bool.false_or, decide_eq_true_eq, decide_eq_false_iff_not, reduceCtorEq]; omega))))
    rfl
  · have r2 := u3 e0
    subst e0
    have hW := wW.2.1
    obtain ⟨b1, b2, b3, b4, b5, b6⟩ := wW.lit hjn
    have e4 := s_putBegin l2 r2 hW (cd_1000 wW.1) hjn (d + 5)
    have e5 := s_pastPut l2 r2 hW (cd_1000 wW.1) wW.1 b1 (d + 4)
    rw [b4] at e5
    obtain ⟨G3, hG3⟩ : ∃ G3, G3 = msi g2 128 10 (nI 0) := ⟨_, rfl⟩
    have f3 : Fi Wm g2 G3 := by rw [hG3]; exact Fi.si (Or.inr (by omega))
    have l3 := f3.lay l2
    have r3 : RPt G3 W' := ⟨by rw [hG3, mI_si, if_neg (by omega)]; exact r2.1, r2.2.1, fun x hx h30 => by rw [hG3, mI_si, if_neg (by omega)]; exact r2.2.2 x hx h30⟩
    obtain ⟨g4, e6, f4, a4, c4⟩ := s_factor91 hW (b := beg W' j) (e := beg W' (j + 1)) (by omega) (by omega) (d + 5) (some (vi (nI k))) (some (vi (nI i))) (some (vi (nI j))) (some (vi (nI 0))) W'.length 0 [] G3 (Nat.zero_add _) l3 r3 (by rw [hG3, mI_si, if_pos ⟨rfl, rfl⟩]; rfl) (Nat.le_refl _) (fun y hy => absurd hy (Nat.not_lt_zero _))
    rw [List.nil_append, wo_is (by omega) b5] at a4 c4
    obtain ⟨wR, -⟩ := wo_wf wW hjn
    have l4 := f4.lay l3
    have r17 : mI g4 128 17 = nI W'.length := by rw [f4.2 _ _ (by unfold W91; omega)]; exact r3.1
    obtain ⟨g5, e7, f5, mc⟩ := s_keeps (Nat.le_refl 24) wR.2.1 l4 a4 c4 (d + 5)
    have l5 := f5.lay l4
    have e8 := s_literalMany l5 (d + 4) (Nat.le_refl 24) wR mc
    refine ⟨g4, g5, ?_, (fm2.tr f3).tr (f4.mo (fun x k z => by unfold W91 at z; unfold Wm; omega)), f5, mc⟩
    rw [e_N_factor_56]
    repeat (first | with_reducible refine hE ?_ | with_reducible refine hLi ?_ | (with_reducible apply hI; · (first | exact e2 | exact e3 | exact e4 | exact e5 | (simp (disch := omega) only [lk_128 l1, lk_128 l2, qadd, qmul, qcl, qle, qlt, qeq, qlt0, q0le, qeq0, qle0, q0lt, true_or, or_true, false_or, or_false, true_and, and_true, false_and, and_false, eq_self, not_true_eq_false, not_false_eq_true, qz0, qz1, q00, q01, q10, q11, zb_z, zb_0, zb_1, zor, Bool.true_eq_false, Bool.false_eq_true, Bool.and_true, Bool.and_false, Bool.true_and, Bool.false_and, Bool.or_true, Bool.or_false, Bool.true_or, Bool.false_or, decide_eq_true_eq, decide_eq_false_iff_not, reduceCtorEq]; first | exact e2 | exact e3 | exact e4 | exact e5))) | (with_reducible apply hP; · (first | exact e2 | exact e3 | exact e4 | exact e5 | (simp (disch := omega) only [lk_128 l1, lk_128 l2, qadd, qmul, qcl, qle, qlt, qeq, qlt0, q0le, qeq0, qle0, q0lt, true_or, or_true, false_or, or_false, true_and, and_true, false_and, and_false, eq_self, not_true_eq_false, not_false_eq_true, qz0, qz1, q00, q01, q10, q11, zb_z, zb_0, zb_1, zor, Bool.true_eq_false, Bool.false_eq_true, Bool.and_true, Bool.and_false, Bool.true_and, Bool.false_and, Bool.or_true, Bool.or_false, Bool.true_or, Bool.false_or, decide_eq_true_eq, decide_eq_false_iff_not, reduceCtorEq]; first | exact e2 | exact e3 | exact e4 | exact e5))) | (with_reducible apply hV; · (first | exact e2 | exact e3 | exact e4 | exact e5 | (simp (disch := omega) only [lk_128 l1, lk_128 l2, qadd, qmul, qcl, qle, qlt, qeq, qlt0, q0le, qeq0, qle0, q0lt, true_or, or_true, false_or, or_false, true_and, and_true, false_and, and_false, eq_self, not_true_eq_false, not_false_eq_true, qz0, qz1, q00, q01, q10, q11, zb_z, zb_0, zb_1, zor, Bool.true_eq_false, Bool.false_eq_true, Bool.and_true, Bool.and_false, Bool.true_and, Bool.false_and, Bool.or_true, Bool.or_false, Bool.true_or, Bool.false_or, decide_eq_true_eq, decide_eq_false_iff_not, reduceCtorEq]; first | exact e2 | exact e3 | exact e4 | exact e5))) | (with_reducible apply hT; · (first | omega | (simp (disch := omega) only [lk_128 l1, lk_128 l2, qadd, qmul, qcl, qle, qlt, qeq, qlt0, q0le, qeq0, qle0, q0lt, true_or, or_true, false_or, or_false, true_and, and_true, false_and, and_false, eq_self, not_true_eq_false, not_false_eq_true, qz0, qz1, q00, q01, q10, q11, zb_z, zb_0, zb_1, zor, Bool.true_eq_false, Bool.false_eq_true, Bool.and_true, Bool.and_false, Bool.true_and, Bool.false_and, Bool.or_true, Bool.or_false, Bool.true_or, Bool.false_or, decide_eq_true_eq, decide_eq_false_iff_not, reduceCtorEq]; done) | (simp (disch := omega) only [lk_128 l1, lk_128 l2, qadd, qmul, qcl, qle, qlt, qeq, qlt0, q0le, qeq0, qle0, q0lt, true_or, or_true, false_or, or_false, true_and, and_true, false_and, and_false, eq_self, not_true_eq_false, not_false_eq_true, qz0, qz1, q00, q01, q10, q11, zb_z, zb_0, zb_1, zor, Bool.true_eq_false, Bool.false_eq_true, Bool.and_true, Bool.and_false, Bool.true_and, Bool.false_and, Bool.or_true, Bool.or_false, Bool.true_or, Bool.false_or, decide_eq_true_eq, decide_eq_false_iff_not, reduceCtorEq]; omega))) | (with_reducible apply hF; · (first | omega | (simp (disch := omega) only [lk_128 l1, lk_128 l2, qadd, qmul, qcl, qle, qlt, qeq, qlt0, q0le, qeq0, qle0, q0lt, true_or, or_true, false_or, or_false, true_and, and_true, false_and, and_false, eq_self, not_true_eq_false, not_false_eq_true, qz0, qz1, q00, q01, q10, q11, zb_z, zb_0, zb_1, zor, Bool.true_eq_false, Bool.false_eq_true, Bool.and_true, Bool.and_false, Bool.true_and, Bool.false_and, Bool.or_true, Bool.or_false, Bool.true_or, Bool.false_or, decide_eq_true_eq, decide_eq_false_iff_not, reduceCtorEq]; done) | (simp (disch := omega) only [lk_128 l1, lk_128 l2, qadd, qmul, qcl, qle, qlt, qeq, qlt0, q0le, qeq0, qle0, q0lt, true_or, or_true, false_or, or_false, true_and, and_true, false_and, and_false, eq_self, not_true_eq_false, not_false_eq_true, qz0, qz1, q00, q01, q10, q11, zb_z, zb_0, zb_1, zor, Bool.true_eq_false, Bool.false_eq_true, Bool.and_true, Bool.and_false, Bool.true_and, Bool.false_and, Bool.or_true, Bool.or_false, Bool.true_or, Bool.false_or, decide_eq_true_eq, decide_eq_false_iff_not, reduceCtorEq]; omega))))
    rw [← hG3, e6, e_N_factor_91]
    repeat (first | with_reducible refine hE ?_ | with_reducible refine hLi ?_ | (with_reducible apply hI; · (first | exact e7 | exact e8 | (simp (disch := omega) only [lk_128 l4, lk_128 l5, r17, qadd, qmul, qcl, qle, qlt, qeq, qlt0, q0le, qeq0, qle0, q0lt, true_or, or_true, false_or, or_false, true_and, and_true, false_and, and_false, eq_self, not_true_eq_false, not_false_eq_true, qz0, qz1, q00, q01, q10, q11, zb_z, zb_0, zb_1, zor, Bool.true_eq_false, Bool.false_eq_true, Bool.and_true, Bool.and_false, Bool.true_and, Bool.false_and, Bool.or_true, Bool.or_false, Bool.true_or, Bool.false_or, decide_eq_true_eq, decide_eq_false_iff_not, reduceCtorEq]; first | exact e7 | exact e8))) | (with_reducible apply hP; · (first | exact e7 | exact e8 | (simp (disch := omega) only [lk_128 l4, lk_128 l5, r17, qadd, qmul, qcl, qle, qlt, qeq, qlt0, q0le, qeq0, qle0, q0lt, true_or, or_true, false_or, or_false, true_and, and_true, false_and, and_false, eq_self, not_true_eq_false, not_false_eq_true, qz0, qz1, q00, q01, q10, q11, zb_z, zb_0, zb_1, zor, Bool.true_eq_false, Bool.false_eq_true, Bool.and_true, Bool.and_false, Bool.true_and, Bool.false_and, Bool.or_true, Bool.or_false, Bool.true_or, Bool.false_or, decide_eq_true_eq, decide_eq_false_iff_not, reduceCtorEq]; first | exact e7 | exact e8))) | (with_reducible apply hV; · (first | exact e7 | exact e8 | (simp (disch := omega) only [lk_128 l4, lk_128 l5, r17, qadd, qmul, qcl, qle, qlt, qeq, qlt0, q0le, qeq0, qle0, q0lt, true_or, or_true, false_or, or_false, true_and, and_true, false_and, and_false, eq_self, not_true_eq_false, not_false_eq_true, qz0, qz1, q00, q01, q10, q11, zb_z, zb_0, zb_1, zor, Bool.true_eq_false, Bool.false_eq_true, Bool.and_true, Bool.and_false, Bool.true_and, Bool.false_and, Bool.or_true, Bool.or_false, Bool.true_or, Bool.false_or, decide_eq_true_eq, decide_eq_false_iff_not, reduceCtorEq]; first | exact e7 | exact e8))) | (with_reducible apply hT; · (first | omega | (simp (disch := omega) only [lk_128 l4, lk_128 l5, r17, qadd, qmul, qcl, qle, qlt, qeq, qlt0, q0le, qeq0, qle0, q0lt, true_or, or_true, false_or, or_false, true_and, and_true, false_and, and_false, eq_self, not_true_eq_false, not_false_eq_true, qz0, qz1, q00, q01, q10, q11, zb_z, zb_0, zb_1, zor, Bool.true_eq_false, Bool.false_eq_true, Bool.and_true, Bool.and_false, Bool.true_and, Bool.false_and, Bool.or_true, Bool.or_false, Bool.true_or, Bool.false_or, decide_eq_true_eq, decide_eq_false_iff_not, reduceCtorEq]; done) | (simp (disch := omega) only [lk_128 l4, lk_128 l5, r17, qadd, qmul, qcl, qle, qlt, qeq, qlt0, q0le, qeq0, qle0, q0lt, true_or, or_true, false_or, or_false, true_and, and_true, false_and, and_false, eq_self, not_true_eq_false, not_false_eq_true, qz0, qz1, q00, q01, q10, q11, zb_z, zb_0, zb_1, zor, Bool.true_eq_false, Bool.false_eq_true, Bool.and_true, Bool.and_false, Bool.true_and, Bool.false_and, Bool.or_true, Bool.or_false, Bool.true_or, Bool.false_or, decide_eq_true_eq, decide_eq_false_iff_not, reduceCtorEq]; omega))) | (with_reducible apply hF; · (first | omega | (simp (disch := omega) only [lk_128 l4, lk_128 l5, r17, qadd, qmul, qcl, qle, qlt, qeq, qlt0, q0le, qeq0, qle0, q0lt, true_or, or_true, false_or, or_false, true_and, and_true, false_and, and_false, eq_self, not_true_eq_false, not_false_eq_true, qz0, qz1, q00, q01, q10, q11, zb_z, zb_0, zb_1, zor, Bool.true_eq_false, Bool.false_eq_true, Bool.and_true, Bool.and_false, Bool.true_and, Bool.false_and, Bool.or_true, Bool.or_false, Bool.true_or, Bool.false_or, decide_eq_true_eq, decide_eq_false_iff_not, reduceCtorEq]; done) | (simp (disch := omega) only [lk_128 l4, lk_128 l5, r17, qadd, qmul, qcl, qle, qlt, qeq, qlt0, q0le, qeq0, qle0, q0lt, true_or, or_true, false_or, or_false, true_and, and_true, false_and, and_false, eq_self, not_true_eq_false, not_false_eq_true, qz0, qz1, q00, q01, q10, q11, zb_z, zb_0, zb_1, zor, Bool.true_eq_false, Bool.false_eq_true, Bool.and_true, Bool.and_false, Bool.true_and, Bool.false_and, Bool.or_true, Bool.or_false, Bool.true_or, Bool.false_or, decide_eq_true_eq, decide_eq_false_iff_not, reduceCtorEq]; omega))))
    rfl
