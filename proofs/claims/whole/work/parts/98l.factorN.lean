/-! ===== two literals are made the same, both sides ===== -/
section
variable {W : List Nat} {i j o : Nat}
/-- the reference goes one symbol further -/
theorem s_unNx (a : AG W i j (o + 1)) {g : mh} (hL : Lay g) (r : RPt g W) (d : Nat) {R : Option mR} (nx : ∀ p4 p5 p6 p7 p8, N_unites_2 (d + 4) 128 (nI i) (nI j) (nI (o + 1)) p4 p5 p6 p7 p8 g = R) (p4 p5 p6 p7 p8 : Option mv) : N_unites_2 (d + 4) 128 (nI i) (nI j) (nI o) p4 p5 p6 p7 p8 g = R := by
  have e0 := a.end
  obtain ⟨w, hi, hj, hx, ho⟩ := a
  have li := w.lit hi
  have lj := w.lit hj
  have hl := w.2.1
  have e1 := s_putBegin hL r hl (cd_1000 w.1) hi (d + 3)
  have e2 := s_putBegin hL r hl (cd_1000 w.1) hj (d + 3)
  have e3 := s_pastPut hL r hl (cd_1000 w.1) w.1 li.1 (d + 2)
  rw [li.2.2.2.1] at e3
  have hi1 := li.2.2.2.2.1
  have hj1 := lj.2.2.2.2.1
  have hxo := hx o (by omega)
  have c1 := cd_1000 w.1 (beg W i + o)
  have c2 := cd_1000 w.1 (beg W j + o)
  have rp := r.2.2 (beg W i + o) (by omega) (by omega)
  have rq := r.2.2 (beg W j + o) (by omega) (by omega)
  rw [e_N_unites_2]
  repeat (first | with_reducible refine hE ?_ | with_reducible refine hLi ?_ | (with_reducible apply hI; · (first | exact e1 | exact e2 | exact e3 | (simp (disch := omega) only [lk_128 hL, lp_128_16 hL, lk_134 hL, ln_134 hL, rp, rq, qadd, qmul, qcl, qle, qlt, qeq, qlt0, q0le, qeq0, qle0, q0lt, true_or, or_true, false_or, or_false, true_and, and_true, false_and, and_false, eq_self, not_true_eq_false, not_false_eq_true, qz0, qz1, q00, q01, q10, q11, zb_z, zb_0, zb_1, zor, Bool.true_eq_false, Bool.false_eq_true, Bool.and_true, Bool.and_false, Bool.true_and, Bool.false_and, Bool.or_true, Bool.or_false, Bool.true_or, Bool.false_or, decide_eq_true_eq, decide_eq_false_iff_not, reduceCtorEq]; first | exact e1 | exact e2 | exact e3))) | (with_reducible apply hP; · (first | exact e1 | exact e2 | exact e3 | (simp (disch := omega) only [lk_128 hL, lp_128_16 hL, lk_134 hL, ln_134 hL, rp, rq, qadd, qmul, qcl, qle, qlt, qeq, qlt0, q0le, qeq0, qle0, q0lt, true_or, or_true, false_or, or_false, true_and, and_true, false_and, and_false, eq_self, not_true_eq_false, not_false_eq_true, qz0, qz1, q00, q01, q10, q11, zb_z, zb_0, zb_1, zor, Bool.true_eq_false, Bool.false_eq_true, Bool.and_true, Bool.and_false, Bool.true_and, Bool.false_and, Bool.or_true, Bool.or_false, Bool.true_or, Bool.false_or, decide_eq_true_eq, decide_eq_false_iff_not, reduceCtorEq]; first | exact e1 | exact e2 | exact e3))) | (with_reducible apply hV; · (first | exact e1 | exact e2 | exact e3 | (simp (disch := omega) only [lk_128 hL, lp_128_16 hL, lk_134 hL, ln_134 hL, rp, rq, qadd, qmul, qcl, qle, qlt, qeq, qlt0, q0le, qeq0, qle0, q0lt, true_or, or_true, false_or, or_false, true_and, and_true, false_and, and_false, eq_self, not_true_eq_false, not_false_eq_true, qz0, qz1, q00, q01, q10, q11, zb_z, zb_0, zb_1, zor, Bool.true_eq_false, Bool.false_eq_true, Bool.and_true, Bool.and_false, Bool.true_and, Bool.false_and, Bool.or_true, Bool.or_false, Bool.true_or, Bool.false_or, decide_eq_true_eq, decide_eq_false_iff_not, reduceCtorEq]; first | exact e1 | exact e2 | exact e3))) | (with_reducible apply hT; · (first | omega | (simp (disch := omega) only [lk_128 hL, lp_128_16 hL, lk_134 hL, ln_134 hL, rp, rq, qadd, qmul, qcl, qle, qlt, qeq, qlt0, q0le, qeq0, qle0, q0lt, true_or, or_true, false_or, or_false, true_and, and_true, false_and, and_false, eq_self, not_true_eq_false, not_false_eq_true, qz0, qz1, q00, q01, q10, q11, zb_z, zb_0, zb_1, zor, Bool.true_eq_false, Bool.false_eq_true, Bool.and_true, Bool.and_false, Bool.true_and, Bool.false_and, Bool.or_true, Bool.or_false, Bool.true_or, Bool.false_or, decide_eq_true_eq, decide_eq_false_iff_not, reduceCtorEq]; done) | (simp (disch := omega) only [lk_128 hL, lp_128_16 hL, lk_134 hL, ln_134 hL, rp, rq, qadd, qmul, qcl, qle, qlt, qeq, qlt0, q0le, qeq0, qle0, q0lt, true_or, or_true, false_or, or_false, true_and, and_true, false_and, and_false, eq_self, not_true_eq_false, not_false_eq_true, qz0, qz1, q00, q01, q10, q11, zb_z, zb_0, zb_1, zor, Bool.true_eq_false, Bool.false_eq_true, Bool.and_true, Bool.and_false, Bool.true_and, Bool.false_and, Bool.or_true, Bool.or_false, Bool.true_or, Bool.false_or, decide_eq_true_eq, decide_eq_false_iff_not, reduceCtorEq]; omega))) | (with_reducible apply hF; · (first | omega | (simp (disch := omega) only [lk_128 hL, lp_128_16 hL, lk_134 hL, ln_134 hL, rp, rq, qadd, qmul, qcl, qle, qlt, qeq, qlt0, q0le, qeq0, qle0, q0lt, true_or, or_true, false_or, or_false, true_and, and_true, false_and, and_false, eq_self, not_true_eq_false, not_false_eq_true, qz0, qz1, q00, q01, q10, q11, zb_z, zb_0, zb_1, zor, Bool.true_eq_false, Bool.false_eq_true, Bool.and_true, Bool.and_false, Bool.true_and, Bool.false_and, Bool.or_true, Bool.or_false, Bool.true_or, Bool.false_or, decide_eq_true_eq, decide_eq_false_iff_not, reduceCtorEq]; done) | (simp (disch := omega) only [lk_128 hL, lp_128_16 hL, lk_134 hL, ln_134 hL, rp, rq, qadd, qmul, qcl, qle, qlt, qeq, qlt0, q0le, qeq0, qle0, q0lt, true_or, or_true, false_or, or_false, true_and, and_true, false_and, and_false, eq_self, not_true_eq_false, not_false_eq_true, qz0, qz1, q00, q01, q10, q11, zb_z, zb_0, zb_1, zor, Bool.true_eq_false, Bool.false_eq_true, Bool.and_true, Bool.and_false, Bool.true_and, Bool.false_and, Bool.or_true, Bool.or_false, Bool.true_or, Bool.false_or, decide_eq_true_eq, decide_eq_false_iff_not, reduceCtorEq]; omega))))
  rw [qadd]
  exact nx _ _ _ _ _
/-- what comes of it: the class's answer e, the codes W' -/
def SM (i j d o : Nat) (W : List Nat) (h : mh) : Prop := ∃ e W' w' q' h', (∀ o4 o5 o6, C_makeSame_2 (d + 5) 3 (nI i) (nI j) (nI o) o4 o5 o6 h = some (some (vi e), h')) ∧ Fc W6 V11 h h' ∧ mT h' = mT h ∧ mU h' = mU h ∧ ((w' = 110 ∧ q' = 113) ∨ (w' = 113 ∧ q' = 110)) ∧ mP h' 3 11 = w' ∧ mP h' 3 12 = q' ∧ ((e = -5 ∨ e = -4) ∨ (e = nI 0 ∧ WF W' ∧ nlit W' = nlit W ∧ DR h' w' W' (dl [] W'))) ∧ ∀ g, Lay g → RPt g W → ∃ g', (∀ p4 p5 p6 p7 p8, N_unites_2 (d + 5) 128 (nI i) (nI j) (nI o) p4 p5 p6 p7 p8 g = some (some (vi e), g')) ∧ Fi Wpu g g' ∧ (e = nI 0 → RPt g' W')
def SI (i j d o : Nat) : Prop := ∀ (W : List Nat) (w q : Nat) (h : mh), AG W i j o → (w = 110 ∨ w = 113) → (q = 110 ∨ q = 113) → w ≠ q → Lay h → mP h 3 11 = w → mP h 3 12 = q → DR h w W (dl [] W) → SM i j d o W h
theorem ne5 : ¬ ((-5 : Int32) = 0) := by decide +kernel
theorem ne4 : ¬ ((-4 : Int32) = 0) := by decide +kernel
theorem ne5' : ¬ ((-5 : Int32) = nI 0) := by decide +kernel
theorem ne4' : ¬ ((-4 : Int32) = nI 0) := by decide +kernel
/-- a term of b's side is put for the variable at a's side -/
theorem s_samePut {a b w q d : Nat} {h : mh} (ih : SI i j d (o + 1)) (ag : AG W a b o) (h1o : 1 ≤ o) (h1 : beg W a + o < beg W (a + 1)) (back : ∀ W', AG W' a b (o + 1) → AG W' i j (o + 1)) (hv : iv (cd W (beg W a + o)) = true) (hw : w = 110 ∨ w = 113) (hq : q = 110 ∨ q = 113) (hne : w ≠ q) (hL : Lay h) (P11 : mP h 3 11 = w) (P12 : mP h 3 12 = q) (dr : DR h w W (dl [] W)) 
    (clsE : ∀ e h1, ¬ e = 0 → C_putWithin (d + 4) 3 (nI (cd W (beg W a + o))) (nI (beg W b + o)) h = some (some (vi e), h1) → ∀ o4 o5 o6, C_makeSame_2 (d + 5) 3 (nI i) (nI j) (nI o) o4 o5 o6 h = some (some (vi e), h1))
    (cls0 : ∀ h1 R, C_putWithin (d + 4) 3 (nI (cd W (beg W a + o))) (nI (beg W b + o)) h = some (some (vi (nI 0)), h1) → (∀ o4 o5 o6, C_makeSame_2 (d + 5) 3 (nI i) (nI j) (nI (o + 1)) o4 o5 o6 h1 = R) → ∀ o4 o5 o6, C_makeSame_2 (d + 5) 3 (nI i) (nI j) (nI o) o4 o5 o6 h = R)
    (refE : ∀ g e g1, Lay g → RPt g W → ¬ e = 0 → N_putsTerm (d + 5) 128 (nI (cd W (beg W a + o))) (nI (beg W b + o)) g = some (some (vi e), g1) → ∀ p4 p5 p6 p7 p8, N_unites_2 (d + 5) 128 (nI i) (nI j) (nI o) p4 p5 p6 p7 p8 g = some (some (vi e), g1))
    (ref0 : ∀ g g1 R, Lay g → RPt g W → N_putsTerm (d + 5) 128 (nI (cd W (beg W a + o))) (nI (beg W b + o)) g = some (some (vi (nI 0)), g1) → (∀ p4 p5 p6 p7 p8, N_unites_2 (d + 5) 128 (nI i) (nI j) (nI o) p4 p5 p6 p7 p8 g1 = R) → ∀ p4 p5 p6 p7 p8, N_unites_2 (d + 5) 128 (nI i) (nI j) (nI o) p4 p5 p6 p7 p8 g = R) : SM i j d o W h := by
  obtain ⟨e1, e2⟩ := ag.end
  have w0 := ag.1
  have ha := ag.2.1
  have hb := ag.2.2.1
  have la := w0.lit ha
  have lb := w0.lit hb
  have hl := w0.2.1
  have hbl : beg W b + o < W.length := by
    have := lb.2.2.2.2.1
    have : beg W b + o < beg W (b + 1) := by
      by_cases z : beg W (b + 1) = beg W b + o
      · have := e2.mpr z
        omega
      · omega
    omega
  have hb1 : beg W b + o < beg W (b + 1) := by
    by_cases z : beg W (b + 1) = beg W b + o
    · have := e2.mpr z
      omega
    · omega
  have hcb := lit_in w0 hb (x := beg W b + o) (by omega) hb1
  obtain ⟨v, hvv⟩ : ∃ v, v = cd W (beg W a + o) := ⟨_, rfl⟩
  rw [← hvv] at hv clsE cls0 refE ref0
  have hv2 := hv
  rw [iv_t] at hv2
  have v0 : ar v = 0 := by
    unfold ar
    rw [if_pos (by omega), if_neg (by omega), if_neg (by omega), if_neg (by omega)]
  obtain ⟨t, r, t1, t2, t3, t4, t5⟩ := own w0.1 hbl hcb
  have ht1 : 1 ≤ t.length := by
    have := endp_gt hbl
    omega
  have hwq : (w = 110 ∧ q = 113) ∨ (w = 113 ∧ q = 110) := by omega
  have pr := fun (g : mh) (hg : Lay g) (rg : RPt g W) => s_putsTerm (W := W) (t := t) (v := v) (p := beg W b + o) hv2.1 hv2.2 hl w0.1 hbl t2 t3 (fun i hi => (t5 i hi).1) hg rg (d + 1)
  rcases s_putWithin hv2.1 hv2.2 hw hq hne w0 hbl hcb t2 t3 t5 t4 hL P11 P12 dr d with ⟨x1, x2⟩ | ⟨x1, ⟨x2, h', x3, x4⟩ | ⟨x2, h', x3, x4, x5, x6, x7, x8, x9⟩⟩
  · refine ⟨-5, W, w, q, h, clsE _ _ ne5 x2, Fc.rf, rfl, rfl, hwq, P11, P12, Or.inl (Or.inl rfl), fun g hg rg => ?_⟩
    rcases pr g hg rg with ⟨y1, g', y2, y3⟩ | ⟨y1, -⟩
    · exact ⟨g', refE g _ _ hg rg ne5 y2, y3, fun z => absurd z ne5'⟩
    · obtain ⟨x, hx, hx2⟩ := x1
      exact absurd hx2 (y1 x hx)
  · refine ⟨-4, W, w, q, h', clsE _ _ ne4 x3, (Wdr_6 hq x4).c, x4.T, x4.U, hwq, by rw [x4.P]; exact P11, by rw [x4.P]; exact P12, Or.inl (Or.inr rfl), fun g hg rg => ?_⟩
    rcases pr g hg rg with ⟨⟨x, hx, hx2⟩, -⟩ | ⟨-, ⟨-, g', y2, y3⟩ | ⟨y, -⟩⟩
    · exact absurd hx2 (x1 x hx)
    · exact ⟨g', refE g _ _ hg rg ne4 y2, y3, fun z => absurd z ne4'⟩
    · exact absurd y x2
  · have ag' : AG (ins v t W) a b (o + 1) := ag.put h1 (by omega) v0 hvv.symm t2 ht1 x1 t1 x2
    have ag2 := back _ ag'
    have hL' : Lay h' := hL.fc x4 (fun x k z => by rw [Vk_iff]; unfold V11 at z; omega)
    have wn := (ins_wf (show v < 100 by omega) v0 t2 W 0 w0.1).2
    obtain ⟨e, W', w', q', h2, k1, k2, k3, k4, k5, k6, k7, k8, k9⟩ := ih (ins v t W) q w h' ag2 hq hw (fun z => hne z.symm) hL' x5 x6 x7
    refine ⟨e, W', w', q', h2, cls0 h' _ x3 k1, x4.tr k2, k3.trans x8, k4.trans x9, k5, k6, k7, ?_, fun g hg rg => ?_⟩
    · rcases k8 with z | ⟨z1, z2, z3, z4⟩
      · exact Or.inl z
      · exact Or.inr ⟨z1, z2, z3.trans wn, z4⟩
    · rcases pr g hg rg with ⟨⟨x, hx, hx2⟩, -⟩ | ⟨-, ⟨y, -⟩ | ⟨-, g1, y2, y3, y4⟩⟩
      · exact absurd hx2 (x1 x hx)
      · exact absurd x2 y
      · have hg1 := y3.lay hg
        obtain ⟨g', u1, u2, u3⟩ := k9 g1 hg1 y4
        exact ⟨g', ref0 g g1 _ hg rg y2 (s_unNx ag2 hg1 y4 (d + 1) u1), y3.tr u2, u3⟩
end
