/-! ===== frames with references; the class's State ===== -/
def Fc (W V : Nat → Nat → Prop) (h h' : mh) : Prop := (∀ a k, a < mT h → ¬ W a k → mI h' a k = mI h a k) ∧ (∀ a k, a < mT h → ¬ V a k → mP h' a k = mP h a k) ∧ (∀ a, a < mT h → mK h' a = mK h a ∧ mN h' a = mN h a) ∧ mT h ≤ mT h'
theorem Fi.c {W V : Nat → Nat → Prop} {h h' : mh} (f : Fi W h h') : Fc W V h h' := ⟨fun a k _ hn => f.2 a k hn, fun a k _ _ => f.P a k, fun a _ => ⟨f.K a, f.N a⟩, Nat.le_of_eq f.T.symm⟩
theorem Fc.rf {W V : Nat → Nat → Prop} {h : mh} : Fc W V h h := ⟨fun _ _ _ _ => rfl, fun _ _ _ _ => rfl, fun _ _ => ⟨rfl, rfl⟩, Nat.le_refl _⟩
theorem Fc.tr {W V : Nat → Nat → Prop} {h h1 h2 : mh} (a : Fc W V h h1) (b : Fc W V h1 h2) : Fc W V h h2 :=
  ⟨fun x k hx hn => (b.1 x k (Nat.lt_of_lt_of_le hx a.2.2.2) hn).trans (a.1 x k hx hn), fun x k hx hn => (b.2.1 x k (Nat.lt_of_lt_of_le hx a.2.2.2) hn).trans (a.2.1 x k hx hn), fun x hx => ⟨(b.2.2.1 x (Nat.lt_of_lt_of_le hx a.2.2.2)).1.trans (a.2.2.1 x hx).1, (b.2.2.1 x (Nat.lt_of_lt_of_le hx a.2.2.2)).2.trans (a.2.2.1 x hx).2⟩, Nat.le_trans a.2.2.2 b.2.2.2⟩
theorem Fc.mo {W V W' V' : Nat → Nat → Prop} {h h1 : mh} (a : Fc W V h h1) (hw : ∀ x k, W x k → W' x k) (hv : ∀ x k, V x k → V' x k) : Fc W' V' h h1 :=
  ⟨fun x k hx hn => a.1 x k hx (fun z => hn (hw x k z)), fun x k hx hn => a.2.1 x k hx (fun z => hn (hv x k z)), a.2.2.1, a.2.2.2⟩
theorem Fc.si {W V : Nat → Nat → Prop} {h : mh} {a k : Nat} {x : Int32} (hw : W a k) : Fc W V h (msi h a k x) := (Fi.si hw).c
theorem Fc.sp {W V : Nat → Nat → Prop} {h : mh} {a k x : Nat} (hv : V a k) : Fc W V h (msp h a k x) :=
  ⟨fun _ _ _ _ => rfl, fun b j _ hn => by rw [mP_sp, if_neg]; rintro ⟨rfl, rfl⟩; exact hn hv, fun _ _ => ⟨rfl, rfl⟩, Nat.le_refl _⟩
theorem Fc.nw {W V : Nat → Nat → Prop} {h : mh} {K n : Nat} : Fc W V h (mnw h K n) :=
  ⟨fun a k ha _ => by rw [mI_nw, if_neg (by omega)], fun a k ha _ => by rw [mP_nw, if_neg (by omega)], fun a ha => ⟨by rw [mK_nw, if_neg (by omega)], by rw [mN_nw, if_neg (by omega)]⟩, by rw [mT_nw]; omega⟩
theorem CW.fr {W V : Nat → Nat → Prop} {h h' : mh} {a : Nat} {cs : List Nat} (c : CW h a cs) (f : Fc W V h h') (hw : ∀ x k, W x k → ¬ im x) (hv : ∀ x k, V x k → ¬ im x) : CW h' a cs := by
  obtain ⟨c1, ⟨c2, c3, c4⟩, c5, c6, c7, c8, c9⟩ := c
  have eP : ∀ k, mP h' a k = mP h a k := fun k => f.2.1 a k c3 (fun z => hv a k z c2)
  have eI : ∀ k, k < 5 → ∀ j, mI h' (mP h a k) j = mI h (mP h a k) j := fun k hk j => f.1 _ _ (c4 k hk).2.1 (fun z => hw _ _ z (c4 k hk).1)
  have eN : ∀ k, k < 5 → mN h' (mP h a k) = mN h (mP h a k) := fun k hk => (f.2.2.1 _ (c4 k hk).2.1).2
  refine ⟨(f.2.2.1 a c3).1.trans c1, ⟨c2, Nat.lt_of_lt_of_le c3 f.2.2.2, fun k hk => ?_⟩, ?_⟩
  · rw [eP]
    exact ⟨(c4 k hk).1, Nat.lt_of_lt_of_le (c4 k hk).2.1 f.2.2.2, (f.2.2.1 _ (c4 k hk).2.1).1.trans (c4 k hk).2.2⟩
  · simp only [eP]
    rw [eN 0 (by omega), eN 1 (by omega), eN 2 (by omega), eN 3 (by omega), eN 4 (by omega)]
    refine ⟨⟨c5.1, fun i hi => ?_⟩, ⟨c6.1, fun i hi => ?_⟩, ⟨c7.1, fun i hi hc => ?_⟩, ⟨c8.1, fun i hi => ?_⟩, ⟨c9.1, fun i hi => ?_⟩⟩
    · rw [eI 0 (by omega)]; exact c5.2 i hi
    · rw [eI 1 (by omega)]; exact c6.2 i hi
    · rw [eI 2 (by omega)]; exact c7.2 i hi hc
    · rw [eI 3 (by omega)]; exact c8.2 i hi
    · rw [eI 4 (by omega)]; exact c9.2 i hi
theorem MC.fr {h h' : mh} {arr off k : Nat} {cs : List Nat} (m : MC h arr off k cs) (hl : cs.length ≤ 30) (he : ∀ j, off + 32 * k ≤ j → j < off + 32 * k + 32 → mI h' arr j = mI h arr j) : MC h' arr off k cs := by
  obtain ⟨h1, h2, h3⟩ := m
  refine ⟨by rw [he _ (by omega) (by omega)]; exact h1, by rw [he _ (by omega) (by omega)]; exact h2, fun i hi => ?_⟩
  rw [he _ (by omega) (by omega)]
  exact h3 i hi
theorem Bk.fr {W V : Nat → Nat → Prop} {h h' : mh} {s arr off : Nat} (b : Bk h s arr off) (f : Fc W V h h') (hw : ∀ x k, W x k → ¬ im x) (hv : ∀ x k, V x k → ¬ im x) (h1 : s + 2 < mT h) (h2 : arr < mT h) (n1 : ¬ W s 2) (n2 : ∀ i, ¬ W (s + 2) i) (n3 : ∀ k, ¬ V (s + 1) k) (n4 : ∀ j, off ≤ j → j < off + 809 → ¬ W arr j) : Bk h' s arr off := by
  obtain ⟨b1, n, b2, b3, b4, b5⟩ := b
  have eA : ∀ j, off ≤ j → j < off + 809 → mI h' arr j = mI h arr j := fun j z1 z2 => f.1 _ _ h2 (n4 j z1 z2)
  refine ⟨fun k hk => ?_, n, b2, ?_, ?_, fun i hi => ?_⟩
  · rw [f.2.1 (s + 1) k (by omega) (n3 k)]
    rcases b1 k hk with ⟨z1, z2⟩ | ⟨cs, z1, z2, z3⟩
    · exact Or.inl ⟨z1, by rw [eA _ (by omega) (by omega)]; exact z2⟩
    · exact Or.inr ⟨cs, z1, z2.fr f hw hv, z3.fr z1.2.1 (fun j y1 y2 => eA j (by omega) (by omega))⟩
  · rw [f.1 s 2 (by omega) n1]; exact b3
  · rw [eA _ (by omega) (by omega)]; exact b4
  · obtain ⟨g, g1, g2, g3⟩ := b5 i hi
    exact ⟨g, g1, by rw [f.1 (s + 2) i (by omega) (n2 i)]; exact g2, by rw [eA _ (by omega) (by omega)]; exact g3⟩
/-- a State of the class at s -/
def SA (h : mh) (s : Nat) : Prop := mK h s = 8 ∧ mP h s 0 = s + 1 ∧ mP h s 1 = s + 2 ∧ mK h (s + 1) = 23 ∧ mN h (s + 1) = 24 ∧ mK h (s + 2) = 21 ∧ mN h (s + 2) = 8
theorem SA_104 {h : mh} (hL : Lay h) : SA h 104 := ⟨lk_104 hL, lp_104_0 hL, lp_104_1 hL, lk_105 hL, ln_105 hL, lk_106 hL, ln_106 hL⟩
theorem SA_122 {h : mh} (hL : Lay h) : SA h 122 := ⟨lk_122 hL, lp_122_0 hL, lp_122_1 hL, lk_123 hL, ln_123 hL, lk_124 hL, ln_124 hL⟩
theorem SA_125 {h : mh} (hL : Lay h) : SA h 125 := ⟨lk_125 hL, lp_125_0 hL, lp_125_1 hL, lk_126 hL, ln_126 hL, lk_127 hL, ln_127 hL⟩
theorem SA_hist {h : mh} (hL : Lay h) {j : Nat} (hj : j < 10) : SA h (64 + 3 * j) := by
  rcases (show j = 0 ∨ j = 1 ∨ j = 2 ∨ j = 3 ∨ j = 4 ∨ j = 5 ∨ j = 6 ∨ j = 7 ∨ j = 8 ∨ j = 9 by omega) with rfl | rfl | rfl | rfl | rfl | rfl | rfl | rfl | rfl | rfl
  · exact ⟨lk_64 hL, lp_64_0 hL, lp_64_1 hL, lk_65 hL, ln_65 hL, lk_66 hL, ln_66 hL⟩
  · exact ⟨lk_67 hL, lp_67_0 hL, lp_67_1 hL, lk_68 hL, ln_68 hL, lk_69 hL, ln_69 hL⟩
  · exact ⟨lk_70 hL, lp_70_0 hL, lp_70_1 hL, lk_71 hL, ln_71 hL, lk_72 hL, ln_72 hL⟩
  · exact ⟨lk_73 hL, lp_73_0 hL, lp_73_1 hL, lk_74 hL, ln_74 hL, lk_75 hL, ln_75 hL⟩
  · exact ⟨lk_76 hL, lp_76_0 hL, lp_76_1 hL, lk_77 hL, ln_77 hL, lk_78 hL, ln_78 hL⟩
  · exact ⟨lk_79 hL, lp_79_0 hL, lp_79_1 hL, lk_80 hL, ln_80 hL, lk_81 hL, ln_81 hL⟩
  · exact ⟨lk_82 hL, lp_82_0 hL, lp_82_1 hL, lk_83 hL, ln_83 hL, lk_84 hL, ln_84 hL⟩
  · exact ⟨lk_85 hL, lp_85_0 hL, lp_85_1 hL, lk_86 hL, ln_86 hL, lk_87 hL, ln_87 hL⟩
  · exact ⟨lk_88 hL, lp_88_0 hL, lp_88_1 hL, lk_89 hL, ln_89 hL, lk_90 hL, ln_90 hL⟩
  · exact ⟨lk_91 hL, lp_91_0 hL, lp_91_1 hL, lk_92 hL, ln_92 hL, lk_93 hL, ln_93 hL⟩
theorem s_St_clause {h : mh} {s : Nat} (A : SA h s) (d : Nat) {k : Nat} (hk : k < 24) : St_clause (d + 1) s (nI k) h = some (some (vr (mP h (s + 1) k)), h) := by
  obtain ⟨a1, a2, a3, a4, a5, a6, a7⟩ := A
  rw [e_St_clause]
  simp (disch := omega) only [a1, a2, a3, a4, a5, a6, a7, qadd, qmul, qcl, qle, qlt, qeq, qlt0, q0le, qeq0, qle0, q0lt, bI, bP, bV, bE, bL, if_true, if_false, eq_self, true_or, or_true, false_or, or_false, true_and, and_true, false_and, and_false, qz0, qz1, q00, q01, q10, q11, if_pos, if_neg]
theorem s_St_clauseN {h : mh} {s : Nat} (d : Nat) {x : Int32} (hx : x < 0 ∨ nI 24 ≤ x) : St_clause (d + 1) s x h = some (some (vr 0), h) := by
  rw [e_St_clause]
  rcases hx with hx | hx
  · rw [if_pos hx]
  · by_cases h0 : x < 0
    · rw [if_pos h0]
    · rw [if_neg h0, if_pos hx]
/-- the numbers of the clauses of a state -/
def kp (h : mh) (s : Nat) (k : Nat) : Bool := !(Nat.beq (mP h (s + 1) k) 0)
theorem kp_eq {h : mh} {s k : Nat} : (mP h (s + 1) k = 0) = (kp h s k = false) := by
  unfold kp
  apply propext
  constructor
  · intro z
    rw [z]
    rfl
  · intro z
    have : Nat.beq (mP h (s + 1) k) 0 = true := by
      cases hb : Nat.beq (mP h (s + 1) k) 0 with
      | true => rfl
      | false => rw [hb] at z; cases z
    exact Nat.eq_of_beq_eq_true this
theorem s_St_numbers_4 {h : mh} {s : Nat} (A : SA h s) (d : Nat) : ∀ j k, k + j = 24 → St_numbers_4 d s (bs (kp h s) k) (nI k) h = some (some (vi (bs (kp h s) 24)), h) := by
  obtain ⟨a1, a2, a3, a4, a5, a6, a7⟩ := A
  intro j
  induction j with
  | zero =>
    intro k hk
    obtain rfl : k = 24 := by omega
    rw [e_St_numbers_4]
    simp (disch := omega) only [qadd, qmul, qcl, qle, qlt, qeq, qlt0, q0le, qeq0, qle0, q0lt, bI, bP, bV, bE, bL, if_true, if_false, eq_self, true_or, or_true, false_or, or_false, true_and, and_true, false_and, and_false, qz0, qz1, q00, q01, q10, q11, if_pos, if_neg]
  | succ j ih =>
    intro k hk
    rw [e_St_numbers_4]
    simp (disch := omega) only [a1, a2, a3, a4, a5, a6, a7, qadd, qmul, qcl, qle, qlt, qeq, qlt0, q0le, qeq0, qle0, q0lt, bI, bP, bV, bE, bL, if_true, if_false, eq_self, true_or, or_true, false_or, or_false, true_and, and_true, false_and, and_false, qz0, qz1, q00, q01, q10, q11, if_pos, if_neg, kp_eq]
    have := ih (k + 1) (by omega)
    cases hc : kp h s k with
    | false =>
      rw [bs_f hc] at this
      simpa using this
    | true =>
      rw [bs_t hc] at this
      simpa using this
theorem s_St_numbers {h : mh} {s : Nat} (A : SA h s) (d : Nat) : St_numbers (d + 1) s h = some (some (vi (bs (kp h s) 24)), h) := by
  rw [e_St_numbers]
  exact s_St_numbers_4 A d 24 0 rfl
theorem s_St_laid {h : mh} {s : Nat} (A : SA h s) (d : Nat) : St_laid (d + 1) s h = some (some (vi (mI h s 2)), h) := by
  rw [e_St_laid, if_pos A.1]
theorem s_St_featureAt {h : mh} {s n : Nat} (A : SA h s) (hn : n ≤ 8) (hI : mI h s 2 = nI n) (d : Nat) {i : Nat} (hi : i < n) : St_featureAt (d + 1) s (nI i) h = some (some (vi (mI h (s + 2) i)), h) := by
  obtain ⟨a1, a2, a3, a4, a5, a6, a7⟩ := A
  rw [e_St_featureAt]
  simp (disch := omega) only [a1, a2, a3, a4, a5, a6, a7, hI, qadd, qmul, qcl, qle, qlt, qeq, qlt0, q0le, qeq0, qle0, q0lt, bI, bP, bV, bE, bL, if_true, if_false, eq_self, true_or, or_true, false_or, or_false, true_and, and_true, false_and, and_false, qz0, qz1, q00, q01, q10, q11, if_pos, if_neg]
theorem s_St_featureAtN {h : mh} {s n : Nat} (A : SA h s) (hn : n ≤ 8) (hI : mI h s 2 = nI n) (d : Nat) {x : Int32} (hx : x < 0 ∨ nI n ≤ x) : St_featureAt (d + 1) s x h = some (some (vi (-1)), h) := by
  obtain ⟨a1, a2, a3, a4, a5, a6, a7⟩ := A
  rw [e_St_featureAt]
  by_cases h0 : x < 0
  · rw [if_pos h0]
  · rw [if_neg h0, if_pos a1, hI, if_pos]
    rcases hx with z | z
    · exact absurd z h0
    · exact z
