/-! ===== the start, and the law from there ===== -/
def z0 : mh := mnw (mh0 0 (fun _ => 0)) 10 14
def z13 : mh := c13 z0
def zC : mh := itS 107 2 0 (cF 3 z13)
def z9 : mh := nS (mnw zC 11 48)
def zF : mh := msi z9 129 768 (nI 1)
theorem z13_f : mT z13 = 116 ∧ mP z13 3 11 = 110 ∧ (mK z13 110 = 2 ∧ mP z13 110 0 = 111 ∧ mP z13 110 1 = 112 ∧ mK z13 111 = 21 ∧ mN z13 111 = 30 ∧ mK z13 112 = 21 ∧ mN z13 112 = 30) ∧ mI z13 110 2 = nI 0 := by decide +kernel
theorem z14_f : mP (cF 3 z13) 3 8 = 107 ∧ mK (cF 3 z13) 107 = 24 ∧ mN (cF 3 z13) 107 = 2 ∧ mK (cF 3 z13) 3 = 10 ∧ mT (cF 3 z13) = 122 := by decide +kernel
theorem zC_f : mT zC = 128 := by decide +kernel
theorem z9_f : mP z9 128 1 = 129 ∧ mK z9 129 = 21 ∧ mN z9 129 = 2427 ∧ mK z9 128 = 11 ∧ mT z9 = 155 := by decide +kernel
theorem zF_k : (List.range 155).all (fun a => Nat.blt a 3 || (Nat.beq (mK zF a) (mnat layK a) && Nat.beq (mN zF a) (mnat layN a))) = true := by decide +kernel
theorem zF_p : layP.all (fun q => Nat.beq (mP zF q.1 q.2.1) q.2.2) = true := by decide +kernel
theorem zF_o : (List.range 24).all (fun k => Nat.beq (mP zF 105 k) 0) = true ∧ mP zF 108 0 = 0 ∧ mP zF 108 1 = 0 ∧ mP zF 3 11 = 110 ∧ mP zF 3 12 = 113 ∧ mP zF 3 13 = 116 := by decide +kernel
theorem zF_q : mP zF 116 0 = 118 ∧ mP zF 116 1 = 119 ∧ mP zF 116 2 = 120 ∧ mP zF 116 3 = 121 ∧ mP zF 116 4 = 117 := by decide +kernel
theorem zF_i : mI zF 4 6 = -1 ∧ mI zF 128 15 = -1 ∧ mI zF 129 768 = nI 1 ∧ (mK zF 2 = 32 ∧ mN zF 2 = 4) ∧ (mI zF 2 0 = nI (ptm 0) ∧ mI zF 2 1 = nI (ptm 1) ∧ mI zF 2 2 = nI (ptm 2) ∧ mI zF 2 3 = nI (ptm 3)) ∧ mT zF = 155 ∧ mU zF ≤ 100000 := by decide +kernel
/-- the heap after both constructors -/
def hSt (L : Nat) (xs : Nat → Int32) : mh := msi (nS (mnw (itS 107 2 0 (cF 3 (c13 (mnw (mh0 L xs) 10 14)))) 11 48)) 129 768 (nI 1)
section
variable {L : Nat} {xs : Nat → Int32}
theorem eq_0 : EQ (mh0 L xs) (mh0 0 (fun _ => 0)) := by
  refine ⟨fun a k ha => ?_, fun _ _ => rfl, fun a ha => ⟨?_, ?_⟩, rfl, rfl⟩
  · show (if a = 1 then xs k else _) = (if a = 1 then _ else _)
    rw [if_neg ha, if_neg ha]
  · show (if a = 1 then (31, L) else _).1 = (if a = 1 then (31, 0) else _).1
    rw [if_neg ha, if_neg ha]
  · show (if a = 1 then (31, L) else _).2 = (if a = 1 then (31, 0) else _).2
    rw [if_neg ha, if_neg ha]
theorem eq_13 : EQ (c13 (mnw (mh0 L xs) 10 14)) z13 := eq_c13 (eq_0 (L := L) (xs := xs)).nw
theorem eq_14 : EQ (cF 3 (c13 (mnw (mh0 L xs) 10 14))) (cF 3 z13) := eq_cF eq_13
theorem eq_C : EQ (itS 107 2 0 (cF 3 (c13 (mnw (mh0 L xs) 10 14)))) zC := EQ.it _ _ _ _ eq_14
theorem eq_9 : EQ (nS (mnw (itS 107 2 0 (cF 3 (c13 (mnw (mh0 L xs) 10 14)))) 11 48)) z9 := (eq_C (L := L) (xs := xs)).nw.nS
theorem eq_F : EQ (hSt L xs) zF := (eq_9 (L := L) (xs := xs)).si
theorem iz_F : IZ (hSt L xs) := by
  have z : IZ (mh0 L xs) := by
    intro a k h3 _
    show (if a = 1 then xs k else if a = 2 then mptv k else 0) = 0
    rw [if_neg (by omega), if_neg (by omega)]
  have z1 : IZ (c13 (mnw (mh0 L xs) 10 14)) := iz_c13 z.nw rfl
  exact (IZ.it 2 0 _ z1.cF).nw.nS.si (Or.inr (Or.inr ⟨rfl, rfl⟩))
theorem lay_F : Lay (hSt L xs) := by
  have e := eq_F (L := L) (xs := xs)
  refine ⟨fun a h1 h2 => ?_, fun q hq => ?_, ?_⟩
  · rw [(e.2.2.1 a (by omega)).1, (e.2.2.1 a (by omega)).2]
    have := List.all_eq_true.mp zF_k a (List.mem_range.mpr h2)
    rw [Bool.or_eq_true, Bool.and_eq_true] at this
    rcases this with z | ⟨z1, z2⟩
    · have := Nat.le_of_ble_eq_true z
      omega
    · exact ⟨Nat.eq_of_beq_eq_true z1, Nat.eq_of_beq_eq_true z2⟩
  · rw [e.2.1]
    exact Nat.eq_of_beq_eq_true (List.all_eq_true.mp zF_p q hq)
  · rw [e.T, zF_i.2.2.2.2.2.1]
    exact Nat.le_refl _
/-- the clauses at the start: the empty query alone -/
def K0 : Ks := fun k => if k = 24 then some [] else none
theorem wf_0 : WF [] := ⟨rfl, Nat.zero_le _, Nat.zero_le _, fun i hi => absurd hi (Nat.not_lt_zero _)⟩
theorem li_F (k1 : mK (hSt L xs) 1 = 31) (k2 : mN (hSt L xs) 1 = L) : LI L (hSt L xs) := by
  have e := eq_F (L := L) (xs := xs)
  have iz := iz_F (L := L) (xs := xs)
  have hL := lay_F (L := L) (xs := xs)
  obtain ⟨o1, o2, o3, o4, o5, o6⟩ := zF_o
  obtain ⟨q0, q1, q2, q3, q4⟩ := zF_q
  obtain ⟨i1, i2, i3, ⟨i4, i5⟩, ⟨j0, j1, j2, j3⟩, i6, i7⟩ := zF_i
  have tT : mT (hSt L xs) = 155 := e.T.trans i6
  have zn : ∀ a k, 3 ≤ a → ¬ ex0 a k → mI (hSt L xs) a k = nI 0 := fun a k h1 h2 => (iz a k h1 h2).trans nI_0.symm
  have cw : CW (hSt L xs) 116 [] := by
    refine ⟨lk_116 hL, ⟨Or.inl (by omega), by omega, fun k hk => ?_⟩, ⟨?_, fun i hi => absurd hi (Nat.not_lt_zero _)⟩, ⟨?_, fun i hi => absurd hi (Nat.not_lt_zero _)⟩, ⟨?_, fun i hi => absurd hi (Nat.not_lt_zero _)⟩, ⟨?_, fun i hi => ?_⟩, ⟨?_, fun f hf => ?_⟩⟩
    · rcases (show k = 0 ∨ k = 1 ∨ k = 2 ∨ k = 3 ∨ k = 4 by omega) with rfl | rfl | rfl | rfl | rfl
      · rw [e.2.1, q0]
        exact ⟨Or.inl (by omega), by omega, lk_118 hL⟩
      · rw [e.2.1, q1]
        exact ⟨Or.inl (by omega), by omega, lk_119 hL⟩
      · rw [e.2.1, q2]
        exact ⟨Or.inl (by omega), by omega, lk_120 hL⟩
      · rw [e.2.1, q3]
        exact ⟨Or.inl (by omega), by omega, lk_121 hL⟩
      · rw [e.2.1, q4]
        exact ⟨Or.inl (by omega), by omega, lk_117 hL⟩
    · rw [e.2.1, q0]
      exact ln_118 hL
    · rw [e.2.1, q1]
      exact ln_119 hL
    · rw [e.2.1, q2]
      exact ln_120 hL
    · rw [e.2.1, q3]
      exact ln_121 hL
    · have hi0 : i = 0 := Nat.le_zero.mp hi
      rw [e.2.1, q3, hi0]
      exact zn _ _ (by omega) (by unfold ex0; omega)
    · rw [e.2.1, q4]
      exact ln_117 hL
    · rw [e.2.1, q4]
      exact zn _ _ (by omega) (by unfold ex0; omega)
  have sc : SC (hSt L xs) 104 K0 [] := by
    refine ⟨fun k hk => Or.inl ⟨if_neg (by omega), ?_⟩, by decide, zn _ _ (by omega) (by unfold ex0; omega), fun i hi => absurd hi (Nat.not_lt_zero _)⟩
    rw [e.2.1]
    exact Nat.eq_of_beq_eq_true (List.all_eq_true.mp o1 k (List.mem_range.mpr hk))
  have sn : SN (hSt L xs) 129 0 K0 [] := by
    refine ⟨fun k hk => Or.inl ⟨if_neg (by omega), zn _ _ (by omega) (by unfold ex0; omega)⟩, by decide, zn _ _ (by omega) (by unfold ex0; omega), fun i hi => absurd hi (Nat.not_lt_zero _)⟩
  have mc : MC (hSt L xs) 129 0 24 [] := by
    refine ⟨?_, zn _ _ (by omega) (by unfold ex0; omega), fun i hi => absurd hi (Nat.not_lt_zero _)⟩
    have := (e.1 129 768 (by omega)).trans i3
    exact this
  obtain ⟨rc, oc⟩ := RC.of hL sc (show K0 24 = some [] from rfl) wf_0 (by rw [e.2.1, o6]; exact cw)
  obtain ⟨rm, om⟩ := RM.of hL sn (show K0 24 = some [] from rfl) wf_0 mc
  have f1 : mI (hSt L xs) 4 6 = -1 := (e.1 4 6 (by omega)).trans i1
  have f2 : mI (hSt L xs) 128 15 = -1 := (e.1 128 15 (by omega)).trans i2
  have hq0 : K0 24 = some [] := rfl
  have z2 : ∀ k, mI (hSt L xs) 2 k = mI zF 2 k := fun k => e.1 2 k (by omega)
  refine ⟨⟨K0, [], 0, fun _ => (K0, []), fun _ => none, [], nI 0, -1, ⟨rc, oc, ?_, ?_, ?_, ?_, f1, ?_, ?_, rfl⟩, ⟨rm, om, ?_, ?_, ?_, ?_, f2⟩⟩, by omega, ?_, ?_⟩
  · exact ⟨by decide, zn _ _ (by omega) (by unfold ex0; omega), 0, by decide, zn _ _ (by omega) (by unfold ex0; omega), fun j hj => absurd hj (Nat.not_lt_zero _)⟩
  · intro i hi
    refine Or.inl ⟨rfl, ?_⟩
    rw [e.2.1]
    rcases (show i = 0 ∨ i = 1 by omega) with rfl | rfl
    · exact o2
    · exact o3
  · exact ⟨by decide, zn _ _ (by omega) (by unfold ex0; omega), fun i hi => absurd hi (Nat.not_lt_zero _)⟩
  · exact zn _ _ (by omega) (by unfold ex0; omega)
  · intro m R hm hR
    exact Or.inl (zn _ _ (by omega) (by unfold ex0; omega))
  · refine ⟨Or.inl ⟨by rw [e.2.1]; exact o4, by rw [e.2.1]; exact o5⟩, (e.2.2.1 2 (by omega)).1.trans i4, (e.2.2.1 2 (by omega)).2.trans i5, fun i hi => ?_⟩
    rw [z2]
    rcases (show i = 0 ∨ i = 1 ∨ i = 2 ∨ i = 3 by omega) with rfl | rfl | rfl | rfl
    · exact j0
    · exact j1
    · exact j2
    · exact j3
  · exact ⟨by decide, zn _ _ (by omega) (by unfold ex0; omega), fun j hj => absurd hj (Nat.not_lt_zero _)⟩
  · intro i hi
    exact Or.inl ⟨rfl, zn _ _ (by omega) (by unfold ex0; omega)⟩
  · exact ⟨by decide, zn _ _ (by omega) (by unfold ex0; omega), fun i hi => absurd hi (Nat.not_lt_zero _)⟩
  · exact zn _ _ (by omega) (by unfold ex0; omega)
  · exact k1
  · exact k2
end
theorem pure_law (L : Nat) (xs : Nat → Int32) (h3 : L ≤ 3072) : ∃ hf : mh, Lw_law 2000 1 (mh0 L xs) = some (some (vi 1), hf) ∧ mT hf ≤ 600003 ∧ mU hf ≤ 7302250 := by
  have o0 : OK (mnw (mh0 L xs) 10 14) 3 10 := OK.new (h := mh0 L xs) (show 0 < 3 by decide)
  have oE : OK (cD 3 (cC 3 (cB 3 (cA 3 (mnw (mh0 L xs) 10 14))))) 3 10 := o0.cA.cB.cC.cD
  have e13 := eq_13 (L := L) (xs := xs)
  have e14 := eq_14 (L := L) (xs := xs)
  have eC := eq_C (L := L) (xs := xs)
  have e9 := eq_9 (L := L) (xs := xs)
  obtain ⟨a1, a2, ⟨a3, a4, a5, a6, a7, a8, a9⟩, a10⟩ := z13_f
  obtain ⟨b1, b2, b3, b4, b5⟩ := z14_f
  obtain ⟨d1, d2, d3, d4, d5⟩ := z9_f
  have zK : ∀ a, a ≠ 1 → mK (c13 (mnw (mh0 L xs) 10 14)) a = mK z13 a := fun a h => (e13.2.2.1 a h).1
  have zN : ∀ a, a ≠ 1 → mN (c13 (mnw (mh0 L xs) 10 14)) a = mN z13 a := fun a h => (e13.2.2.1 a h).2
  have k : DK (c13 (mnw (mh0 L xs) 10 14)) 110 := by
    unfold DK
    rw [zK 110 (by decide), zK (110 + 1) (by decide), zK (110 + 2) (by decide), zN (110 + 1) (by decide), zN (110 + 2) (by decide), e13.2.1, e13.2.1]
    exact ⟨a3, a4, a5, a6, a7, a8, a9⟩
  have t : DR (c13 (mnw (mh0 L xs) 10 14)) 110 [] [] := ⟨(e13.1 110 2 (by decide)).trans a10, by decide, rfl, fun i hi => absurd hi (Nat.not_lt_zero _)⟩
  have s1 : C_init 1999 3 (mnw (mh0 L xs) 10 14) = some (none, itS 107 2 0 (cF 3 (c13 (mnw (mh0 L xs) 10 14)))) := by
    have x1 : C_init 1999 3 (mnw (mh0 L xs) 10 14) = C_init_17 1998 3 none (cA 3 (mnw (mh0 L xs) 10 14)) := s_cA 1996 o0
    have x2 : C_init_17 1998 3 none (cA 3 (mnw (mh0 L xs) 10 14)) = C_init_32 1998 3 none (cB 3 (cA 3 (mnw (mh0 L xs) 10 14))) := s_cB 1996 o0.cA none
    have x3 : C_init_32 1998 3 none (cB 3 (cA 3 (mnw (mh0 L xs) 10 14))) = C_init_46 1998 3 none (cC 3 (cB 3 (cA 3 (mnw (mh0 L xs) 10 14)))) := s_cC 1996 o0.cA.cB none
    have x4 : C_init_46 1998 3 none (cC 3 (cB 3 (cA 3 (mnw (mh0 L xs) 10 14)))) = C_init_59 1998 3 none (cD 3 (cC 3 (cB 3 (cA 3 (mnw (mh0 L xs) 10 14))))) := s_cD 1996 o0.cA.cB.cC none
    have x5 : C_init_59 1998 3 none (cD 3 (cC 3 (cB 3 (cA 3 (mnw (mh0 L xs) 10 14))))) = C_init_73 1998 3 (nI 0) (cF 3 (c13 (mnw (mh0 L xs) 10 14))) := s_cF (g := c13 (mnw (mh0 L xs) 10 14)) 1994 rfl oE none ((e13.2.1 3 11).trans a2) k t (e13.T.trans a1)
    have oh : OH (cF 3 (c13 (mnw (mh0 L xs) 10 14))) 3 10 8 107 2 := ⟨⟨by decide, by rw [e14.T, b5]; decide, (e14.2.2.1 3 (by decide)).1.trans b4⟩, (e14.2.1 3 8).trans b1, ⟨by decide, by rw [e14.T, b5]; decide, (e14.2.2.1 107 (by decide)).1.trans b2⟩, (e14.2.2.1 107 (by decide)).2.trans b3, by decide⟩
    have x6 : C_init_73 1998 3 (nI 0) (cF 3 (c13 (mnw (mh0 L xs) 10 14))) = some (none, itS 107 2 0 (cF 3 (c13 (mnw (mh0 L xs) 10 14)))) := s_c73 1997 2 0 _ rfl oh
    rw [x1, x2, x3, x4, x5, x6]
  have tC : mT (itS 107 2 0 (cF 3 (c13 (mnw (mh0 L xs) 10 14)))) = 128 := eC.T.trans zC_f
  have oN : OK (mnw (itS 107 2 0 (cF 3 (c13 (mnw (mh0 L xs) 10 14)))) 11 48) 128 11 := by
    have := OK.new (h := itS 107 2 0 (cF 3 (c13 (mnw (mh0 L xs) 10 14)))) (K := 11) (n := 48) (by rw [tC]; decide)
    rw [tC] at this
    exact this
  have s2 : N_init 1999 128 (mnw (itS 107 2 0 (cF 3 (c13 (mnw (mh0 L xs) 10 14)))) 11 48) = some (none, hSt L xs) := by
    have x1 : N_init 1999 128 (mnw (itS 107 2 0 (cF 3 (c13 (mnw (mh0 L xs) 10 14)))) 11 48) = N_init_109 1998 128 (nS (mnw (itS 107 2 0 (cF 3 (c13 (mnw (mh0 L xs) 10 14)))) 11 48)) := s_nS 1998 oN
    obtain ⟨G, hG⟩ : ∃ G, G = nS (mnw (itS 107 2 0 (cF 3 (c13 (mnw (mh0 L xs) 10 14)))) 11 48) := ⟨_, rfl⟩
    have eF : hSt L xs = msi G 129 768 (nI 1) := by rw [hG]; rfl
    rw [← hG] at e9 x1
    have y1 : mP G 128 1 = 129 := (e9.2.1 128 1).trans d1
    have y2 : mK G 129 = 21 := (e9.2.2.1 129 (by decide)).1.trans d2
    have y3 : mN G 129 = 2427 := (e9.2.2.1 129 (by decide)).2.trans d3
    have y4 : mK G 128 = 11 := (e9.2.2.1 128 (by decide)).1.trans d4
    rw [x1, eF, e_N_init_109, y1]
    repeat (first | with_reducible refine hE ?_ | with_reducible refine hLi ?_ | (with_reducible apply hT; · (first | omega | (simp (disch := omega) only [y2, y3, y4, qadd, qmul, qcl, qle, qlt, qeq, qlt0, q0le, qeq0, qle0, q0lt, true_or, or_true, false_or, or_false, true_and, and_true, false_and, and_false, eq_self, not_true_eq_false, not_false_eq_true, qz0, qz1, q00, q01, q10, q11, zb_z, zb_0, zb_1, zor, Bool.true_eq_false, Bool.false_eq_true, Bool.and_true, Bool.and_false, Bool.true_and, Bool.false_and, Bool.or_true, Bool.or_false, Bool.true_or, Bool.false_or, decide_eq_true_eq, decide_eq_false_iff_not, reduceCtorEq]; done) | (simp (disch := omega) only [y2, y3, y4, qadd, qmul, qcl, qle, qlt, qeq, qlt0, q0le, qeq0, qle0, q0lt, true_or, or_true, false_or, or_false, true_and, and_true, false_and, and_false, eq_self, not_true_eq_false, not_false_eq_true, qz0, qz1, q00, q01, q10, q11, zb_z, zb_0, zb_1, zor, Bool.true_eq_false, Bool.false_eq_true, Bool.and_true, Bool.and_false, Bool.true_and, Bool.false_and, Bool.or_true, Bool.or_false, Bool.true_or, Bool.false_or, decide_eq_true_eq, decide_eq_false_iff_not, reduceCtorEq]; omega))) | (with_reducible apply hF; · (first | omega | (simp (disch := omega) only [y2, y3, y4, qadd, qmul, qcl, qle, qlt, qeq, qlt0, q0le, qeq0, qle0, q0lt, true_or, or_true, false_or, or_false, true_and, and_true, false_and, and_false, eq_self, not_true_eq_false, not_false_eq_true, qz0, qz1, q00, q01, q10, q11, zb_z, zb_0, zb_1, zor, Bool.true_eq_false, Bool.false_eq_true, Bool.and_true, Bool.and_false, Bool.true_and, Bool.false_and, Bool.or_true, Bool.or_false, Bool.true_or, Bool.false_or, decide_eq_true_eq, decide_eq_false_iff_not, reduceCtorEq]; done) | (simp (disch := omega) only [y2, y3, y4, qadd, qmul, qcl, qle, qlt, qeq, qlt0, q0le, qeq0, qle0, q0lt, true_or, or_true, false_or, or_false, true_and, and_true, false_and, and_false, eq_self, not_true_eq_false, not_false_eq_true, qz0, qz1, q00, q01, q10, q11, zb_z, zb_0, zb_1, zor, Bool.true_eq_false, Bool.false_eq_true, Bool.and_true, Bool.and_false, Bool.true_and, Bool.false_and, Bool.or_true, Bool.or_false, Bool.true_or, Bool.false_or, decide_eq_true_eq, decide_eq_false_iff_not, reduceCtorEq]; omega))))
    rw [qcl (by decide)]
  have f1 : sm1 (mnw (mh0 L xs) 10 14) (itS 107 2 0 (cF 3 (c13 (mnw (mh0 L xs) 10 14)))) := call_fr s1
  have f2 : sm1 (mnw (itS 107 2 0 (cF 3 (c13 (mnw (mh0 L xs) 10 14)))) 11 48) (hSt L xs) := call_fr s2
  have f3 := ((f1.tr sm1.nw).tr f2) (show 3 ≤ 4 by decide) rfl
  have li := li_F (L := L) (xs := xs) ((f3.2.1 1 (show 1 < 4 by decide)).trans rfl) (f3.2.2.1.trans rfl)
  have eF := eq_F (L := L) (xs := xs)
  obtain ⟨i1, i2, i3, -, -, i6, i7⟩ := zF_i
  obtain ⟨hf, e, t1, u1⟩ := law_loop h3 1979 512 0 (hSt L xs) li (by omega) (by omega)
  have tF : mT (hSt L xs) = 155 := eF.T.trans i6
  have uF : mU (hSt L xs) = mU zF := eF.2.2.2.2
  refine ⟨hf, ?_, by omega, by omega⟩
  have e : Lw_law_10 1999 1 3 128 (nI 0) (hSt L xs) = some (some (vi 1), hf) := e
  have n1 : mK (mnw (mh0 L xs) 10 14) 3 = 10 := o0.2.2
  have n2 : mK (mnw (itS 107 2 0 (cF 3 (c13 (mnw (mh0 L xs) 10 14)))) 11 48) 128 = 11 := oN.2.2
  have x0 : Lw_law 2000 1 (mh0 L xs) = _ := e_Lw_law 1999 1 (mh0 L xs)
  rw [x0]
  show (if mK (mnw (mh0 L xs) 10 14) 3 = 10 then (mbV (C_init 1999 3 (mnw (mh0 L xs) 10 14)) _) else none) = _
  rw [if_pos n1, s1, bV]
  show (if mK (mnw (itS 107 2 0 (cF 3 (c13 (mnw (mh0 L xs) 10 14)))) 11 48) (mT (itS 107 2 0 (cF 3 (c13 (mnw (mh0 L xs) 10 14))))) = 11 then (mbV (N_init 1999 (mT (itS 107 2 0 (cF 3 (c13 (mnw (mh0 L xs) 10 14))))) (mnw (itS 107 2 0 (cF 3 (c13 (mnw (mh0 L xs) 10 14)))) 11 48)) (fun h4 => Lw_law_10 1999 1 3 (mT (itS 107 2 0 (cF 3 (c13 (mnw (mh0 L xs) 10 14))))) (nI 0) h4)) else none) = _
  rw [tC, if_pos n2, s2, bV]
  exact e
