/-! ===== two starts that differ by the script alone; whole numbers at the start ===== -/
def EQ (h h' : mh) : Prop := (∀ a k, a ≠ 1 → mI h a k = mI h' a k) ∧ (∀ a k, mP h a k = mP h' a k) ∧ (∀ a, a ≠ 1 → mK h a = mK h' a ∧ mN h a = mN h' a) ∧ mT h = mT h' ∧ mU h = mU h'
section
variable {h h' : mh}
theorem EQ.si {a k : Nat} {x : Int32} (e : EQ h h') : EQ (msi h a k x) (msi h' a k x) := by
  refine ⟨fun b j hb => ?_, e.2.1, e.2.2.1, e.2.2.2.1, e.2.2.2.2⟩
  rw [mI_si, mI_si, e.1 b j hb]
theorem EQ.sp {a k x : Nat} (e : EQ h h') : EQ (msp h a k x) (msp h' a k x) := by
  refine ⟨e.1, fun b j => ?_, e.2.2.1, e.2.2.2.1, e.2.2.2.2⟩
  rw [mP_sp, mP_sp, e.2.1 b j]
theorem EQ.T (e : EQ h h') : mT h = mT h' := e.2.2.2.1
theorem EQ.nw {K n : Nat} (e : EQ h h') : EQ (mnw h K n) (mnw h' K n) := by
  refine ⟨fun b j hb => ?_, fun b j => ?_, fun b hb => ⟨?_, ?_⟩, ?_, ?_⟩
  · rw [mI_nw, mI_nw, e.1 b j hb, e.T]
  · rw [mP_nw, mP_nw, e.2.1 b j, e.T]
  · rw [mK_nw, mK_nw, (e.2.2.1 b hb).1, e.T]
  · rw [mN_nw, mN_nw, (e.2.2.1 b hb).2, e.T]
  · rw [mT_nw, mT_nw, e.T]
  · show mU h + n = mU h' + n
    rw [e.2.2.2.2]
theorem EQ.nw2 {n k : Nat} (e : EQ h h') : EQ (mnw2 h n k) (mnw2 h' n k) := by
  have eT := e.T
  have e1 := e.1
  have e2 := e.2.1
  have e3 := e.2.2.1
  refine ⟨fun b j hb => ?_, fun b j => ?_, fun b hb => ⟨?_, ?_⟩, ?_, ?_⟩
  · have := e1 b j hb
    unfold mI at this
    unfold mI mnw2
    simp only [eT, this]
  · have := e2 b j
    unfold mP at this
    unfold mP mnw2
    simp only [eT, this]
  · have := (e3 b hb).1
    unfold mK at this
    unfold mK mnw2
    simp only [eT]
    split
    · rfl
    · split
      · rfl
      · exact this
  · have := (e3 b hb).2
    unfold mN at this
    unfold mN mnw2
    simp only [eT]
    split
    · rfl
    · split
      · rfl
      · exact this
  · show mT h + 1 + n = mT h' + 1 + n
    rw [eT]
  · show mU h + n + n * k = mU h' + n + n * k
    rw [e.2.2.2.2]
theorem eq_pA {K n a f : Nat} (e : EQ h h') : EQ (pA h K n a f) (pA h' K n a f) := by
  unfold pA
  rw [e.T]
  exact e.nw.sp
theorem EQ.pA {K n a f : Nat} (e : EQ h h') : EQ (pA h K n a f) (pA h' K n a f) := eq_pA e
theorem eq_pO {K n a f : Nat} {i : Nat → mh → mh} (e : EQ h h') (hi : ∀ b h h', EQ h h' → EQ (i b h) (i b h')) : EQ (pO h K n a f i) (pO h' K n a f i) := by
  unfold pO
  rw [e.T]
  exact (hi _ _ _ e.nw).sp
theorem EQ.pO {K n a f : Nat} {i : Nat → mh → mh} (e : EQ h h') (hi : ∀ b h h', EQ h h' → EQ (i b h) (i b h')) : EQ (pO h K n a f i) (pO h' K n a f i) := eq_pO e hi
theorem EQ.iDr (b : Nat) (h h' : mh) (e : EQ h h') : EQ (iDr b h) (iDr b h') := e.pA.pA
theorem EQ.iSt (b : Nat) (h h' : mh) (e : EQ h h') : EQ (iSt b h) (iSt b h') := e.pA.pA
theorem EQ.iMa (b : Nat) (h h' : mh) (e : EQ h h') : EQ (iMa b h) (iMa b h') := e.pA.pA
theorem EQ.iTr (b : Nat) (h h' : mh) (e : EQ h h') : EQ (iTr b h) (iTr b h') := e.pA.pA.pA.pA
theorem EQ.iRl (b : Nat) (h h' : mh) (e : EQ h h') : EQ (iRl b h) (iRl b h') := e.pA.pA.pA.pA
theorem eq_iPa (b : Nat) (h h' : mh) (e : EQ h h') : EQ (iPa b h) (iPa b h') := by
  unfold iPa
  rw [e.T]
  exact e.nw2.sp.pA.pA.pA
theorem EQ.iRe (b : Nat) (h h' : mh) (e : EQ h h') : EQ (iRe b h) (iRe b h') := (e.pA.pO EQ.iDr).si
theorem EQ.sT {r x : Nat} (e : EQ h h') : EQ (sTt r x h) (sTt r x h') := by
  unfold sTt
  rw [e.T]
  exact (EQ.iSt _ _ _ e.nw).sp
theorem EQ.it {r : Nat} : ∀ j x h h', EQ h h' → EQ (itS r j x h) (itS r j x h')
  | 0, _, _, _, e => e
  | j + 1, x, h, h', e => EQ.it j (x + 1) _ _ e.sT
theorem eq_iHi (b : Nat) (h h' : mh) (e : EQ h h') : EQ (iHi b h) (iHi b h') := by
  unfold iHi
  rw [e.T]
  exact EQ.it _ _ _ _ e.pA
theorem EQ.iCl (e : EQ h h') : EQ (iClq h) (iClq h') := by
  unfold iClq G0
  rw [e.T]
  exact e.nw.nw.sp.nw.sp.nw.sp.nw.sp.nw.si.sp
end
/-- whole numbers that aren't 0 at the start -/
def ex0 (a k : Nat) : Prop := (a = 4 ∧ k = 6) ∨ (a = 128 ∧ k = 15) ∨ (a = 129 ∧ k = 768)
def IZ (h : mh) : Prop := ∀ a k, 3 ≤ a → ¬ ex0 a k → mI h a k = 0
section
variable {h : mh}
theorem IZ.sp {a k x : Nat} (z : IZ h) : IZ (msp h a k x) := z
theorem IZ.nw {K n : Nat} (z : IZ h) : IZ (mnw h K n) := fun a k h3 hn => by
  rw [mI_nw]
  split
  · rfl
  · exact z a k h3 hn
theorem IZ.nw2 {n k : Nat} (z : IZ h) : IZ (mnw2 h n k) := fun a j h3 hn => by
  unfold mI mnw2
  show (if mT h ≤ a ∧ a < mT h + 1 + n then 0 else h.1 a j) = 0
  split
  · rfl
  · exact z a j h3 hn
theorem IZ.si {a k : Nat} {x : Int32} (e : ex0 a k) (z : IZ h) : IZ (msi h a k x) := fun b j h3 hn => by
  rw [mI_si, if_neg]
  · exact z b j h3 hn
  · rintro ⟨rfl, rfl⟩
    exact hn e
theorem IZ.s0 {a k : Nat} (z : IZ h) : IZ (msi h a k (nI 0)) := fun b j h3 hn => by
  rw [mI_si]
  split
  · rfl
  · exact z b j h3 hn
theorem IZ.pA {K n a f : Nat} (z : IZ h) : IZ (pA h K n a f) := z.nw.sp
theorem IZ.pO {K n a f : Nat} {i : Nat → mh → mh} (z : IZ h) (hi : ∀ b h, IZ h → IZ (i b h)) : IZ (pO h K n a f i) := (hi _ _ z.nw).sp
theorem IZ.iDr (b : Nat) (h : mh) (z : IZ h) : IZ (iDr b h) := z.pA.pA
theorem IZ.iSt (b : Nat) (h : mh) (z : IZ h) : IZ (iSt b h) := z.pA.pA
theorem IZ.iMa (b : Nat) (h : mh) (z : IZ h) : IZ (iMa b h) := z.pA.pA
theorem IZ.iTr (b : Nat) (h : mh) (z : IZ h) : IZ (iTr b h) := z.pA.pA.pA.pA
theorem IZ.iRl (b : Nat) (h : mh) (z : IZ h) : IZ (iRl b h) := z.pA.pA.pA.pA
theorem IZ.iPa (b : Nat) (h : mh) (z : IZ h) : IZ (iPa b h) := z.nw2.sp.pA.pA.pA
theorem IZ.it {r : Nat} : ∀ j x h, IZ h → IZ (itS r j x h)
  | 0, _, _, z => z
  | j + 1, x, h, z => IZ.it j (x + 1) _ (IZ.iSt _ _ z.nw).sp
theorem IZ.iHi (b : Nat) (h : mh) (z : IZ h) : IZ (iHi b h) := IZ.it _ _ _ z.pA
theorem IZ.iCl (z : IZ h) : IZ (iClq h) := z.nw.nw.sp.nw.sp.nw.sp.nw.sp.nw.s0.sp
end
/-! the class's constructor, in the pieces that its equations have -/
def cA (a : Nat) (h : mh) : mh := pO (pO (pO h 6 7 a 0 iRe) 4 9 a 1 iMa) 9 6 a 2 iTr
def cB (a : Nat) (h : mh) : mh := pO (pO (pO h 5 7 a 3 iPa) 3 3 a 4 iHi) 7 6 a 5 iRl
def cC (a : Nat) (h : mh) : mh := pA (pO (pO h 7 6 a 6 iRl) 8 3 a 7 iSt) 24 2 a 8
def cD (a : Nat) (h : mh) : mh := pO (pA (pA h 23 2 a 9) 21 8 a 10) 2 3 a 11 iDr
def cE (a : Nat) (h : mh) : mh := pO h 2 3 a 12 iDr
def cF (a : Nat) (h : mh) : mh := msp (iClq h) a 13 (mT h)
def c13 (h : mh) : mh := cE 3 (cD 3 (cC 3 (cB 3 (cA 3 h))))
theorem kDr (h : mh) (b a C : Nat) (_ : OK h b 2) (o : OK h a C) : OK (iDr b h) a C := o.iDr
theorem kSt (h : mh) (b a C : Nat) (_ : OK h b 8) (o : OK h a C) : OK (iSt b h) a C := o.iSt
theorem kMa (h : mh) (b a C : Nat) (_ : OK h b 4) (o : OK h a C) : OK (iMa b h) a C := o.iMa
theorem kTr (h : mh) (b a C : Nat) (_ : OK h b 9) (o : OK h a C) : OK (iTr b h) a C := o.iTr
theorem kRl (h : mh) (b a C : Nat) (_ : OK h b 7) (o : OK h a C) : OK (iRl b h) a C := o.iRl
theorem kPa (h : mh) (b a C : Nat) (_ : OK h b 5) (o : OK h a C) : OK (iPa b h) a C := o.iPa
theorem kHi (h : mh) (b a C : Nat) (_ : OK h b 3) (o : OK h a C) : OK (iHi b h) a C := o.iHi
theorem kRe (h : mh) (b a C : Nat) (_ : OK h b 6) (o : OK h a C) : OK (iRe b h) a C := o.iRe
section
variable {h : mh} {a : Nat}
theorem OK.cA {C : Nat} (o : OK h a C) : OK (cA 3 h) a C := ((o.pO kRe).pO kMa).pO kTr
theorem OK.cB {C : Nat} (o : OK h a C) : OK (cB 3 h) a C := ((o.pO kPa).pO kHi).pO kRl
theorem OK.cC {C : Nat} (o : OK h a C) : OK (cC 3 h) a C := ((o.pO kRl).pO kSt).pA
theorem OK.cD {C : Nat} (o : OK h a C) : OK (cD 3 h) a C := o.pA.pA.pO kDr
theorem OK.cE {C : Nat} (o : OK h a C) : OK (cE 3 h) a C := o.pO kDr
theorem s_cA (d : Nat) (o : OK h 3 10) : C_init (d + 3) 3 h = C_init_17 (d + 2) 3 none (cA 3 h) := by
  rw [e_C_init, if_neg (a_ne o), st_pO (X := Re_init (d + 2)) (i := iRe) (fun h a o => s_iRe d o) kRe o, st_pO (X := Ma_init (d + 2)) (i := iMa) (fun h a o => s_iMa (d + 1) o) kMa (o.pO kRe), st_pO (X := Tr_init (d + 2)) (i := iTr) (fun h a o => s_iTr (d + 1) o) kTr ((o.pO kRe).pO kMa)]
  rfl
theorem s_cB (d : Nat) (o : OK h 3 10) (o1 : Option mv) : C_init_17 (d + 2) 3 o1 h = C_init_32 (d + 2) 3 o1 (cB 3 h) := by
  rw [e_C_init_17, st_pO (X := Pa_init (d + 2)) (i := iPa) (fun h a o => s_iPa (d + 1) o) kPa o, st_pO (X := Hi_init (d + 2)) (i := iHi) (fun h a o => s_iHi d o) kHi (o.pO kPa), st_pO (X := Rl_init (d + 2)) (i := iRl) (fun h a o => s_iRl (d + 1) o) kRl ((o.pO kPa).pO kHi)]
  rfl
theorem s_cC (d : Nat) (o : OK h 3 10) (o1 : Option mv) : C_init_32 (d + 2) 3 o1 h = C_init_46 (d + 2) 3 o1 (cC 3 h) := by
  rw [e_C_init_32, st_pO (X := Rl_init (d + 2)) (i := iRl) (fun h a o => s_iRl (d + 1) o) kRl o, st_pO (X := St_init (d + 2)) (i := iSt) (fun h a o => s_iSt (d + 1) o) kSt (o.pO kRl), st_pA ((o.pO kRl).pO kSt) (by decide)]
  rfl
theorem s_cD (d : Nat) (o : OK h 3 10) (o1 : Option mv) : C_init_46 (d + 2) 3 o1 h = C_init_59 (d + 2) 3 o1 (cD 3 h) := by
  rw [e_C_init_46, st_pA o (by decide), st_pA o.pA (by decide), st_pO (X := Dr_init (d + 2)) (i := iDr) (fun h a o => s_iDr (d + 1) o) kDr o.pA.pA]
  rfl
theorem s_cF {g : mh} (d : Nat) (hg : g = cE 3 h) (o : OK h 3 10) (o1 : Option mv) (q : mP g 3 11 = 110) (k : DK g 110) (t : DR g 110 [] []) (hg6 : mT g = 116) : C_init_59 (d + 4) 3 o1 h = C_init_73 (d + 4) 3 (nI 0) (cF 3 g) := by
  have og : OK g 3 10 := by rw [hg]; exact o.cE
  have oc : OK (iClq g) 3 10 := og.iCl
  have e1 := s_iCl k t (by omega) d
  have n1 : mK (mnw g 1 5) 3 = 10 := (og.nw (K := 1) (n := 5)).2.2
  have n2 : mK (mnw g 1 5) (mT g) = 1 := (OK.new (h := g) (K := 1) (n := 5) og.t).2.2
  have n3 : mP (mnw g 1 5) 3 11 = 110 := by rw [mP_nw, if_neg (by omega)]; exact q
  have n4 := oc.2.2
  rw [e_C_init_59, st_pO (X := Dr_init (d + 4)) (i := iDr) (fun h a o => s_iDr (d + 3) o) kDr o]
  have hg' : pO h 2 3 3 12 iDr = g := hg.symm
  rw [hg']
  repeat (first | with_reducible refine hE ?_ | with_reducible refine hLi ?_ | (with_reducible apply hT; · (first | omega | (simp (disch := omega) only [n1, n2, n3, qadd, qmul, qcl, qle, qlt, qeq, qlt0, q0le, qeq0, qle0, q0lt, true_or, or_true, false_or, or_false, true_and, and_true, false_and, and_false, eq_self, not_true_eq_false, not_false_eq_true, qz0, qz1, q00, q01, q10, q11, zb_z, zb_0, zb_1, zor, Bool.true_eq_false, Bool.false_eq_true, Bool.and_true, Bool.and_false, Bool.true_and, Bool.false_and, Bool.or_true, Bool.or_false, Bool.true_or, Bool.false_or, decide_eq_true_eq, decide_eq_false_iff_not, reduceCtorEq]; done) | (simp (disch := omega) only [n1, n2, n3, qadd, qmul, qcl, qle, qlt, qeq, qlt0, q0le, qeq0, qle0, q0lt, true_or, or_true, false_or, or_false, true_and, and_true, false_and, and_false, eq_self, not_true_eq_false, not_false_eq_true, qz0, qz1, q00, q01, q10, q11, zb_z, zb_0, zb_1, zor, Bool.true_eq_false, Bool.false_eq_true, Bool.and_true, Bool.and_false, Bool.true_and, Bool.false_and, Bool.or_true, Bool.or_false, Bool.true_or, Bool.false_or, decide_eq_true_eq, decide_eq_false_iff_not, reduceCtorEq]; omega))) | (with_reducible apply hF; · (first | omega | (simp (disch := omega) only [n1, n2, n3, qadd, qmul, qcl, qle, qlt, qeq, qlt0, q0le, qeq0, qle0, q0lt, true_or, or_true, false_or, or_false, true_and, and_true, false_and, and_false, eq_self, not_true_eq_false, not_false_eq_true, qz0, qz1, q00, q01, q10, q11, zb_z, zb_0, zb_1, zor, Bool.true_eq_false, Bool.false_eq_true, Bool.and_true, Bool.and_false, Bool.true_and, Bool.false_and, Bool.or_true, Bool.or_false, Bool.true_or, Bool.false_or, decide_eq_true_eq, decide_eq_false_iff_not, reduceCtorEq]; done) | (simp (disch := omega) only [n1, n2, n3, qadd, qmul, qcl, qle, qlt, qeq, qlt0, q0le, qeq0, qle0, q0lt, true_or, or_true, false_or, or_false, true_and, and_true, false_and, and_false, eq_self, not_true_eq_false, not_false_eq_true, qz0, qz1, q00, q01, q10, q11, zb_z, zb_0, zb_1, zor, Bool.true_eq_false, Bool.false_eq_true, Bool.and_true, Bool.and_false, Bool.true_and, Bool.false_and, Bool.or_true, Bool.or_false, Bool.true_or, Bool.false_or, decide_eq_true_eq, decide_eq_false_iff_not, reduceCtorEq]; omega))))
  rw [n3]
  repeat (first | with_reducible refine hE ?_ | with_reducible refine hLi ?_ | (with_reducible apply hI; · (first | exact e1 | (simp (disch := omega) only [n4, qadd, qmul, qcl, qle, qlt, qeq, qlt0, q0le, qeq0, qle0, q0lt, true_or, or_true, false_or, or_false, true_and, and_true, false_and, and_false, eq_self, not_true_eq_false, not_false_eq_true, qz0, qz1, q00, q01, q10, q11, zb_z, zb_0, zb_1, zor, Bool.true_eq_false, Bool.false_eq_true, Bool.and_true, Bool.and_false, Bool.true_and, Bool.false_and, Bool.or_true, Bool.or_false, Bool.true_or, Bool.false_or, decide_eq_true_eq, decide_eq_false_iff_not, reduceCtorEq]; first | exact e1))) | (with_reducible apply hP; · (first | exact e1 | (simp (disch := omega) only [n4, qadd, qmul, qcl, qle, qlt, qeq, qlt0, q0le, qeq0, qle0, q0lt, true_or, or_true, false_or, or_false, true_and, and_true, false_and, and_false, eq_self, not_true_eq_false, not_false_eq_true, qz0, qz1, q00, q01, q10, q11, zb_z, zb_0, zb_1, zor, Bool.true_eq_false, Bool.false_eq_true, Bool.and_true, Bool.and_false, Bool.true_and, Bool.false_and, Bool.or_true, Bool.or_false, Bool.true_or, Bool.false_or, decide_eq_true_eq, decide_eq_false_iff_not, reduceCtorEq]; first | exact e1))) | (with_reducible apply hV; · (first | exact e1 | (simp (disch := omega) only [n4, qadd, qmul, qcl, qle, qlt, qeq, qlt0, q0le, qeq0, qle0, q0lt, true_or, or_true, false_or, or_false, true_and, and_true, false_and, and_false, eq_self, not_true_eq_false, not_false_eq_true, qz0, qz1, q00, q01, q10, q11, zb_z, zb_0, zb_1, zor, Bool.true_eq_false, Bool.false_eq_true, Bool.and_true, Bool.and_false, Bool.true_and, Bool.false_and, Bool.or_true, Bool.or_false, Bool.true_or, Bool.false_or, decide_eq_true_eq, decide_eq_false_iff_not, reduceCtorEq]; first | exact e1))) | (with_reducible apply hT; · (first | omega | (simp (disch := omega) only [n4, qadd, qmul, qcl, qle, qlt, qeq, qlt0, q0le, qeq0, qle0, q0lt, true_or, or_true, false_or, or_false, true_and, and_true, false_and, and_false, eq_self, not_true_eq_false, not_false_eq_true, qz0, qz1, q00, q01, q10, q11, zb_z, zb_0, zb_1, zor, Bool.true_eq_false, Bool.false_eq_true, Bool.and_true, Bool.and_false, Bool.true_and, Bool.false_and, Bool.or_true, Bool.or_false, Bool.true_or, Bool.false_or, decide_eq_true_eq, decide_eq_false_iff_not, reduceCtorEq]; done) | (simp (disch := omega) only [n4, qadd, qmul, qcl, qle, qlt, qeq, qlt0, q0le, qeq0, qle0, q0lt, true_or, or_true, false_or, or_false, true_and, and_true, false_and, and_false, eq_self, not_true_eq_false, not_false_eq_true, qz0, qz1, q00, q01, q10, q11, zb_z, zb_0, zb_1, zor, Bool.true_eq_false, Bool.false_eq_true, Bool.and_true, Bool.and_false, Bool.true_and, Bool.false_and, Bool.or_true, Bool.or_false, Bool.true_or, Bool.false_or, decide_eq_true_eq, decide_eq_false_iff_not, reduceCtorEq]; omega))) | (with_reducible apply hF; · (first | omega | (simp (disch := omega) only [n4, qadd, qmul, qcl, qle, qlt, qeq, qlt0, q0le, qeq0, qle0, q0lt, true_or, or_true, false_or, or_false, true_and, and_true, false_and, and_false, eq_self, not_true_eq_false, not_false_eq_true, qz0, qz1, q00, q01, q10, q11, zb_z, zb_0, zb_1, zor, Bool.true_eq_false, Bool.false_eq_true, Bool.and_true, Bool.and_false, Bool.true_and, Bool.false_and, Bool.or_true, Bool.or_false, Bool.true_or, Bool.false_or, decide_eq_true_eq, decide_eq_false_iff_not, reduceCtorEq]; done) | (simp (disch := omega) only [n4, qadd, qmul, qcl, qle, qlt, qeq, qlt0, q0le, qeq0, qle0, q0lt, true_or, or_true, false_or, or_false, true_and, and_true, false_and, and_false, eq_self, not_true_eq_false, not_false_eq_true, qz0, qz1, q00, q01, q10, q11, zb_z, zb_0, zb_1, zor, Bool.true_eq_false, Bool.false_eq_true, Bool.and_true, Bool.and_false, Bool.true_and, Bool.false_and, Bool.or_true, Bool.or_false, Bool.true_or, Bool.false_or, decide_eq_true_eq, decide_eq_false_iff_not, reduceCtorEq]; omega))))
  rfl
theorem s_c73 {r : Nat} (d : Nat) : ∀ j x h, x + j = 2 → OH h 3 10 8 r 2 → C_init_73 (d + 1) 3 (nI x) h = some (none, itS r j x h) := by
  intro j
  induction j with
  | zero =>
    intro x h hx o
    obtain rfl : x = 2 := by omega
    rw [e_C_init_73]
    repeat (first | with_reducible refine hE ?_ | with_reducible refine hLi ?_ | (with_reducible apply hT; · (first | omega | (simp (disch := omega) only [qadd, qmul, qcl, qle, qlt, qeq, qlt0, q0le, qeq0, qle0, q0lt, true_or, or_true, false_or, or_false, true_and, and_true, false_and, and_false, eq_self, not_true_eq_false, not_false_eq_true, qz0, qz1, q00, q01, q10, q11, zb_z, zb_0, zb_1, zor, Bool.true_eq_false, Bool.false_eq_true, Bool.and_true, Bool.and_false, Bool.true_and, Bool.false_and, Bool.or_true, Bool.or_false, Bool.true_or, Bool.false_or, decide_eq_true_eq, decide_eq_false_iff_not, reduceCtorEq]; done) | (simp (disch := omega) only [qadd, qmul, qcl, qle, qlt, qeq, qlt0, q0le, qeq0, qle0, q0lt, true_or, or_true, false_or, or_false, true_and, and_true, false_and, and_false, eq_self, not_true_eq_false, not_false_eq_true, qz0, qz1, q00, q01, q10, q11, zb_z, zb_0, zb_1, zor, Bool.true_eq_false, Bool.false_eq_true, Bool.and_true, Bool.and_false, Bool.true_and, Bool.false_and, Bool.or_true, Bool.or_false, Bool.true_or, Bool.false_or, decide_eq_true_eq, decide_eq_false_iff_not, reduceCtorEq]; omega))) | (with_reducible apply hF; · (first | omega | (simp (disch := omega) only [qadd, qmul, qcl, qle, qlt, qeq, qlt0, q0le, qeq0, qle0, q0lt, true_or, or_true, false_or, or_false, true_and, and_true, false_and, and_false, eq_self, not_true_eq_false, not_false_eq_true, qz0, qz1, q00, q01, q10, q11, zb_z, zb_0, zb_1, zor, Bool.true_eq_false, Bool.false_eq_true, Bool.and_true, Bool.and_false, Bool.true_and, Bool.false_and, Bool.or_true, Bool.or_false, Bool.true_or, Bool.false_or, decide_eq_true_eq, decide_eq_false_iff_not, reduceCtorEq]; done) | (simp (disch := omega) only [qadd, qmul, qcl, qle, qlt, qeq, qlt0, q0le, qeq0, qle0, q0lt, true_or, or_true, false_or, or_false, true_and, and_true, false_and, and_false, eq_self, not_true_eq_false, not_false_eq_true, qz0, qz1, q00, q01, q10, q11, zb_z, zb_0, zb_1, zor, Bool.true_eq_false, Bool.false_eq_true, Bool.and_true, Bool.and_false, Bool.true_and, Bool.false_and, Bool.or_true, Bool.or_false, Bool.true_or, Bool.false_or, decide_eq_true_eq, decide_eq_false_iff_not, reduceCtorEq]; omega))))
    rfl
  | succ j ih =>
    intro x h hx o
    rw [e_C_init_73, if_neg (by rw [qle (by omega) (by omega)]; omega), st_sT o (by omega) (by omega), qadd]
    exact ih (x + 1) _ (by omega) o.sT
end
/-! the reference's constructor -/
def nA (a : Nat) (h : mh) : mh := pA (pA (pA h 21 2427 a 1) 21 8090 a 2) 22 2 a 4
def nB (a : Nat) (h : mh) : mh := msi (pA (pA h 21 100 a 5) 21 30 a 6) a 15 (-1)
def nC (a : Nat) (h : mh) : mh := pA (pA (pA h 21 30 a 16) 21 36 a 19) 21 5 a 20
def nD (a : Nat) (h : mh) : mh := pA (pA (pA h 21 5 a 21) 21 6 a 22) 21 30 a 31
def nE (a : Nat) (h : mh) : mh := pA (pA (pA h 21 30 a 32) 21 1000 a 33) 21 40 a 34
def nF (a : Nat) (h : mh) : mh := pA (pA (pA h 21 8 a 35) 21 24 a 36) 21 193 a 37
def nG (a : Nat) (h : mh) : mh := pA (pA (pA h 21 193 a 38) 21 193 a 39) 21 193 a 40
def nH (a : Nat) (h : mh) : mh := pA (pA (pA h 21 193 a 41) 21 24 a 42) 21 9 a 43
def nJ (a : Nat) (h : mh) : mh := pA (pA (pA h 22 193 a 44) 22 576 a 46) 21 24 a 47
def nS (h : mh) : mh := nJ 128 (nH 128 (nG 128 (nF 128 (nE 128 (nD 128 (nC 128 (nB 128 (nA 128 h))))))))
section
variable {h : mh}
theorem s_nS (d : Nat) (o : OK h 128 11) : N_init (d + 1) 128 h = N_init_109 d 128 (nS h) := by
  have o1 : OK (nA 128 h) 128 11 := o.pA.pA.pA
  have o2 : OK (nB 128 (nA 128 h)) 128 11 := o1.pA.pA.si
  have o3 : OK (nC 128 (nB 128 (nA 128 h))) 128 11 := o2.pA.pA.pA
  have o4 : OK (nD 128 (nC 128 (nB 128 (nA 128 h)))) 128 11 := o3.pA.pA.pA
  have o5 : OK (nE 128 (nD 128 (nC 128 (nB 128 (nA 128 h))))) 128 11 := o4.pA.pA.pA
  have o6 : OK (nF 128 (nE 128 (nD 128 (nC 128 (nB 128 (nA 128 h)))))) 128 11 := o5.pA.pA.pA
  have o7 : OK (nG 128 (nF 128 (nE 128 (nD 128 (nC 128 (nB 128 (nA 128 h))))))) 128 11 := o6.pA.pA.pA
  have o8 : OK (nH 128 (nG 128 (nF 128 (nE 128 (nD 128 (nC 128 (nB 128 (nA 128 h)))))))) 128 11 := o7.pA.pA.pA
  rw [e_N_init, if_neg (a_ne o), st_pA o (by decide), st_pA o.pA (by decide), st_pA o.pA.pA (by decide)]
  show N_init_14 d 128 (nA 128 h) = _
  rw [e_N_init_14, st_pA o1 (by decide), st_pA o1.pA (by decide), if_pos o1.pA.pA.2.2]
  show N_init_25 d 128 (nB 128 (nA 128 h)) = _
  rw [e_N_init_25, st_pA o2 (by decide), st_pA o2.pA (by decide), st_pA o2.pA.pA (by decide)]
  show N_init_37 d 128 (nC 128 (nB 128 (nA 128 h))) = _
  rw [e_N_init_37, st_pA o3 (by decide), st_pA o3.pA (by decide), st_pA o3.pA.pA (by decide)]
  show N_init_49 d 128 (nD 128 (nC 128 (nB 128 (nA 128 h)))) = _
  rw [e_N_init_49, st_pA o4 (by decide), st_pA o4.pA (by decide), st_pA o4.pA.pA (by decide)]
  show N_init_61 d 128 (nE 128 (nD 128 (nC 128 (nB 128 (nA 128 h))))) = _
  rw [e_N_init_61, st_pA o5 (by decide), st_pA o5.pA (by decide), st_pA o5.pA.pA (by decide)]
  show N_init_73 d 128 (nF 128 (nE 128 (nD 128 (nC 128 (nB 128 (nA 128 h)))))) = _
  rw [e_N_init_73, st_pA o6 (by decide), st_pA o6.pA (by decide), st_pA o6.pA.pA (by decide)]
  show N_init_85 d 128 (nG 128 (nF 128 (nE 128 (nD 128 (nC 128 (nB 128 (nA 128 h))))))) = _
  rw [e_N_init_85, st_pA o7 (by decide), st_pA o7.pA (by decide), st_pA o7.pA.pA (by decide)]
  show N_init_97 d 128 (nH 128 (nG 128 (nF 128 (nE 128 (nD 128 (nC 128 (nB 128 (nA 128 h)))))))) = _
  rw [e_N_init_97, st_pA o8 (by decide), st_pA o8.pA (by decide), st_pA o8.pA.pA (by decide)]
  rfl
theorem EQ.nS {h' : mh} (e : EQ h h') : EQ (nS h) (nS h') := e.pA.pA.pA.pA.pA.si.pA.pA.pA.pA.pA.pA.pA.pA.pA.pA.pA.pA.pA.pA.pA.pA.pA.pA.pA.pA.pA
theorem IZ.nS (z : IZ h) : IZ (nS h) := ((z.pA.pA.pA.pA.pA).si (Or.inr (Or.inl ⟨rfl, rfl⟩))).pA.pA.pA.pA.pA.pA.pA.pA.pA.pA.pA.pA.pA.pA.pA.pA.pA.pA.pA.pA.pA
theorem eq_c13 {h' : mh} (e : EQ h h') : EQ (c13 h) (c13 h') := (((((((((((((e.pO EQ.iRe).pO EQ.iMa).pO EQ.iTr).pO eq_iPa).pO eq_iHi).pO EQ.iRl).pO EQ.iRl).pO EQ.iSt).pA).pA).pA).pO EQ.iDr).pO EQ.iDr)
theorem eq_cF {h' : mh} (e : EQ h h') : EQ (cF 3 h) (cF 3 h') := by
  unfold cF
  rw [e.T]
  exact e.iCl.sp
theorem iz_c13 (z : IZ h) (hT : mT h = 4) : IZ (c13 h) := by
  have z1 : IZ (pO h 6 7 3 0 iRe) := by
    unfold pO
    rw [hT]
    exact (((z.nw.pA).pO IZ.iDr).si (Or.inl ⟨rfl, rfl⟩)).sp
  exact ((((((((((((z1.pO IZ.iMa).pO IZ.iTr).pO IZ.iPa).pO IZ.iHi).pO IZ.iRl).pO IZ.iRl).pO IZ.iSt).pA).pA).pA).pO IZ.iDr).pO IZ.iDr)
theorem IZ.cF (z : IZ h) : IZ (cF 3 h) := z.iCl.sp
end
