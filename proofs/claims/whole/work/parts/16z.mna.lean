/-! ===== the operation is sound: new int[n][k] (over the library's law of multianewarray) ===== -/
theorem mws_D (g : mG) (h : mh) : va_D (gA g) (mws g h) := by
  have key : ∀ (i : Nat) (q : Nat × va_E), (mws g h)[i]? = some q → q.1 = gB g + i := by
    intro i q hq
    unfold mws at hq
    rw [List.getElem?_map] at hq
    cases hz : (List.range (mT h - 3))[i]? with
    | none => rw [hz] at hq; cases hq
    | some j =>
      have hj : j = i := by
        obtain ⟨q1, q2⟩ := List.getElem?_eq_some_iff.mp hz
        rw [List.getElem_range] at q2
        exact q2.symm
      rw [hz] at hq
      cases hq
      rw [hj]
  refine ⟨fun i j p q hp hq e => ?_, fun k q hq => ?_⟩
  · rw [key i p hp, key j q hq] at e
    omega
  · show gB g ≤ q.1
    rw [key k q hq]
    exact Nat.le_add_right _ _
theorem mna_outer (c : ClassId) (N h0 : Nat) : ∀ i : Nat, Jvm.Free.Multi.outerC c N h0 i = arrV c N (fun j => va_rf (if j < i then some (h0 + 1 + j) else none))
  | 0 => by
    show ({ cls := c, slots := Array.replicate N .null, vm := .none } : Cell) = _
    rw [arrV_new]
    refine congrArg (arrV c N) (funext fun j => ?_)
    simp [va_rf]
  | i + 1 => by
    show (Jvm.Free.Multi.outerC c N h0 i).setSlot i (.ref (h0 + 1 + i)) = _
    rw [mna_outer c N h0 i, arrV_store]
    refine congrArg (arrV c N) (funext fun j => ?_)
    by_cases e : j = i
    · subst e
      simp [updV, va_rf]
    · by_cases h : j < i
      · simp [updV, e, h, Nat.lt_succ_of_lt h]
      · simp [updV, e, h, show ¬ j < i + 1 by omega]
theorem mK_nw2 {h : mh} {n k b : Nat} : mK (mnw2 h n k) b = if b = mT h then 25 else if mT h < b ∧ b < mT h + 1 + n then 21 else mK h b := by
  show (if b = mT h then (25, n) else if mT h < b ∧ b < mT h + 1 + n then (21, k) else h.2.2.1 b).1 = _
  split
  · rfl
  · split <;> rfl
theorem mN_nw2 {h : mh} {n k b : Nat} : mN (mnw2 h n k) b = if b = mT h then n else if mT h < b ∧ b < mT h + 1 + n then k else mN h b := by
  show (if b = mT h then (25, n) else if mT h < b ∧ b < mT h + 1 + n then (21, k) else h.2.2.1 b).2 = _
  split
  · rfl
  · split <;> rfl
theorem mI_nw2 {h : mh} {n k b j : Nat} : mI (mnw2 h n k) b j = if mT h ≤ b ∧ b < mT h + 1 + n then 0 else mI h b j := rfl
theorem mP_nw2 {h : mh} {n k b j : Nat} : mP (mnw2 h n k) b j = if b = mT h then (if j < n then mT h + 1 + j else 0) else if mT h < b ∧ b < mT h + 1 + n then 0 else mP h b j := rfl
theorem mT_nw2 {h : mh} {n k : Nat} : mT (mnw2 h n k) = mT h + 1 + n := rfl
theorem mU_nw2 {h : mh} {n k : Nat} : mU (mnw2 h n k) = mU h + n + n * k := rfl
theorem mHp.push2 {g : mG} {h : mh} {n k : Nat} (H : mHp g h) : mHp g (mnw2 h n k) := by
  obtain ⟨q1, q2, ⟨q3, q4, q5⟩, ⟨q6, q7, q8⟩, q9, q10, q11, q12⟩ := H
  have low : ∀ a, a < 3 → mK (mnw2 h n k) a = mK h a ∧ mN (mnw2 h n k) a = mN h a ∧ ∀ j, mI (mnw2 h n k) a j = mI h a j := by
    intro a ha
    refine ⟨by rw [mK_nw2, if_neg (by omega), if_neg (by omega)], by rw [mN_nw2, if_neg (by omega), if_neg (by omega)], fun j => by rw [mI_nw2, if_neg (by omega)]⟩
  refine ⟨by rw [mT_nw2]; omega, by rw [(low 0 (by omega)).1]; exact q2, ⟨by rw [(low 1 (by omega)).1]; exact q3, by rw [(low 1 (by omega)).2.1]; exact q4, fun j => by rw [(low 1 (by omega)).2.2]; exact q5 j⟩, ⟨by rw [(low 2 (by omega)).1]; exact q6, by rw [(low 2 (by omega)).2.1]; exact q7, fun j hj => by rw [(low 2 (by omega)).2.2]; exact q8 j hj⟩, fun a ha => ?_, fun a => ?_, fun a => ?_, fun a => ?_⟩
  · rw [mT_nw2] at ha
    rw [mK_nw2, if_neg (by omega), if_neg (by omega)]
    exact q9 a (by omega)
  · rw [mK_nw2, mN_nw2]
    split
    · omega
    · split
      · omega
      · exact q10 a
  · rw [mK_nw2]
    split
    · omega
    · split
      · omega
      · exact q11 a
  · rw [mK_nw2]
    split
    · omega
    · split
      · omega
      · exact q12 a
theorem ok_mna {own : String} {cc : ByteArray} {nL : Nat} {nl ini : Bool} {ret : Option FieldType} {P : Nat → Nat} {i pc idx : Nat} (hcl : Cond.classLink own idx "[[I" ∈ mgw) (hac : Cond.arrayClass .int ∈ mgw) (hp : P i = pc) (hq : P (i + 1) = pc + 4) (hd : decode cc pc = .ok (.multianewarray idx 2, 4)) : mOk own cc nL nl ini ret P i o_mna := by
  intro C L S h k q hk
  rcases S with _ | ⟨n2 | n2 | n2, _ | ⟨n1 | n1 | n1, S⟩⟩ <;> first
    | exact absurd hk.symm (Option.some_ne_none _)
    | skip
  by_cases hn : n1 < 0 ∨ n2 < 0 ∨ 10000 < n1.toNatClampNeg ∨ 10000 < n2.toNatClampNeg
  · exact absurd (hk.symm.trans (if_pos hn)) (Option.some_ne_none _)
  refine Or.inl ⟨i + 1, L, vr (mT h) :: S, mnw2 h n1.toNatClampNeg n2.toNatClampNeg, (if_neg hn).symm.trans hk, fun _ => ⟨by rw [mT_nw2]; omega, by rw [mU_nw2]; omega⟩, fun _ _ _ _ hk' => (if_neg hn).trans hk', ?_⟩
  intro g d p l e R s m args below meth c Q h0 hSz hSd hC hT hU hT0 hU0 hw H locs ls hR hS hL
  obtain ⟨⟨hx, hb, hml, hown⟩, hts, hE, ⟨-, -, hrc, hrs⟩, ⟨hsz, h03, -⟩, -⟩ := hC
  have h3 := hR.2.2.1
  rw [mT_nw2] at hT
  rw [mU_nw2] at hU
  have hn1 : ¬ n1 < 0 := fun z => hn (Or.inl z)
  have hn2 : ¬ n2 < 0 := fun z => hn (Or.inr (Or.inl z))
  have hn3 : ¬ 10000 < n1.toNatClampNeg := fun z => hn (Or.inr (Or.inr (Or.inl z)))
  have hn4 : ¬ 10000 < n2.toNatClampNeg := fun z => hn (Or.inr (Or.inr (Or.inr z)))
  generalize hN : n1.toNatClampNeg = N at *
  generalize hM : n2.toNatClampNeg = M at *
  rw [hp]
  intro T hTH X
  have hz1 := X.heapSize
  rw [hTH] at hz1
  have hHz := mRp.size hR hS hsz hT0 h03 hz1
  have est : "[" ++ (FieldType.array .int).toString = "[[I" := by decide +kernel
  obtain ⟨vm₁, cA, comp, -, fA, fC, hO, -, X', step⟩ := X.multianewarray2F hx (ty := .int) hown (by rw [est]; exact hts _ hcl) (show (Cond.arrayOver (.array .int)).before args s = true from hE.2.2.2.2.1) (hts _ hac) (g := F0 m pc ls (.int n2 :: .int n1 :: S.map (mcv g))) rfl (by rw [hb]; exact hd) rfl hn1 hn2 (by omega) (by show _ * 4 ≤ _; omega) (by omega) rfl rfl (by rw [hN]; omega) (by rw [hN, hM]; omega)
  rw [hN, hM] at X' step
  have eA : cA = g.2.1.2.2.2.2 := by
    have z2 : s.vm.findClass ("[" ++ (FieldType.array .int).toString) = some g.2.1.2.2.2.2 := (hE.1.2 4 _ rfl).2
    exact Option.some.inj (fA.symm.trans z2)
  have eC : comp = g.2.1.1 := by
    have z2 : s.vm.findClass ("[" ++ FieldType.int.toString) = some g.2.1.1 := (hE.1.2 0 _ rfl).2
    have z3 : "[" ++ FieldType.int.toString = (FieldType.array .int).toString := by decide +kernel
    rw [z3] at z2
    exact Option.some.inj (fC.symm.trans z2)
  subst eA
  subst eC
  generalize hF : Jvm.Free.Multi.fill (T.setVm vm₁) g.2.1.2.2.2.2 g.2.1.1 N M (defaultValue .int) N = F at X' step
  have hTh : (T.setVm vm₁).heap = H := hTH
  obtain ⟨f1, f2, -, -⟩ := Jvm.Free.Multi.fill_facts (T.setVm vm₁) g.2.1.2.2.2.2 g.2.1.1 N M (defaultValue .int) N
  rw [hF, hTh] at f1 f2
  have hold : ∀ x : Nat, x < H.size → F.heap[x]? = H[x]? := fun x hx => by
    have := Jvm.Free.Multi.fill_old (T.setVm vm₁) g.2.1.2.2.2.2 g.2.1.1 N M (defaultValue .int) (a := x) (by rw [hTh]; exact hx) N
    rw [hF, hTh] at this
    exact this
  have hrow : ∀ j : Nat, j < N → F.heap[H.size + 1 + j]? = some (vp_cell g.2.1.1 (M, .inl (fun _ => 0))) := fun j hj => by
    have := Jvm.Free.Multi.fill_inner (T.setVm vm₁) g.2.1.2.2.2.2 g.2.1.1 N M (defaultValue .int) N j hj
    rw [hF, hTh] at this
    rw [this, vp_cell_i, ← arrV_new]
    rfl
  rw [mna_outer] at f2
  have hR1 : mRp g (mnw2 h N M) F.heap := by
    refine ⟨fun kk x hkk => ?_, mws_D g _, hR.2.2.push2⟩
    have hlt : kk < mT h + 1 + N - 3 := by
      have := (List.getElem?_eq_some_iff.mp hkk).1
      unfold mws at this
      rw [List.length_map, List.length_range, mT_nw2] at this
      exact this
    have hat := mws_at (g := g) (h := mnw2 h N M) (a := kk + 3) (by omega) (by rw [mT_nw2]; omega)
    rw [show kk + 3 - 3 = kk by omega] at hat
    rw [hat] at hkk
    have hx' : (mad g (kk + 3), mce g (mnw2 h N M) (kk + 3)) = x := Option.some.inj hkk
    subst hx'
    have em : mad g (kk + 3) = gB g + kk := by
      unfold mad
      rw [if_neg (by omega), if_neg (by omega)]
      omega
    rcases Nat.lt_trichotomy (kk + 3) (mT h) with z | z | z
    · have e2 : mce g (mnw2 h N M) (kk + 3) = mce g h (kk + 3) := mce_eq (by rw [mK_nw2, if_neg (by omega), if_neg (by omega)]) (by rw [mN_nw2, if_neg (by omega), if_neg (by omega)]) (by funext j; rw [mI_nw2, if_neg (by omega)]) (by funext j; rw [mP_nw2, if_neg (by omega), if_neg (by omega)])
      rw [e2]
      have h9 := mws_at (g := g) (h := h) (a := kk + 3) (by omega) z
      have h8 := hR.1 _ _ h9
      exact h8.kept (hold _ h8.lt)
    · show va_at (gD g) vwCl (mad g (kk + 3), mce g (mnw2 h N M) (kk + 3)) F.heap
      rw [mce_ii (by rw [mK_nw2, if_pos z]), mN_nw2, if_pos z, em]
      show F.heap[gB g + kk]? = some (vp_cell _ _)
      rw [show gB g + kk = H.size by omega, f2, vp_cell_q]
      congr 2
      funext j
      rw [mP_nw2, if_pos z]
      by_cases hj : j < N
      · rw [if_pos hj, if_pos hj]
        unfold mro mad
        rw [if_neg (by omega), if_neg (by omega), if_neg (by omega)]
        congr 2
        omega
      · rw [if_neg hj, if_neg hj]
        rfl
    · show va_at (gD g) vwCl (mad g (kk + 3), mce g (mnw2 h N M) (kk + 3)) F.heap
      have eI : mI (mnw2 h N M) (kk + 3) = fun _ => 0 := by
        funext j
        rw [mI_nw2, if_pos (by omega)]
      rw [mce_int (by rw [mK_nw2, if_neg (by omega), if_pos (by omega)]), mN_nw2, if_neg (by omega), if_pos (by omega), eI, em]
      show F.heap[gB g + kk]? = some (vp_cell _ _)
      have := hrow (kk + 3 - mT h - 1) (by omega)
      rw [show H.size + 1 + (kk + 3 - mT h - 1) = gB g + kk by omega] at this
      exact this
  have hS1 : va_S (gA g) s.heap F.heap locs := ⟨by rw [f1]; have := hS.1; omega, fun x z1 z2 => (hold x (Nat.lt_of_lt_of_le z1 hS.1)).trans (hS.2.1 x z1 z2), hS.2.2⟩
  have hw := hw F.heap locs ls hR1 hS1 hL
  have ec : mT (mnw2 h N M) - mT h0 = mT h - mT h0 + 1 + N := by rw [mT_nw2]; omega
  have es : mU (mnw2 h N M) - mU h0 = mU h - mU h0 + N + N * M := by rw [mU_nw2]; omega
  rw [hq, ec, es] at hw
  have hw : W p l e R s m args below meth c F.heap locs (mT h - mT h0 + 1 + N) (mU h - mU h0 + N + N * M) Q (F0 m (pc + 4) ls (mrf g (mT h) :: S.map (mcv g))) := hw
  rw [mrf_top h3] at hw
  obtain ⟨t, a1, b1⟩ := hw F rfl X'
  refine ⟨t, step t ?_, b1⟩
  rw [hTH, hHz]
  exact a1
