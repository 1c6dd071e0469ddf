/-! ===== the law's start, out of a claim on the small machine alone (made by wip/whole/gen_start.py) ===== -/
def mh0 (L : Nat) (xs : Nat → Int32) : mh := (fun a j => if a = 1 then xs j else if a = 2 then mptv j else 0, fun _ _ => 0, fun a => if a = 1 then (31, L) else if a = 2 then (32, 4) else (0, 0), 3, 0)
theorem mnest_tab {w : Cond} (hw : mnest w = true) : w.onTables = true := by
  cases w <;> first | rfl | exact nomatch hw
set_option maxRecDepth 20000 in
theorem start_env {p : Program} {s : State} {m : MethodId} {meth : Method} {c : Code} {b L : Nat} {xs : Nat → Int32} (C0 : lw_At p s m meth c b L xs) : ∃ g : mG, gb g = b ∧ gL g = L ∧ gx g = xs ∧ gB g = s.heap.size ∧ mE g s s.heap := by
  obtain ⟨hx, hb, hr, hml, hown, hts, hX, hbl, hlocks, hgv⟩ := C0
  have htg : ∀ w ∈ mgw, w.before #[Value.ref b] s = true := fun w hw => hts w (List.mem_filter.mp hw).1
  have hk : ∀ (c : Nat) (q : vw_C), vwCl[c]? = some q → ∃ (cC : ClassId) (iS : Nat → Nat), u_Kn s q.1 q.2.1 q.2.2 cC iS := by
    intro c q hq
    match c, hq with
    | 0, hq => cases hq; exact u_known htg inw_1 (hts (Cond.instantiable "ClauseIndex$Clause" 5) (mtin_1 (List.mem_of_getElem? (i := 221) (by decide +kernel))))
    | 1, hq => cases hq; exact u_known htg inw_2 (hts (Cond.instantiable "ClauseIndex$Draft" 3) (mtin_1 (List.mem_of_getElem? (i := 29) (by decide +kernel))))
    | 2, hq => cases hq; exact u_known htg inw_3 (hts (Cond.instantiable "ClauseIndex$History" 3) (mtin_1 (List.mem_of_getElem? (i := 157) (by decide +kernel))))
    | 3, hq => cases hq; exact u_known htg inw_4 (hts (Cond.instantiable "ClauseIndex$Matcher" 9) (mtin_1 (List.mem_of_getElem? (i := 68) (by decide +kernel))))
    | 4, hq => cases hq; exact u_known htg inw_5 (hts (Cond.instantiable "ClauseIndex$Parting" 7) (mtin_1 (List.mem_of_getElem? (i := 127) (by decide +kernel))))
    | 5, hq => cases hq; exact u_known htg inw_6 (hts (Cond.instantiable "ClauseIndex$Reader" 7) (mtin_1 (List.mem_of_getElem? (i := 23) (by decide +kernel))))
    | 6, hq => cases hq; exact u_known htg inw_7 (hts (Cond.instantiable "ClauseIndex$Relation" 6) (mtin_1 (List.mem_of_getElem? (i := 192) (by decide +kernel))))
    | 7, hq => cases hq; exact u_known htg inw_8 (hts (Cond.instantiable "ClauseIndex$State" 3) (mtin_1 (List.mem_of_getElem? (i := 164) (by decide +kernel))))
    | 8, hq => cases hq; exact u_known htg inw_9 (hts (Cond.instantiable "ClauseIndex$Tree" 6) (mtin_1 (List.mem_of_getElem? (i := 102) (by decide +kernel))))
    | 9, hq => cases hq; exact u_known htg inw_10 (hts (Cond.instantiable "ClauseIndex" 14) (mtin_1 (List.mem_of_getElem? (i := 15) (by decide +kernel))))
    | 10, hq => cases hq; exact u_known htg inw_11 (hts (Cond.instantiable "ClauseIndexModel" 48) (mtin_5 (List.mem_of_getElem? (i := 107) (by decide +kernel))))
    | c + 11, hq => simp [vwCl] at hq
  have hk2 : ∀ c : Nat, ∃ x : ClassId × (Nat → Nat), ∀ q : vw_C, vwCl[c]? = some q → u_Kn s q.1 q.2.1 q.2.2 x.1 x.2 := by
    intro c
    cases hc : vwCl[c]? with
    | none =>
      obtain ⟨c0, i0, -⟩ := hk 0 _ rfl
      exact ⟨(c0, i0), fun q h => by cases h⟩
    | some q =>
      obtain ⟨c0, i0, h0⟩ := hk c q hc
      exact ⟨(c0, i0), fun q' h => by cases h; exact h0⟩
  obtain ⟨cI, kI, pI, i1, i2, i3⟩ := Cond.arrayClass_spec (hts (Cond.arrayClass ClassFile.FieldType.int) (mtin_1 (List.mem_of_getElem? (i := 44) (by decide +kernel))))
  obtain ⟨cZ, kZ, pZ, z1, z2, z3⟩ := Cond.arrayClass_spec (hts (Cond.arrayClass ClassFile.FieldType.boolean) (mtin_6 (List.mem_of_getElem? (i := 17) (by decide +kernel))))
  have aoC := hts (Cond.arrayOver (ClassFile.FieldType.object "ClauseIndex$Clause")) (mtin_1 (List.mem_of_getElem? (i := 170) (by decide +kernel)))
  have aoS := hts (Cond.arrayOver (ClassFile.FieldType.object "ClauseIndex$State")) (mtin_1 (List.mem_of_getElem? (i := 163) (by decide +kernel)))
  have aoI := hts (Cond.arrayOver (ClassFile.FieldType.array ClassFile.FieldType.int)) (mtin_1 (List.mem_of_getElem? (i := 133) (by decide +kernel)))
  obtain ⟨pC, cC, kC, c1, -, c2, c3, c4⟩ := Cond.arrayOver_spec aoC
  obtain ⟨pS, cS, kS, s1, -, s2, s3, s4⟩ := Cond.arrayOver_spec aoS
  obtain ⟨pA, cA, kA, a1, -, a2, a3, a4⟩ := va_AI.spec aoI
  have hA : ∀ a : Nat, a < s.heap.size → ¬ (fun q => s.heap.size ≤ q) a := fun a h => Nat.not_le.mpr h
  have hfl := flat_of_before _ hgv
  have hlen := va_eqt (hfl (Cond.eq (.length (.static "ClauseIndex" "PREDICATE_TERMS" "[I")) (.int 4)) (by decide +kernel))
  have he0 := va_eqt (hfl (Cond.eq (.elem (.static "ClauseIndex" "PREDICATE_TERMS" "[I") (.int 0)) (.int 1)) (by decide +kernel))
  have he1 := va_eqt (hfl (Cond.eq (.elem (.static "ClauseIndex" "PREDICATE_TERMS" "[I") (.int 1)) (.int 2)) (by decide +kernel))
  have he2 := va_eqt (hfl (Cond.eq (.elem (.static "ClauseIndex" "PREDICATE_TERMS" "[I") (.int 2)) (.int 0)) (by decide +kernel))
  have he3 := va_eqt (hfl (Cond.eq (.elem (.static "ClauseIndex" "PREDICATE_TERMS" "[I") (.int 3)) (.int 1)) (by decide +kernel))
  obtain ⟨t, ht, hT⟩ := va_Tof (A := fun q => s.heap.size ≤ q) (N := 4) (f := fun j => .int (mptv j)) (by decide) (hfl (Cond.arrayOf (.static "ClauseIndex" "PREDICATE_TERMS" "[I") .int) (by decide +kernel)) hlen (fun j hj => by
    rcases (show j = 0 ∨ j = 1 ∨ j = 2 ∨ j = 3 by omega) with rfl | rfl | rfl | rfl
    · exact he0
    · exact he1
    · exact he2
    · exact he3) hA
  have hZ := va_Zref (A := fun q => s.heap.size ≤ q) (hts (Cond.laysStatic "ClauseIndex" "PREDICATE_TERMS" "[I") (mtin_2 (List.mem_of_getElem? (i := 122) (by decide +kernel)))) (hts (Cond.initialized "ClauseIndex") (mtin_1 (List.mem_of_getElem? (i := 1) (by decide +kernel)))) ht hA
  refine ⟨((fun c => (Classical.choose (hk2 c)).1, fun c => (Classical.choose (hk2 c)).2), (cI, cZ, cC, cS, cA), (s.heap.size, b, t), L, xs), rfl, rfl, rfl, rfl, ⟨fun c q hq => Classical.choose_spec (hk2 c) q hq, fun k q hq => ?_⟩, fun w hw => va_Nw.of (mnest_tab (List.mem_filter.mp hw).2) (hts w (List.mem_filter.mp hw).1), aoC, aoS, aoI, hZ, hT, hX, hbl⟩
  match k, hq with
  | 0, hq => cases hq; exact ⟨fun n z => ⟨fun k h => (by cases h), kI, i2, pI, i3⟩, i1⟩
  | 1, hq => cases hq; exact ⟨fun n z => ⟨fun k h => (by cases h), kZ, z2, pZ, z3⟩, z1⟩
  | 2, hq => cases hq; exact ⟨fun n z => ⟨fun k h => (by cases h), kC, c2, pC, c3⟩, kC, pC, c2, c3, c1, c4⟩
  | 3, hq => cases hq; exact ⟨fun n z => ⟨fun k h => (by cases h), kS, s2, pS, s3⟩, kS, pS, s2, s3, s1, s4⟩
  | 4, hq => cases hq; exact ⟨fun n z => ⟨fun k h => (by cases h), kA, a2, pA, a3⟩, a4⟩
  | k + 5, hq => simp [gty] at hq
set_option maxRecDepth 20000 in
theorem start_open (hpure : ∀ (L : Nat) (xs : Nat → Int32), L ≤ 3072 → ∃ hf : mh, Lw_law 2000 1 (mh0 L xs) = some (some (vi 1), hf) ∧ mT hf ≤ 600003 ∧ mU hf ≤ 7302250)
    {p : Program} {e : Env} {s : State} {m : MethodId} {below : List Frame} {meth : Method} {c : Code} (l : Launch) {b L : Nat} {xs : Nat → Int32} (hL : L ≤ 3072) (C0 : lw_At p s m meth c b L xs) : W p l e room_1 s m #[Value.ref b] below meth c s.heap [] 0 0 (lw_Z below #[Value.ref b] s) (entryFrame m ([Value.ref b] : List Value).toArray 4) := by
  obtain ⟨g, eb, eL, ex, eB, hE⟩ := start_env C0
  obtain ⟨hx, hb, hr, hml, hown, hts, hX, hbl, hlocks, hgv⟩ := C0
  obtain ⟨hf, hrun, hT, hU⟩ := hpure L xs hL
  obtain ⟨hfit, n, hrun⟩ := mcall_out hrun
  have hz := (mrun_sound ok_Lw_law (mcall_sz mgood 1999) n _ _ _ _ _ hrun).2
  have hrt : mRt g p l e room_1 s m #[Value.ref b] below meth c (lw_Z below #[Value.ref b] s) cL_law (some .boolean) (mh0 L xs) (some (vi 1), hf) := by
    intro H locs ls pc hR hS
    refine ⟨fun v hv _ hdg => ?_, fun a hv => (by cases hv), fun hv => (by cases hv)⟩
    have hv : v = 1 := by
      have : (some (vi 1) : Option mv) = some (vi v) := hv
      injection this with this
      injection this with this
      exact this.symm
    subst hv
    refine va_forget (fun q hq => ?_) ?_
    · have := hS.2.2 q hq
      have this : gB g ≤ q.base := this
      omega
    · refine W.widen (k := 600000) (n := 7302250) (by show mT hf - 3 ≤ _; omega) (by show mU hf - 0 ≤ _; omega) ?_
      exact lw_ret hx hb hr hlocks hdg
  have hHp : mHp g (mh0 L xs) := by
    refine ⟨Nat.le_refl _, rfl, ⟨rfl, eL.symm, fun j => by rw [ex]; rfl⟩, ⟨rfl, rfl, fun j _ => rfl⟩, fun a ha => ?_, fun a => ?_, fun a => ?_, fun a => ?_⟩
    · have ha : 3 ≤ a := ha
      show (if a = 1 then (31, L) else if a = 2 then (32, 4) else (0, 0)).1 = 0
      rw [if_neg (by omega), if_neg (by omega)]
    · show 1 ≤ (if a = 1 then (31, L) else if a = 2 then (32, 4) else (0, 0)).1 → (if a = 1 then (31, L) else if a = 2 then (32, 4) else (0, 0)).1 ≤ 11 → _
      split
      · intro _ h; have h : 31 ≤ 11 := h; omega
      · split
        · intro _ h; have h : 32 ≤ 11 := h; omega
        · intro h; have h : 1 ≤ 0 := h; omega
    · show (if a = 1 then (31, L) else if a = 2 then (32, 4) else (0, 0)).1 = 31 → a = 1
      split
      · intro _; assumption
      · split
        · intro h; have h : 32 = 31 := h; omega
        · intro h; have h : 0 = 31 := h; omega
    · show (if a = 1 then (31, L) else if a = 2 then (32, 4) else (0, 0)).1 = 32 → a = 2
      split
      · intro h; have h : 31 = 32 := h; omega
      · split
        · intro _; assumption
        · intro h; have h : 0 = 32 := h; omega
  have hR : mRp g (mh0 L xs) s.heap := by
    refine ⟨fun k q h => ?_, mws_D g _, hHp⟩
    have h : ([] : va_W)[k]? = some q := h
    cases h
  have hw := hz g 1999 p l e room_1 s m #[Value.ref b] below meth c (lw_Z below #[Value.ref b] s) (mh0 L xs) (mcall_sd mgood g l 1999) ⟨⟨hx, hb, hml, hown⟩, fun w hw => hts w (List.mem_filter.mp hw).1, hE, ⟨Nat.le_of_ble_eq_true rfl, Nat.le_of_ble_eq_true rfl, by show mT hf - 3 ≤ 600000; omega, by show mU hf - 0 ≤ 7302250; omega⟩, ⟨by rw [eB]; rfl, Nat.le_refl _, fun h => by cases h⟩, hrt⟩ (Nat.le_refl _) (Nat.le_refl _)
  have hw := hw s.heap [] _ hR va_S.rf (mLs_entry (as := [vr 1]) hfit)
  have e1 : ([vr 1] : List mv).map (mcv g) = [Value.ref b] := by
    show [mrf g 1] = _
    rw [mrf_ref (by decide)]
    show [Value.ref (gb g)] = _
    rw [eb]
  rw [e1] at hw
  rw [lg_entry_eq]
  exact hw
