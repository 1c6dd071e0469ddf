/-! ===== the operations are sound: constants, locals, numbers, the stack, branches (made by wip/whole/gen_ops.py) ===== -/
section OKA
variable {p : Program} {l : Launch} {e : Env} {R : Room} {s : State} {m : MethodId} {args : Array Value} {below : List Frame} {meth : Method} {c : Code} {H : Heap} {locs : List Loc} {cells slots : Nat} {Q : State → Prop}
variable {cc : ByteArray} {pc : Nat} {ls : Array Slot} {rest : List Value}
theorem ok_aload (hexec : p.tables.exec = Jvm.exec) (hb : c.code = cc) {g : mG} {i a : Nat} (hdg : decode cc pc = .ok (.aload i, 2)) (hl : ls[i]? = some (.val (mrf g a))) (k : W p l e R s m args below meth c H locs cells slots Q (F0 m (pc + 2) ls (mrf g a :: rest))) : W p l e R s m args below meth c H locs cells slots Q (F0 m pc ls rest) := by
  by_cases h : a = 0
  · subst h
    exact lv_aloadN hexec hb hdg hl k
  · rw [mrf_ref h] at hl k
    exact lv_aload hexec hb hdg hl k
theorem ok_aload_n (hexec : p.tables.exec = Jvm.exec) (hb : c.code = cc) {g : mG} {f : Fin 4} {i a : Nat} (hdg : decode cc pc = .ok (.aload_n f, 1)) (hi : (f : Nat) = i) (hl : ls[i]? = some (.val (mrf g a))) (k : W p l e R s m args below meth c H locs cells slots Q (F0 m (pc + 1) ls (mrf g a :: rest))) : W p l e R s m args below meth c H locs cells slots Q (F0 m pc ls rest) := by
  by_cases h : a = 0
  · subst h
    exact lv_aload_nN hexec hb hdg hi hl k
  · rw [mrf_ref h] at hl k
    exact lv_aload_n hexec hb hdg hi hl k
theorem ok_astore (hexec : p.tables.exec = Jvm.exec) (hb : c.code = cc) {g : mG} {i nL a : Nat} {lv : List (Nat × Value)} (hdg : decode cc pc = .ok (.astore i, 2)) (h : lv_has ls nL lv) (hn : i < nL)
    (kk : ∀ ls' : Array Slot, lv_has ls' nL ((i, mrf g a) :: lv.filter (fun q => !(q.1 == i) && !(q.1 + 1 == i && q.2.category == 2))) → W p l e R s m args below meth c H locs cells slots Q (F0 m (pc + 2) ls' rest)) : W p l e R s m args below meth c H locs cells slots Q (F0 m pc ls (mrf g a :: rest)) := by
  by_cases h0 : a = 0
  · subst h0
    exact lv_astoreN hexec hb hdg h hn rfl kk
  · rw [mrf_ref h0] at kk ⊢
    exact lv_astore hexec hb hdg h hn rfl kk
theorem ok_astore_n (hexec : p.tables.exec = Jvm.exec) (hb : c.code = cc) {g : mG} {f : Fin 4} {i nL a : Nat} {lv : List (Nat × Value)} (hdg : decode cc pc = .ok (.astore_n f, 1)) (hi : (f : Nat) = i) (h : lv_has ls nL lv) (hn : i < nL)
    (kk : ∀ ls' : Array Slot, lv_has ls' nL ((i, mrf g a) :: lv.filter (fun q => !(q.1 == i) && !(q.1 + 1 == i && q.2.category == 2))) → W p l e R s m args below meth c H locs cells slots Q (F0 m (pc + 1) ls' rest)) : W p l e R s m args below meth c H locs cells slots Q (F0 m pc ls (mrf g a :: rest)) := by
  by_cases h0 : a = 0
  · subst h0
    exact lv_astore_nN hexec hb hdg hi h hn rfl kk
  · rw [mrf_ref h0] at kk ⊢
    exact lv_astore_n hexec hb hdg hi h hn rfl kk
end OKA
theorem mcv_c1 {g : mG} (v : mv) (h : mnolong (some v) = true) : (mcv g v).category = 1 := by
  rcases lv_cat (mcv g v) with z | z
  · exact z
  · rw [mcv_cat.mp z] at h
    cases h
theorem ok_ic {own : String} {cc : ByteArray} {nL : Nat} {nl ini : Bool} {ret : Option FieldType} {P : Nat → Nat} {i pc : Nat} {n : Int} {v : Int32} (hv : Int32.ofInt n = v) (hp : P i = pc) (hq : P (i + 1) = pc + 1) (hd : decode cc pc = .ok (.iconst n, 1)) : mOk own cc nL nl ini ret P i (o_ic v) := by
  intro C L S h k q hk
  exact mOk.step (i + 1) L (vi v :: S) h (fun _ _ => rfl) hk rfl rfl (fun g d p l e R s m args below meth c Q h0 hC hw H locs ls hR hS hL => by
      obtain ⟨⟨hx, hb, hml, hown⟩, hts, hE, -, -, -⟩ := hC
      have hw := hw H locs ls hR hS hL
      rw [hq] at hw
      rw [hp]
      exact lv_iconst hx hb hd hv hw)
theorem ok_bi {own : String} {cc : ByteArray} {nL : Nat} {nl ini : Bool} {ret : Option FieldType} {P : Nat → Nat} {i pc : Nat} {n : Int} {v : Int32} (hv : (Int8.ofInt n).toInt32 = v) (hp : P i = pc) (hq : P (i + 1) = pc + 2) (hd : decode cc pc = .ok (.bipush n, 2)) : mOk own cc nL nl ini ret P i (o_ic v) := by
  intro C L S h k q hk
  exact mOk.step (i + 1) L (vi v :: S) h (fun _ _ => rfl) hk rfl rfl (fun g d p l e R s m args below meth c Q h0 hC hw H locs ls hR hS hL => by
      obtain ⟨⟨hx, hb, hml, hown⟩, hts, hE, -, -, -⟩ := hC
      have hw := hw H locs ls hR hS hL
      rw [hq] at hw
      rw [hp]
      exact lv_bipush hx hb hd hv hw)
theorem ok_si {own : String} {cc : ByteArray} {nL : Nat} {nl ini : Bool} {ret : Option FieldType} {P : Nat → Nat} {i pc : Nat} {n : Int} {v : Int32} (hv : (Int16.ofInt n).toInt32 = v) (hp : P i = pc) (hq : P (i + 1) = pc + 3) (hd : decode cc pc = .ok (.sipush n, 3)) : mOk own cc nL nl ini ret P i (o_ic v) := by
  intro C L S h k q hk
  exact mOk.step (i + 1) L (vi v :: S) h (fun _ _ => rfl) hk rfl rfl (fun g d p l e R s m args below meth c Q h0 hC hw H locs ls hR hS hL => by
      obtain ⟨⟨hx, hb, hml, hown⟩, hts, hE, -, -, -⟩ := hC
      have hw := hw H locs ls hR hS hL
      rw [hq] at hw
      rw [hp]
      exact lv_sipush hx hb hd hv hw)
theorem ok_lc {own : String} {cc : ByteArray} {nL : Nat} {nl ini : Bool} {ret : Option FieldType} {P : Nat → Nat} {i pc : Nat} {n : Fin 2} {v : Int64} (hv : Int64.ofNat (n : Nat) = v) (hp : P i = pc) (hq : P (i + 1) = pc + 1) (hd : decode cc pc = .ok (.lconst n, 1)) : mOk own cc nL nl ini ret P i (o_lc v) := by
  intro C L S h k q hk
  exact mOk.step (i + 1) L (vl v :: S) h (fun _ _ => rfl) hk rfl rfl (fun g d p l e R s m args below meth c Q h0 hC hw H locs ls hR hS hL => by
      obtain ⟨⟨hx, hb, hml, hown⟩, hts, hE, -, -, -⟩ := hC
      have hw := hw H locs ls hR hS hL
      rw [hq] at hw
      rw [hp]
      exact lv_lconst hx hb hd hv hw)
theorem ok_ldc {own : String} {cc : ByteArray} {nL : Nat} {nl ini : Bool} {ret : Option FieldType} {P : Nat → Nat} {i pc : Nat} {n : Nat} {v : Int32} (hc : Cond.constant own n v ∈ mgw) (hp : P i = pc) (hq : P (i + 1) = pc + 2) (hd : decode cc pc = .ok (.ldc n, 2)) : mOk own cc nL nl ini ret P i (o_ic v) := by
  intro C L S h k q hk
  exact mOk.step (i + 1) L (vi v :: S) h (fun _ _ => rfl) hk rfl rfl (fun g d p l e R s m args below meth c Q h0 hC hw H locs ls hR hS hL => by
      obtain ⟨⟨hx, hb, hml, hown⟩, hts, hE, -, -, -⟩ := hC
      have hw := hw H locs ls hR hS hL
      rw [hq] at hw
      rw [hp]
      exact lv_ldc hx hb hown (hts _ hc) hd hw)
theorem ok_ldcw {own : String} {cc : ByteArray} {nL : Nat} {nl ini : Bool} {ret : Option FieldType} {P : Nat → Nat} {i pc : Nat} {n : Nat} {v : Int32} (hc : Cond.constant own n v ∈ mgw) (hp : P i = pc) (hq : P (i + 1) = pc + 3) (hd : decode cc pc = .ok (.ldc_w n, 3)) : mOk own cc nL nl ini ret P i (o_ic v) := by
  intro C L S h k q hk
  exact mOk.step (i + 1) L (vi v :: S) h (fun _ _ => rfl) hk rfl rfl (fun g d p l e R s m args below meth c Q h0 hC hw H locs ls hR hS hL => by
      obtain ⟨⟨hx, hb, hml, hown⟩, hts, hE, -, -, -⟩ := hC
      have hw := hw H locs ls hR hS hL
      rw [hq] at hw
      rw [hp]
      exact lv_ldcw hx hb hown (hts _ hc) hd hw)
theorem ok_ldc2 {own : String} {cc : ByteArray} {nL : Nat} {nl ini : Bool} {ret : Option FieldType} {P : Nat → Nat} {i pc : Nat} {n : Nat} {v : Int64} (hc : Cond.constantLong own n v ∈ mgw) (hp : P i = pc) (hq : P (i + 1) = pc + 3) (hd : decode cc pc = .ok (.ldc2_w n, 3)) : mOk own cc nL nl ini ret P i (o_lc v) := by
  intro C L S h k q hk
  exact mOk.step (i + 1) L (vl v :: S) h (fun _ _ => rfl) hk rfl rfl (fun g d p l e R s m args below meth c Q h0 hC hw H locs ls hR hS hL => by
      obtain ⟨⟨hx, hb, hml, hown⟩, hts, hE, -, -, -⟩ := hC
      have hw := hw H locs ls hR hS hL
      rw [hq] at hw
      rw [hp]
      exact lv_ldc2 hx hb hown (hts _ hc) hd hw)
theorem ok_nul {own : String} {cc : ByteArray} {nL : Nat} {nl ini : Bool} {ret : Option FieldType} {P : Nat → Nat} {i pc : Nat} (hp : P i = pc) (hq : P (i + 1) = pc + 1) (hd : decode cc pc = .ok (.aconst_null, 1)) : mOk own cc nL nl ini ret P i (o_nul) := by
  intro C L S h k q hk
  exact mOk.step (i + 1) L (vr 0 :: S) h (fun _ _ => rfl) hk rfl rfl (fun g d p l e R s m args below meth c Q h0 hC hw H locs ls hR hS hL => by
      obtain ⟨⟨hx, hb, hml, hown⟩, hts, hE, -, -, -⟩ := hC
      have hw := hw H locs ls hR hS hL
      rw [hq] at hw
      rw [hp]
      exact lv_null hx hb hd hw)
theorem ok_ild {own : String} {cc : ByteArray} {nL : Nat} {nl ini : Bool} {ret : Option FieldType} {P : Nat → Nat} {i pc : Nat} {n : Nat} (hp : P i = pc) (hq : P (i + 1) = pc + 2) (hd : decode cc pc = .ok (.iload n, 2)) : mOk own cc nL nl ini ret P i (o_ild n) := by
  intro C L S h k q hk
  have hk' := hk
  unfold o_ild at hk'
  rcases hm : mloc L n with _ | (x | x | x) <;> rw [hm] at hk' <;> first
    | exact absurd hk'.symm (Option.some_ne_none _)
    | exact mOk.step (i + 1) L (vi x :: S) h (fun C' k' => by unfold o_ild; rw [hm]) hk rfl rfl (fun g d p l e R s m args below meth c Q h0 hC hw H locs ls hR hS hL => by
      obtain ⟨⟨hx, hb, hml, hown⟩, hts, hE, -, -, -⟩ := hC
      have hw := hw H locs ls hR hS hL
      rw [hq] at hw
      rw [hp]
      exact lv_iload hx hb hd (hL.get hm) hw)
theorem ok_ild_n {own : String} {cc : ByteArray} {nL : Nat} {nl ini : Bool} {ret : Option FieldType} {P : Nat → Nat} {i pc : Nat} {n : Nat} {f : Fin 4} (hf : (f : Nat) = n) (hp : P i = pc) (hq : P (i + 1) = pc + 1) (hd : decode cc pc = .ok (.iload_n f, 1)) : mOk own cc nL nl ini ret P i (o_ild n) := by
  intro C L S h k q hk
  have hk' := hk
  unfold o_ild at hk'
  rcases hm : mloc L n with _ | (x | x | x) <;> rw [hm] at hk' <;> first
    | exact absurd hk'.symm (Option.some_ne_none _)
    | exact mOk.step (i + 1) L (vi x :: S) h (fun C' k' => by unfold o_ild; rw [hm]) hk rfl rfl (fun g d p l e R s m args below meth c Q h0 hC hw H locs ls hR hS hL => by
      obtain ⟨⟨hx, hb, hml, hown⟩, hts, hE, -, -, -⟩ := hC
      have hw := hw H locs ls hR hS hL
      rw [hq] at hw
      rw [hp]
      exact lv_iload_n hx hb hd hf (hL.get hm) hw)
theorem ok_lld {own : String} {cc : ByteArray} {nL : Nat} {nl ini : Bool} {ret : Option FieldType} {P : Nat → Nat} {i pc : Nat} {n : Nat} (hp : P i = pc) (hq : P (i + 1) = pc + 2) (hd : decode cc pc = .ok (.lload n, 2)) : mOk own cc nL nl ini ret P i (o_lld n) := by
  intro C L S h k q hk
  have hk' := hk
  unfold o_lld at hk'
  rcases hm : mloc L n with _ | (x | x | x) <;> rw [hm] at hk' <;> first
    | exact absurd hk'.symm (Option.some_ne_none _)
    | exact mOk.step (i + 1) L (vl x :: S) h (fun C' k' => by unfold o_lld; rw [hm]) hk rfl rfl (fun g d p l e R s m args below meth c Q h0 hC hw H locs ls hR hS hL => by
      obtain ⟨⟨hx, hb, hml, hown⟩, hts, hE, -, -, -⟩ := hC
      have hw := hw H locs ls hR hS hL
      rw [hq] at hw
      rw [hp]
      exact lv_lload hx hb hd (hL.get hm) hw)
theorem ok_lld_n {own : String} {cc : ByteArray} {nL : Nat} {nl ini : Bool} {ret : Option FieldType} {P : Nat → Nat} {i pc : Nat} {n : Nat} {f : Fin 4} (hf : (f : Nat) = n) (hp : P i = pc) (hq : P (i + 1) = pc + 1) (hd : decode cc pc = .ok (.lload_n f, 1)) : mOk own cc nL nl ini ret P i (o_lld n) := by
  intro C L S h k q hk
  have hk' := hk
  unfold o_lld at hk'
  rcases hm : mloc L n with _ | (x | x | x) <;> rw [hm] at hk' <;> first
    | exact absurd hk'.symm (Option.some_ne_none _)
    | exact mOk.step (i + 1) L (vl x :: S) h (fun C' k' => by unfold o_lld; rw [hm]) hk rfl rfl (fun g d p l e R s m args below meth c Q h0 hC hw H locs ls hR hS hL => by
      obtain ⟨⟨hx, hb, hml, hown⟩, hts, hE, -, -, -⟩ := hC
      have hw := hw H locs ls hR hS hL
      rw [hq] at hw
      rw [hp]
      exact lv_lload_n hx hb hd hf (hL.get hm) hw)
theorem ok_ald {own : String} {cc : ByteArray} {nL : Nat} {nl ini : Bool} {ret : Option FieldType} {P : Nat → Nat} {i pc : Nat} {n : Nat} (hp : P i = pc) (hq : P (i + 1) = pc + 2) (hd : decode cc pc = .ok (.aload n, 2)) : mOk own cc nL nl ini ret P i (o_ald n) := by
  intro C L S h k q hk
  have hk' := hk
  unfold o_ald at hk'
  rcases hm : mloc L n with _ | (x | x | x) <;> rw [hm] at hk' <;> first
    | exact absurd hk'.symm (Option.some_ne_none _)
    | exact mOk.step (i + 1) L (vr x :: S) h (fun C' k' => by unfold o_ald; rw [hm]) hk rfl rfl (fun g d p l e R s m args below meth c Q h0 hC hw H locs ls hR hS hL => by
      obtain ⟨⟨hx, hb, hml, hown⟩, hts, hE, -, -, -⟩ := hC
      have hw := hw H locs ls hR hS hL
      rw [hq] at hw
      rw [hp]
      exact ok_aload hx hb hd (hL.get hm) hw)
theorem ok_ald_n {own : String} {cc : ByteArray} {nL : Nat} {nl ini : Bool} {ret : Option FieldType} {P : Nat → Nat} {i pc : Nat} {n : Nat} {f : Fin 4} (hf : (f : Nat) = n) (hp : P i = pc) (hq : P (i + 1) = pc + 1) (hd : decode cc pc = .ok (.aload_n f, 1)) : mOk own cc nL nl ini ret P i (o_ald n) := by
  intro C L S h k q hk
  have hk' := hk
  unfold o_ald at hk'
  rcases hm : mloc L n with _ | (x | x | x) <;> rw [hm] at hk' <;> first
    | exact absurd hk'.symm (Option.some_ne_none _)
    | exact mOk.step (i + 1) L (vr x :: S) h (fun C' k' => by unfold o_ald; rw [hm]) hk rfl rfl (fun g d p l e R s m args below meth c Q h0 hC hw H locs ls hR hS hL => by
      obtain ⟨⟨hx, hb, hml, hown⟩, hts, hE, -, -, -⟩ := hC
      have hw := hw H locs ls hR hS hL
      rw [hq] at hw
      rw [hp]
      exact ok_aload_n hx hb hd hf (hL.get hm) hw)
theorem ok_ist {own : String} {cc : ByteArray} {nL : Nat} {nl ini : Bool} {ret : Option FieldType} {P : Nat → Nat} {i pc : Nat} {n : Nat} (hn : n < nL) (hnl : nl = true) (hp : P i = pc) (hq : P (i + 1) = pc + 2) (hd : decode cc pc = .ok (.istore n, 2)) : mOk own cc nL nl ini ret P i (o_ist n) := by
  intro C L S h k q hk
  rcases S with _ | ⟨x | x | x, S⟩ <;> first
    | exact absurd hk.symm (Option.some_ne_none _)
    | exact mOk.step (i + 1) (mset L n (vi x)) S h (fun _ _ => rfl) hk rfl rfl (fun g d p l e R s m args below meth c Q h0 hC hw H locs ls hR hS hL => by
      obtain ⟨⟨hx, hb, hml, hown⟩, hts, hE, -, -, -⟩ := hC
      rw [hp]
      exact lv_istore hx hb hd hL.1 hn rfl (fun ls' hl' => by
        have hw := hw H locs ls' hR hS (mLs.store hL.2.1 hL.2.2 rfl (Or.inl hnl) hl')
        rw [hq] at hw
        exact hw))
theorem ok_ist_n {own : String} {cc : ByteArray} {nL : Nat} {nl ini : Bool} {ret : Option FieldType} {P : Nat → Nat} {i pc : Nat} {n : Nat} {f : Fin 4} (hf : (f : Nat) = n) (hn : n < nL) (hnl : nl = true) (hp : P i = pc) (hq : P (i + 1) = pc + 1) (hd : decode cc pc = .ok (.istore_n f, 1)) : mOk own cc nL nl ini ret P i (o_ist n) := by
  intro C L S h k q hk
  rcases S with _ | ⟨x | x | x, S⟩ <;> first
    | exact absurd hk.symm (Option.some_ne_none _)
    | exact mOk.step (i + 1) (mset L n (vi x)) S h (fun _ _ => rfl) hk rfl rfl (fun g d p l e R s m args below meth c Q h0 hC hw H locs ls hR hS hL => by
      obtain ⟨⟨hx, hb, hml, hown⟩, hts, hE, -, -, -⟩ := hC
      rw [hp]
      exact lv_istore_n hx hb hd hf hL.1 hn rfl (fun ls' hl' => by
        have hw := hw H locs ls' hR hS (mLs.store hL.2.1 hL.2.2 rfl (Or.inl hnl) hl')
        rw [hq] at hw
        exact hw))
theorem ok_ast {own : String} {cc : ByteArray} {nL : Nat} {nl ini : Bool} {ret : Option FieldType} {P : Nat → Nat} {i pc : Nat} {n : Nat} (hn : n < nL) (hnl : nl = true) (hp : P i = pc) (hq : P (i + 1) = pc + 2) (hd : decode cc pc = .ok (.astore n, 2)) : mOk own cc nL nl ini ret P i (o_ast n) := by
  intro C L S h k q hk
  rcases S with _ | ⟨x | x | x, S⟩ <;> first
    | exact absurd hk.symm (Option.some_ne_none _)
    | exact mOk.step (i + 1) (mset L n (vr x)) S h (fun _ _ => rfl) hk rfl rfl (fun g d p l e R s m args below meth c Q h0 hC hw H locs ls hR hS hL => by
      obtain ⟨⟨hx, hb, hml, hown⟩, hts, hE, -, -, -⟩ := hC
      rw [hp]
      exact ok_astore hx hb hd hL.1 hn (fun ls' hl' => by
        have hw := hw H locs ls' hR hS (mLs.store hL.2.1 hL.2.2 rfl (Or.inl hnl) hl')
        rw [hq] at hw
        exact hw))
theorem ok_ast_n {own : String} {cc : ByteArray} {nL : Nat} {nl ini : Bool} {ret : Option FieldType} {P : Nat → Nat} {i pc : Nat} {n : Nat} {f : Fin 4} (hf : (f : Nat) = n) (hn : n < nL) (hnl : nl = true) (hp : P i = pc) (hq : P (i + 1) = pc + 1) (hd : decode cc pc = .ok (.astore_n f, 1)) : mOk own cc nL nl ini ret P i (o_ast n) := by
  intro C L S h k q hk
  rcases S with _ | ⟨x | x | x, S⟩ <;> first
    | exact absurd hk.symm (Option.some_ne_none _)
    | exact mOk.step (i + 1) (mset L n (vr x)) S h (fun _ _ => rfl) hk rfl rfl (fun g d p l e R s m args below meth c Q h0 hC hw H locs ls hR hS hL => by
      obtain ⟨⟨hx, hb, hml, hown⟩, hts, hE, -, -, -⟩ := hC
      rw [hp]
      exact ok_astore_n hx hb hd hf hL.1 hn (fun ls' hl' => by
        have hw := hw H locs ls' hR hS (mLs.store hL.2.1 hL.2.2 rfl (Or.inl hnl) hl')
        rw [hq] at hw
        exact hw))
theorem ok_inc {own : String} {cc : ByteArray} {nL : Nat} {nl ini : Bool} {ret : Option FieldType} {P : Nat → Nat} {i pc : Nat} {n : Nat} {v : Int32} {z : Int} (hz : Int32.ofInt z = v) (hn : n < nL) (hnl : nl = true) (hp : P i = pc) (hq : P (i + 1) = pc + 3) (hd : decode cc pc = .ok (.iinc n z, 3)) : mOk own cc nL nl ini ret P i (o_inc n v) := by
  intro C L S h k q hk
  have hk' := hk
  unfold o_inc at hk'
  rcases hm : mloc L n with _ | (x | x | x) <;> rw [hm] at hk' <;> first
    | exact absurd hk'.symm (Option.some_ne_none _)
    | exact mOk.step (i + 1) (mset L n (vi (x + v))) S h (fun C' k' => by unfold o_inc; rw [hm]) hk rfl rfl (fun g d p l e R s m args below meth c Q h0 hC hw H locs ls hR hS hL => by
      obtain ⟨⟨hx, hb, hml, hown⟩, hts, hE, -, -, -⟩ := hC
      rw [hp]
      obtain ⟨j, hj⟩ := List.getElem?_of_mem (mlv_mem (g := g) L 0 n _ hm)
      rw [Nat.zero_add] at hj
      exact lv_iinc (v := x + v) hx hb hd hL.1 hj (by rw [hz]) hn rfl (fun ls' hl' => by
        have hw := hw H locs ls' hR hS (mLs.store (v := vi (x + v)) hL.2.1 hL.2.2 rfl (Or.inl hnl) hl')
        rw [hq] at hw
        exact hw))
theorem ok_incL {own : String} {cc : ByteArray} {nL : Nat} {nl ini : Bool} {ret : Option FieldType} {P : Nat → Nat} {i pc : Nat} {n : Nat} {v : Int32} {z : Int} (hz : Int32.ofInt z = v) (hn : n < nL) (hp : P i = pc) (hq : P (i + 1) = pc + 3) (hd : decode cc pc = .ok (.iinc n z, 3)) : mOk own cc nL nl ini ret P i (o_incL n v) := by
  intro C L S h k q hk
  have hk' := hk
  unfold o_incL at hk'
  rcases hm : mloc L n with _ | (x | x | x) <;> rw [hm] at hk' <;> first
    | exact absurd hk'.symm (Option.some_ne_none _)
    | skip
  cases hb1 : mnolong (mloc L (n - 1)) with
  | false => rw [hb1] at hk'; exact absurd hk'.symm (Option.some_ne_none _)
  | true =>
    exact mOk.step (i + 1) (mset L n (vi (x + v))) S h (fun C' k' => by unfold o_incL; rw [hm]; show (bif mnolong (mloc L (n - 1)) then _ else _) = _; rw [hb1]; rfl) hk rfl rfl (fun g d p l e R s m args below meth c Q h0 hC hw H locs ls hR hS hL => by
      obtain ⟨⟨hx, hb, hml, hown⟩, hts, hE, -, -, -⟩ := hC
      rw [hp]
      obtain ⟨j, hj⟩ := List.getElem?_of_mem (mlv_mem (g := g) L 0 n _ hm)
      rw [Nat.zero_add] at hj
      exact lv_iinc (v := x + v) hx hb hd hL.1 hj (by rw [hz]) hn rfl (fun ls' hl' => by
        have hw := hw H locs ls' hR hS (mLs.store (v := vi (x + v)) hL.2.1 hL.2.2 rfl (Or.inr hb1) hl')
        rw [hq] at hw
        exact hw))
theorem ok_istL {own : String} {cc : ByteArray} {nL : Nat} {nl ini : Bool} {ret : Option FieldType} {P : Nat → Nat} {i pc : Nat} {n : Nat} (hn : n < nL) (hp : P i = pc) (hq : P (i + 1) = pc + 2) (hd : decode cc pc = .ok (.istore n, 2)) : mOk own cc nL nl ini ret P i (o_istL n) := by
  intro C L S h k q hk
  rcases S with _ | ⟨x | x | x, S⟩ <;> first
    | exact absurd hk.symm (Option.some_ne_none _)
    | skip
  cases hb1 : mnolong (mloc L (n - 1)) with
  | false =>
    have hk' := hk
    unfold o_istL at hk'
    simp only [hb1] at hk'
    exact absurd hk'.symm (Option.some_ne_none _)
  | true =>
    exact mOk.step (i + 1) (mset L n (vi x)) S h (fun C' k' => by show (bif mnolong (mloc L (n - 1)) then _ else _) = _; rw [hb1]; rfl) hk rfl rfl (fun g d p l e R s m args below meth c Q h0 hC hw H locs ls hR hS hL => by
      obtain ⟨⟨hx, hb, hml, hown⟩, hts, hE, -, -, -⟩ := hC
      rw [hp]
      exact lv_istore hx hb hd hL.1 hn rfl (fun ls' hl' => by
        have hw := hw H locs ls' hR hS (mLs.store hL.2.1 hL.2.2 rfl (Or.inr hb1) hl')
        rw [hq] at hw
        exact hw))
theorem ok_istL_n {own : String} {cc : ByteArray} {nL : Nat} {nl ini : Bool} {ret : Option FieldType} {P : Nat → Nat} {i pc : Nat} {n : Nat} {f : Fin 4} (hf : (f : Nat) = n) (hn : n < nL) (hp : P i = pc) (hq : P (i + 1) = pc + 1) (hd : decode cc pc = .ok (.istore_n f, 1)) : mOk own cc nL nl ini ret P i (o_istL n) := by
  intro C L S h k q hk
  rcases S with _ | ⟨x | x | x, S⟩ <;> first
    | exact absurd hk.symm (Option.some_ne_none _)
    | skip
  cases hb1 : mnolong (mloc L (n - 1)) with
  | false =>
    have hk' := hk
    unfold o_istL at hk'
    simp only [hb1] at hk'
    exact absurd hk'.symm (Option.some_ne_none _)
  | true =>
    exact mOk.step (i + 1) (mset L n (vi x)) S h (fun C' k' => by show (bif mnolong (mloc L (n - 1)) then _ else _) = _; rw [hb1]; rfl) hk rfl rfl (fun g d p l e R s m args below meth c Q h0 hC hw H locs ls hR hS hL => by
      obtain ⟨⟨hx, hb, hml, hown⟩, hts, hE, -, -, -⟩ := hC
      rw [hp]
      exact lv_istore_n hx hb hd hf hL.1 hn rfl (fun ls' hl' => by
        have hw := hw H locs ls' hR hS (mLs.store hL.2.1 hL.2.2 rfl (Or.inr hb1) hl')
        rw [hq] at hw
        exact hw))
theorem ok_lst {own : String} {cc : ByteArray} {nL : Nat} {nl ini : Bool} {ret : Option FieldType} {P : Nat → Nat} {i pc : Nat} {n : Nat} (hn : n + 1 < nL) (hnl : nl = false) (hp : P i = pc) (hq : P (i + 1) = pc + 2) (hd : decode cc pc = .ok (.lstore n, 2)) : mOk own cc nL nl ini ret P i (o_lst n) := by
  intro C L S h k q hk
  rcases S with _ | ⟨x | x | x, S⟩ <;> first
    | exact absurd hk.symm (Option.some_ne_none _)
    | skip
  cases hb1 : mnolong (mloc L (n - 1)) with
  | false =>
    have hk' := hk
    unfold o_lst at hk'
    simp only [hb1] at hk'
    exact absurd hk'.symm (Option.some_ne_none _)
  | true =>
    exact mOk.step (i + 1) (munset (mset L n (vl x)) (n + 1)) S h (fun C' k' => by show (bif mnolong (mloc L (n - 1)) then _ else _) = _; rw [hb1]; rfl) hk rfl rfl (fun g d p l e R s m args below meth c Q h0 hC hw H locs ls hR hS hL => by
      obtain ⟨⟨hx, hb, hml, hown⟩, hts, hE, -, -, -⟩ := hC
      rw [hp]
      exact lv_lstore hx hb hd hL.1 hn rfl (fun ls' hl' => by
        have hw := hw H locs ls' hR hS (mLs.storeL (v := vl x) hL.2.1 hnl hb1 hl')
        rw [hq] at hw
        exact hw))
theorem ok_lst_n {own : String} {cc : ByteArray} {nL : Nat} {nl ini : Bool} {ret : Option FieldType} {P : Nat → Nat} {i pc : Nat} {n : Nat} {f : Fin 4} (hf : (f : Nat) = n) (hn : n + 1 < nL) (hnl : nl = false) (hp : P i = pc) (hq : P (i + 1) = pc + 1) (hd : decode cc pc = .ok (.lstore_n f, 1)) : mOk own cc nL nl ini ret P i (o_lst n) := by
  intro C L S h k q hk
  rcases S with _ | ⟨x | x | x, S⟩ <;> first
    | exact absurd hk.symm (Option.some_ne_none _)
    | skip
  cases hb1 : mnolong (mloc L (n - 1)) with
  | false =>
    have hk' := hk
    unfold o_lst at hk'
    simp only [hb1] at hk'
    exact absurd hk'.symm (Option.some_ne_none _)
  | true =>
    exact mOk.step (i + 1) (munset (mset L n (vl x)) (n + 1)) S h (fun C' k' => by show (bif mnolong (mloc L (n - 1)) then _ else _) = _; rw [hb1]; rfl) hk rfl rfl (fun g d p l e R s m args below meth c Q h0 hC hw H locs ls hR hS hL => by
      obtain ⟨⟨hx, hb, hml, hown⟩, hts, hE, -, -, -⟩ := hC
      rw [hp]
      exact lv_lstore_n hx hb hd hf hL.1 hn rfl (fun ls' hl' => by
        have hw := hw H locs ls' hR hS (mLs.storeL (v := vl x) hL.2.1 hnl hb1 hl')
        rw [hq] at hw
        exact hw))
theorem ok_add {own : String} {cc : ByteArray} {nL : Nat} {nl ini : Bool} {ret : Option FieldType} {P : Nat → Nat} {i pc : Nat} (hp : P i = pc) (hq : P (i + 1) = pc + 1) (hd : decode cc pc = .ok (.iadd, 1)) : mOk own cc nL nl ini ret P i (o_add) := by
  intro C L S h k q hk
  rcases S with _ | ⟨y | y | y, _ | ⟨x | x | x, S⟩⟩ <;> first
    | exact absurd hk.symm (Option.some_ne_none _)
    | exact mOk.step (i + 1) L (vi (x + y) :: S) h (fun _ _ => rfl) hk rfl rfl (fun g d p l e R s m args below meth c Q h0 hC hw H locs ls hR hS hL => by
      obtain ⟨⟨hx, hb, hml, hown⟩, hts, hE, -, -, -⟩ := hC
      have hw := hw H locs ls hR hS hL
      rw [hq] at hw
      rw [hp]
      exact lv_iadd hx hb hd hw)
theorem ok_sub {own : String} {cc : ByteArray} {nL : Nat} {nl ini : Bool} {ret : Option FieldType} {P : Nat → Nat} {i pc : Nat} (hp : P i = pc) (hq : P (i + 1) = pc + 1) (hd : decode cc pc = .ok (.isub, 1)) : mOk own cc nL nl ini ret P i (o_sub) := by
  intro C L S h k q hk
  rcases S with _ | ⟨y | y | y, _ | ⟨x | x | x, S⟩⟩ <;> first
    | exact absurd hk.symm (Option.some_ne_none _)
    | exact mOk.step (i + 1) L (vi (x - y) :: S) h (fun _ _ => rfl) hk rfl rfl (fun g d p l e R s m args below meth c Q h0 hC hw H locs ls hR hS hL => by
      obtain ⟨⟨hx, hb, hml, hown⟩, hts, hE, -, -, -⟩ := hC
      have hw := hw H locs ls hR hS hL
      rw [hq] at hw
      rw [hp]
      exact lv_isub hx hb hd hw)
theorem ok_mul {own : String} {cc : ByteArray} {nL : Nat} {nl ini : Bool} {ret : Option FieldType} {P : Nat → Nat} {i pc : Nat} (hp : P i = pc) (hq : P (i + 1) = pc + 1) (hd : decode cc pc = .ok (.imul, 1)) : mOk own cc nL nl ini ret P i (o_mul) := by
  intro C L S h k q hk
  rcases S with _ | ⟨y | y | y, _ | ⟨x | x | x, S⟩⟩ <;> first
    | exact absurd hk.symm (Option.some_ne_none _)
    | exact mOk.step (i + 1) L (vi (x * y) :: S) h (fun _ _ => rfl) hk rfl rfl (fun g d p l e R s m args below meth c Q h0 hC hw H locs ls hR hS hL => by
      obtain ⟨⟨hx, hb, hml, hown⟩, hts, hE, -, -, -⟩ := hC
      have hw := hw H locs ls hR hS hL
      rw [hq] at hw
      rw [hp]
      exact lv_imul hx hb hd hw)
theorem ok_and {own : String} {cc : ByteArray} {nL : Nat} {nl ini : Bool} {ret : Option FieldType} {P : Nat → Nat} {i pc : Nat} (hp : P i = pc) (hq : P (i + 1) = pc + 1) (hd : decode cc pc = .ok (.iand, 1)) : mOk own cc nL nl ini ret P i (o_and) := by
  intro C L S h k q hk
  rcases S with _ | ⟨y | y | y, _ | ⟨x | x | x, S⟩⟩ <;> first
    | exact absurd hk.symm (Option.some_ne_none _)
    | exact mOk.step (i + 1) L (vi (x &&& y) :: S) h (fun _ _ => rfl) hk rfl rfl (fun g d p l e R s m args below meth c Q h0 hC hw H locs ls hR hS hL => by
      obtain ⟨⟨hx, hb, hml, hown⟩, hts, hE, -, -, -⟩ := hC
      have hw := hw H locs ls hR hS hL
      rw [hq] at hw
      rw [hp]
      exact lv_iand hx hb hd hw)
theorem ok_or {own : String} {cc : ByteArray} {nL : Nat} {nl ini : Bool} {ret : Option FieldType} {P : Nat → Nat} {i pc : Nat} (hp : P i = pc) (hq : P (i + 1) = pc + 1) (hd : decode cc pc = .ok (.ior, 1)) : mOk own cc nL nl ini ret P i (o_or) := by
  intro C L S h k q hk
  rcases S with _ | ⟨y | y | y, _ | ⟨x | x | x, S⟩⟩ <;> first
    | exact absurd hk.symm (Option.some_ne_none _)
    | exact mOk.step (i + 1) L (vi (x ||| y) :: S) h (fun _ _ => rfl) hk rfl rfl (fun g d p l e R s m args below meth c Q h0 hC hw H locs ls hR hS hL => by
      obtain ⟨⟨hx, hb, hml, hown⟩, hts, hE, -, -, -⟩ := hC
      have hw := hw H locs ls hR hS hL
      rw [hq] at hw
      rw [hp]
      exact lv_ior hx hb hd hw)
theorem ok_xor {own : String} {cc : ByteArray} {nL : Nat} {nl ini : Bool} {ret : Option FieldType} {P : Nat → Nat} {i pc : Nat} (hp : P i = pc) (hq : P (i + 1) = pc + 1) (hd : decode cc pc = .ok (.ixor, 1)) : mOk own cc nL nl ini ret P i (o_xor) := by
  intro C L S h k q hk
  rcases S with _ | ⟨y | y | y, _ | ⟨x | x | x, S⟩⟩ <;> first
    | exact absurd hk.symm (Option.some_ne_none _)
    | exact mOk.step (i + 1) L (vi (x ^^^ y) :: S) h (fun _ _ => rfl) hk rfl rfl (fun g d p l e R s m args below meth c Q h0 hC hw H locs ls hR hS hL => by
      obtain ⟨⟨hx, hb, hml, hown⟩, hts, hE, -, -, -⟩ := hC
      have hw := hw H locs ls hR hS hL
      rw [hq] at hw
      rw [hp]
      exact lv_ixor hx hb hd hw)
theorem ok_shl {own : String} {cc : ByteArray} {nL : Nat} {nl ini : Bool} {ret : Option FieldType} {P : Nat → Nat} {i pc : Nat} (hp : P i = pc) (hq : P (i + 1) = pc + 1) (hd : decode cc pc = .ok (.ishl, 1)) : mOk own cc nL nl ini ret P i (o_shl) := by
  intro C L S h k q hk
  rcases S with _ | ⟨y | y | y, _ | ⟨x | x | x, S⟩⟩ <;> first
    | exact absurd hk.symm (Option.some_ne_none _)
    | exact mOk.step (i + 1) L (vi (x <<< (y &&& 31)) :: S) h (fun _ _ => rfl) hk rfl rfl (fun g d p l e R s m args below meth c Q h0 hC hw H locs ls hR hS hL => by
      obtain ⟨⟨hx, hb, hml, hown⟩, hts, hE, -, -, -⟩ := hC
      have hw := hw H locs ls hR hS hL
      rw [hq] at hw
      rw [hp]
      exact lv_ishl hx hb hd hw)
theorem ok_shr {own : String} {cc : ByteArray} {nL : Nat} {nl ini : Bool} {ret : Option FieldType} {P : Nat → Nat} {i pc : Nat} (hp : P i = pc) (hq : P (i + 1) = pc + 1) (hd : decode cc pc = .ok (.ishr, 1)) : mOk own cc nL nl ini ret P i (o_shr) := by
  intro C L S h k q hk
  rcases S with _ | ⟨y | y | y, _ | ⟨x | x | x, S⟩⟩ <;> first
    | exact absurd hk.symm (Option.some_ne_none _)
    | exact mOk.step (i + 1) L (vi (x >>> (y &&& 31)) :: S) h (fun _ _ => rfl) hk rfl rfl (fun g d p l e R s m args below meth c Q h0 hC hw H locs ls hR hS hL => by
      obtain ⟨⟨hx, hb, hml, hown⟩, hts, hE, -, -, -⟩ := hC
      have hw := hw H locs ls hR hS hL
      rw [hq] at hw
      rw [hp]
      exact lv_ishr hx hb hd hw)
theorem ok_ushr {own : String} {cc : ByteArray} {nL : Nat} {nl ini : Bool} {ret : Option FieldType} {P : Nat → Nat} {i pc : Nat} (hp : P i = pc) (hq : P (i + 1) = pc + 1) (hd : decode cc pc = .ok (.iushr, 1)) : mOk own cc nL nl ini ret P i (o_ushr) := by
  intro C L S h k q hk
  rcases S with _ | ⟨y | y | y, _ | ⟨x | x | x, S⟩⟩ <;> first
    | exact absurd hk.symm (Option.some_ne_none _)
    | exact mOk.step (i + 1) L (vi ((x.toUInt32 >>> (y.toUInt32 &&& Int32.toUInt32 31)).toInt32) :: S) h (fun _ _ => rfl) hk rfl rfl (fun g d p l e R s m args below meth c Q h0 hC hw H locs ls hR hS hL => by
      obtain ⟨⟨hx, hb, hml, hown⟩, hts, hE, -, -, -⟩ := hC
      have hw := hw H locs ls hR hS hL
      rw [hq] at hw
      rw [hp]
      exact lv_iushr hx hb hd rfl hw)
theorem ok_ladd {own : String} {cc : ByteArray} {nL : Nat} {nl ini : Bool} {ret : Option FieldType} {P : Nat → Nat} {i pc : Nat} (hp : P i = pc) (hq : P (i + 1) = pc + 1) (hd : decode cc pc = .ok (.ladd, 1)) : mOk own cc nL nl ini ret P i (o_ladd) := by
  intro C L S h k q hk
  rcases S with _ | ⟨y | y | y, _ | ⟨x | x | x, S⟩⟩ <;> first
    | exact absurd hk.symm (Option.some_ne_none _)
    | exact mOk.step (i + 1) L (vl (x + y) :: S) h (fun _ _ => rfl) hk rfl rfl (fun g d p l e R s m args below meth c Q h0 hC hw H locs ls hR hS hL => by
      obtain ⟨⟨hx, hb, hml, hown⟩, hts, hE, -, -, -⟩ := hC
      have hw := hw H locs ls hR hS hL
      rw [hq] at hw
      rw [hp]
      exact lv_ladd hx hb hd hw)
theorem ok_lsub {own : String} {cc : ByteArray} {nL : Nat} {nl ini : Bool} {ret : Option FieldType} {P : Nat → Nat} {i pc : Nat} (hp : P i = pc) (hq : P (i + 1) = pc + 1) (hd : decode cc pc = .ok (.lsub, 1)) : mOk own cc nL nl ini ret P i (o_lsub) := by
  intro C L S h k q hk
  rcases S with _ | ⟨y | y | y, _ | ⟨x | x | x, S⟩⟩ <;> first
    | exact absurd hk.symm (Option.some_ne_none _)
    | exact mOk.step (i + 1) L (vl (x - y) :: S) h (fun _ _ => rfl) hk rfl rfl (fun g d p l e R s m args below meth c Q h0 hC hw H locs ls hR hS hL => by
      obtain ⟨⟨hx, hb, hml, hown⟩, hts, hE, -, -, -⟩ := hC
      have hw := hw H locs ls hR hS hL
      rw [hq] at hw
      rw [hp]
      exact lv_lsub hx hb hd hw)
theorem ok_lmul {own : String} {cc : ByteArray} {nL : Nat} {nl ini : Bool} {ret : Option FieldType} {P : Nat → Nat} {i pc : Nat} (hp : P i = pc) (hq : P (i + 1) = pc + 1) (hd : decode cc pc = .ok (.lmul, 1)) : mOk own cc nL nl ini ret P i (o_lmul) := by
  intro C L S h k q hk
  rcases S with _ | ⟨y | y | y, _ | ⟨x | x | x, S⟩⟩ <;> first
    | exact absurd hk.symm (Option.some_ne_none _)
    | exact mOk.step (i + 1) L (vl (x * y) :: S) h (fun _ _ => rfl) hk rfl rfl (fun g d p l e R s m args below meth c Q h0 hC hw H locs ls hR hS hL => by
      obtain ⟨⟨hx, hb, hml, hown⟩, hts, hE, -, -, -⟩ := hC
      have hw := hw H locs ls hR hS hL
      rw [hq] at hw
      rw [hp]
      exact lv_lmul hx hb hd hw)
theorem ok_lshl {own : String} {cc : ByteArray} {nL : Nat} {nl ini : Bool} {ret : Option FieldType} {P : Nat → Nat} {i pc : Nat} (hp : P i = pc) (hq : P (i + 1) = pc + 1) (hd : decode cc pc = .ok (.lshl, 1)) : mOk own cc nL nl ini ret P i (o_lshl) := by
  intro C L S h k q hk
  rcases S with _ | ⟨y | y | y, _ | ⟨x | x | x, S⟩⟩ <;> first
    | exact absurd hk.symm (Option.some_ne_none _)
    | exact mOk.step (i + 1) L (vl (x <<< (y.toInt64 &&& 63)) :: S) h (fun _ _ => rfl) hk rfl rfl (fun g d p l e R s m args below meth c Q h0 hC hw H locs ls hR hS hL => by
      obtain ⟨⟨hx, hb, hml, hown⟩, hts, hE, -, -, -⟩ := hC
      have hw := hw H locs ls hR hS hL
      rw [hq] at hw
      rw [hp]
      exact lv_lshl hx hb hd rfl hw)
theorem ok_lcmp {own : String} {cc : ByteArray} {nL : Nat} {nl ini : Bool} {ret : Option FieldType} {P : Nat → Nat} {i pc : Nat} (hp : P i = pc) (hq : P (i + 1) = pc + 1) (hd : decode cc pc = .ok (.lcmp, 1)) : mOk own cc nL nl ini ret P i (o_lcmp) := by
  intro C L S h k q hk
  rcases S with _ | ⟨y | y | y, _ | ⟨x | x | x, S⟩⟩ <;> first
    | exact absurd hk.symm (Option.some_ne_none _)
    | exact mOk.step (i + 1) L (vi (lg_cmp x y) :: S) h (fun _ _ => rfl) hk rfl rfl (fun g d p l e R s m args below meth c Q h0 hC hw H locs ls hR hS hL => by
      obtain ⟨⟨hx, hb, hml, hown⟩, hts, hE, -, -, -⟩ := hC
      have hw := hw H locs ls hR hS hL
      rw [hq] at hw
      rw [hp]
      exact W.lcmp hx hb hd hw)
theorem ok_div {own : String} {cc : ByteArray} {nL : Nat} {nl ini : Bool} {ret : Option FieldType} {P : Nat → Nat} {i pc : Nat} (hp : P i = pc) (hq : P (i + 1) = pc + 1) (hd : decode cc pc = .ok (.idiv, 1)) : mOk own cc nL nl ini ret P i (o_div) := by
  intro C L S h k q hk
  rcases S with _ | ⟨y | y | y, _ | ⟨x | x | x, S⟩⟩ <;> first
    | exact absurd hk.symm (Option.some_ne_none _)
    | skip
  by_cases hy : y = 0
  · have hk' : (if y = 0 then none else k (i + 1) L (vi (x / y) :: S) h) = some q := hk
    rw [if_pos hy] at hk'
    exact absurd hk'.symm (Option.some_ne_none _)
  · exact mOk.step (i + 1) L (vi (x / y) :: S) h (fun _ _ => if_neg hy) hk rfl rfl (fun g d p l e R s m args below meth c Q h0 hC hw H locs ls hR hS hL => by
      obtain ⟨⟨hx, hb, hml, hown⟩, hts, hE, -, -, -⟩ := hC
      have hw := hw H locs ls hR hS hL
      rw [hq] at hw
      rw [hp]
      exact lv_idiv hx hb hd hy hw)
theorem ok_rem {own : String} {cc : ByteArray} {nL : Nat} {nl ini : Bool} {ret : Option FieldType} {P : Nat → Nat} {i pc : Nat} (hp : P i = pc) (hq : P (i + 1) = pc + 1) (hd : decode cc pc = .ok (.irem, 1)) : mOk own cc nL nl ini ret P i (o_rem) := by
  intro C L S h k q hk
  rcases S with _ | ⟨y | y | y, _ | ⟨x | x | x, S⟩⟩ <;> first
    | exact absurd hk.symm (Option.some_ne_none _)
    | skip
  by_cases hy : y = 0
  · have hk' : (if y = 0 then none else k (i + 1) L (vi (x - x / y * y) :: S) h) = some q := hk
    rw [if_pos hy] at hk'
    exact absurd hk'.symm (Option.some_ne_none _)
  · exact mOk.step (i + 1) L (vi (x - x / y * y) :: S) h (fun _ _ => if_neg hy) hk rfl rfl (fun g d p l e R s m args below meth c Q h0 hC hw H locs ls hR hS hL => by
      obtain ⟨⟨hx, hb, hml, hown⟩, hts, hE, -, -, -⟩ := hC
      have hw := hw H locs ls hR hS hL
      rw [hq] at hw
      rw [hp]
      exact lv_irem hx hb hd hy hw)
theorem ok_ldiv {own : String} {cc : ByteArray} {nL : Nat} {nl ini : Bool} {ret : Option FieldType} {P : Nat → Nat} {i pc : Nat} (hp : P i = pc) (hq : P (i + 1) = pc + 1) (hd : decode cc pc = .ok (.ldiv, 1)) : mOk own cc nL nl ini ret P i (o_ldiv) := by
  intro C L S h k q hk
  rcases S with _ | ⟨y | y | y, _ | ⟨x | x | x, S⟩⟩ <;> first
    | exact absurd hk.symm (Option.some_ne_none _)
    | skip
  by_cases hy : y = 0
  · have hk' : (if y = 0 then none else k (i + 1) L (vl (x / y) :: S) h) = some q := hk
    rw [if_pos hy] at hk'
    exact absurd hk'.symm (Option.some_ne_none _)
  · exact mOk.step (i + 1) L (vl (x / y) :: S) h (fun _ _ => if_neg hy) hk rfl rfl (fun g d p l e R s m args below meth c Q h0 hC hw H locs ls hR hS hL => by
      obtain ⟨⟨hx, hb, hml, hown⟩, hts, hE, -, -, -⟩ := hC
      have hw := hw H locs ls hR hS hL
      rw [hq] at hw
      rw [hp]
      exact lv_ldiv hx hb hd hy hw)
theorem ok_lrem {own : String} {cc : ByteArray} {nL : Nat} {nl ini : Bool} {ret : Option FieldType} {P : Nat → Nat} {i pc : Nat} (hp : P i = pc) (hq : P (i + 1) = pc + 1) (hd : decode cc pc = .ok (.lrem, 1)) : mOk own cc nL nl ini ret P i (o_lrem) := by
  intro C L S h k q hk
  rcases S with _ | ⟨y | y | y, _ | ⟨x | x | x, S⟩⟩ <;> first
    | exact absurd hk.symm (Option.some_ne_none _)
    | skip
  by_cases hy : y = 0
  · have hk' : (if y = 0 then none else k (i + 1) L (vl (x - x / y * y) :: S) h) = some q := hk
    rw [if_pos hy] at hk'
    exact absurd hk'.symm (Option.some_ne_none _)
  · exact mOk.step (i + 1) L (vl (x - x / y * y) :: S) h (fun _ _ => if_neg hy) hk rfl rfl (fun g d p l e R s m args below meth c Q h0 hC hw H locs ls hR hS hL => by
      obtain ⟨⟨hx, hb, hml, hown⟩, hts, hE, -, -, -⟩ := hC
      have hw := hw H locs ls hR hS hL
      rw [hq] at hw
      rw [hp]
      exact lv_lrem hx hb hd hy hw)
theorem ok_i2l {own : String} {cc : ByteArray} {nL : Nat} {nl ini : Bool} {ret : Option FieldType} {P : Nat → Nat} {i pc : Nat} (hp : P i = pc) (hq : P (i + 1) = pc + 1) (hd : decode cc pc = .ok (.i2l, 1)) : mOk own cc nL nl ini ret P i (o_i2l) := by
  intro C L S h k q hk
  rcases S with _ | ⟨x | x | x, S⟩ <;> first
    | exact absurd hk.symm (Option.some_ne_none _)
    | exact mOk.step (i + 1) L (vl x.toInt64 :: S) h (fun _ _ => rfl) hk rfl rfl (fun g d p l e R s m args below meth c Q h0 hC hw H locs ls hR hS hL => by
      obtain ⟨⟨hx, hb, hml, hown⟩, hts, hE, -, -, -⟩ := hC
      have hw := hw H locs ls hR hS hL
      rw [hq] at hw
      rw [hp]
      exact lv_i2l hx hb hd rfl hw)
theorem ok_l2i {own : String} {cc : ByteArray} {nL : Nat} {nl ini : Bool} {ret : Option FieldType} {P : Nat → Nat} {i pc : Nat} (hp : P i = pc) (hq : P (i + 1) = pc + 1) (hd : decode cc pc = .ok (.l2i, 1)) : mOk own cc nL nl ini ret P i (o_l2i) := by
  intro C L S h k q hk
  rcases S with _ | ⟨x | x | x, S⟩ <;> first
    | exact absurd hk.symm (Option.some_ne_none _)
    | exact mOk.step (i + 1) L (vi x.toInt32 :: S) h (fun _ _ => rfl) hk rfl rfl (fun g d p l e R s m args below meth c Q h0 hC hw H locs ls hR hS hL => by
      obtain ⟨⟨hx, hb, hml, hown⟩, hts, hE, -, -, -⟩ := hC
      have hw := hw H locs ls hR hS hL
      rw [hq] at hw
      rw [hp]
      exact lv_l2i hx hb hd rfl hw)
theorem ok_dup {own : String} {cc : ByteArray} {nL : Nat} {nl ini : Bool} {ret : Option FieldType} {P : Nat → Nat} {i pc : Nat} (hp : P i = pc) (hq : P (i + 1) = pc + 1) (hd : decode cc pc = .ok (.dup, 1)) : mOk own cc nL nl ini ret P i (o_dup) := by
  intro C L S h k q hk
  rcases S with _ | ⟨x | x | x, S⟩ <;> first
    | exact absurd hk.symm (Option.some_ne_none _)
    | exact mOk.step (i + 1) L (vi x :: vi x :: S) h (fun _ _ => rfl) hk rfl rfl (fun g d p l e R s m args below meth c Q h0 hC hw H locs ls hR hS hL => by
      obtain ⟨⟨hx, hb, hml, hown⟩, hts, hE, -, -, -⟩ := hC
      have hw := hw H locs ls hR hS hL
      rw [hq] at hw
      rw [hp]
      exact lv_dup hx hb hd rfl hw)
    | exact mOk.step (i + 1) L (vr x :: vr x :: S) h (fun _ _ => rfl) hk rfl rfl (fun g d p l e R s m args below meth c Q h0 hC hw H locs ls hR hS hL => by
      obtain ⟨⟨hx, hb, hml, hown⟩, hts, hE, -, -, -⟩ := hC
      have hw := hw H locs ls hR hS hL
      rw [hq] at hw
      rw [hp]
      exact lv_dup hx hb hd (mcv_c1 (vr x) rfl) hw)
theorem ok_pop {own : String} {cc : ByteArray} {nL : Nat} {nl ini : Bool} {ret : Option FieldType} {P : Nat → Nat} {i pc : Nat} (hp : P i = pc) (hq : P (i + 1) = pc + 1) (hd : decode cc pc = .ok (.pop, 1)) : mOk own cc nL nl ini ret P i (o_pop) := by
  intro C L S h k q hk
  rcases S with _ | ⟨x | x | x, S⟩ <;> first
    | exact absurd hk.symm (Option.some_ne_none _)
    | exact mOk.step (i + 1) L S h (fun _ _ => rfl) hk rfl rfl (fun g d p l e R s m args below meth c Q h0 hC hw H locs ls hR hS hL => by
      obtain ⟨⟨hx, hb, hml, hown⟩, hts, hE, -, -, -⟩ := hC
      have hw := hw H locs ls hR hS hL
      rw [hq] at hw
      rw [hp]
      exact lv_pop hx hb hd (mcv_c1 (g := g) (vi x) rfl) hw)
    | exact mOk.step (i + 1) L S h (fun _ _ => rfl) hk rfl rfl (fun g d p l e R s m args below meth c Q h0 hC hw H locs ls hR hS hL => by
      obtain ⟨⟨hx, hb, hml, hown⟩, hts, hE, -, -, -⟩ := hC
      have hw := hw H locs ls hR hS hL
      rw [hq] at hw
      rw [hp]
      exact lv_pop hx hb hd (mcv_c1 (g := g) (vr x) rfl) hw)
theorem ok_dup2 {own : String} {cc : ByteArray} {nL : Nat} {nl ini : Bool} {ret : Option FieldType} {P : Nat → Nat} {i pc : Nat} (hp : P i = pc) (hq : P (i + 1) = pc + 1) (hd : decode cc pc = .ok (.dup2, 1)) : mOk own cc nL nl ini ret P i (o_dup2) := by
  intro C L S h k q hk
  rcases S with _ | ⟨y | y | y, _ | ⟨x | x | x, S⟩⟩ <;> first
    | exact absurd hk.symm (Option.some_ne_none _)
    | exact mOk.step (i + 1) L (vi y :: vr x :: vi y :: vr x :: S) h (fun _ _ => rfl) hk rfl rfl (fun g d p l e R s m args below meth c Q h0 hC hw H locs ls hR hS hL => by
      obtain ⟨⟨hx, hb, hml, hown⟩, hts, hE, -, -, -⟩ := hC
      have hw := hw H locs ls hR hS hL
      rw [hq] at hw
      rw [hp]
      exact lv_dup2_11 hx hb hd rfl (mcv_c1 (g := g) (vr x) rfl) hw)
theorem ok_ifeq {own : String} {cc : ByteArray} {nL : Nat} {nl ini : Bool} {ret : Option FieldType} {P : Nat → Nat} {i pc : Nat} {t tgt : Nat} {off : Int} (hp : P i = pc) (hq : P (i + 1) = pc + 3) (hq2 : P t = tgt) (ht : (pc : Int) + off = (tgt : Int)) (hd : decode cc pc = .ok (.ifCond .eq off, 3)) : mOk own cc nL nl ini ret P i (o_ifeq t) := by
  intro C L S h k q hk
  rcases S with _ | ⟨x | x | x, S⟩ <;> first
    | exact absurd hk.symm (Option.some_ne_none _)
    | skip
  by_cases hc : x = 0
  · exact mOk.step (t) L S h (fun _ _ => if_pos hc) hk rfl rfl (fun g d p l e R s m args below meth c Q h0 hC hw H locs ls hR hS hL => by
      obtain ⟨⟨hx, hb, hml, hown⟩, hts, hE, -, -, -⟩ := hC
      have hw := hw H locs ls hR hS hL
      rw [hq2] at hw
      rw [hp]
      exact lv_if_eq hx hb hd ht (fun _ => hw) (fun n => absurd hc n))
  · exact mOk.step (i + 1) L S h (fun _ _ => if_neg hc) hk rfl rfl (fun g d p l e R s m args below meth c Q h0 hC hw H locs ls hR hS hL => by
      obtain ⟨⟨hx, hb, hml, hown⟩, hts, hE, -, -, -⟩ := hC
      have hw := hw H locs ls hR hS hL
      rw [hq] at hw
      rw [hp]
      exact lv_if_eq hx hb hd ht (fun n => absurd n hc) (fun _ => hw))
theorem ok_ifne {own : String} {cc : ByteArray} {nL : Nat} {nl ini : Bool} {ret : Option FieldType} {P : Nat → Nat} {i pc : Nat} {t tgt : Nat} {off : Int} (hp : P i = pc) (hq : P (i + 1) = pc + 3) (hq2 : P t = tgt) (ht : (pc : Int) + off = (tgt : Int)) (hd : decode cc pc = .ok (.ifCond .ne off, 3)) : mOk own cc nL nl ini ret P i (o_ifne t) := by
  intro C L S h k q hk
  rcases S with _ | ⟨x | x | x, S⟩ <;> first
    | exact absurd hk.symm (Option.some_ne_none _)
    | skip
  by_cases hc : x = 0
  · exact mOk.step (i + 1) L S h (fun _ _ => if_pos hc) hk rfl rfl (fun g d p l e R s m args below meth c Q h0 hC hw H locs ls hR hS hL => by
      obtain ⟨⟨hx, hb, hml, hown⟩, hts, hE, -, -, -⟩ := hC
      have hw := hw H locs ls hR hS hL
      rw [hq] at hw
      rw [hp]
      exact lv_if_ne hx hb hd ht (fun n => absurd hc n) (fun _ => hw))
  · exact mOk.step (t) L S h (fun _ _ => if_neg hc) hk rfl rfl (fun g d p l e R s m args below meth c Q h0 hC hw H locs ls hR hS hL => by
      obtain ⟨⟨hx, hb, hml, hown⟩, hts, hE, -, -, -⟩ := hC
      have hw := hw H locs ls hR hS hL
      rw [hq2] at hw
      rw [hp]
      exact lv_if_ne hx hb hd ht (fun _ => hw) (fun n => absurd n hc))
theorem ok_iflt {own : String} {cc : ByteArray} {nL : Nat} {nl ini : Bool} {ret : Option FieldType} {P : Nat → Nat} {i pc : Nat} {t tgt : Nat} {off : Int} (hp : P i = pc) (hq : P (i + 1) = pc + 3) (hq2 : P t = tgt) (ht : (pc : Int) + off = (tgt : Int)) (hd : decode cc pc = .ok (.ifCond .lt off, 3)) : mOk own cc nL nl ini ret P i (o_iflt t) := by
  intro C L S h k q hk
  rcases S with _ | ⟨x | x | x, S⟩ <;> first
    | exact absurd hk.symm (Option.some_ne_none _)
    | skip
  by_cases hc : x < 0
  · exact mOk.step (t) L S h (fun _ _ => if_pos hc) hk rfl rfl (fun g d p l e R s m args below meth c Q h0 hC hw H locs ls hR hS hL => by
      obtain ⟨⟨hx, hb, hml, hown⟩, hts, hE, -, -, -⟩ := hC
      have hw := hw H locs ls hR hS hL
      rw [hq2] at hw
      rw [hp]
      exact lv_if_lt hx hb hd ht (fun _ => hw) (fun n => absurd hc n))
  · exact mOk.step (i + 1) L S h (fun _ _ => if_neg hc) hk rfl rfl (fun g d p l e R s m args below meth c Q h0 hC hw H locs ls hR hS hL => by
      obtain ⟨⟨hx, hb, hml, hown⟩, hts, hE, -, -, -⟩ := hC
      have hw := hw H locs ls hR hS hL
      rw [hq] at hw
      rw [hp]
      exact lv_if_lt hx hb hd ht (fun n => absurd n hc) (fun _ => hw))
theorem ok_ifge {own : String} {cc : ByteArray} {nL : Nat} {nl ini : Bool} {ret : Option FieldType} {P : Nat → Nat} {i pc : Nat} {t tgt : Nat} {off : Int} (hp : P i = pc) (hq : P (i + 1) = pc + 3) (hq2 : P t = tgt) (ht : (pc : Int) + off = (tgt : Int)) (hd : decode cc pc = .ok (.ifCond .ge off, 3)) : mOk own cc nL nl ini ret P i (o_ifge t) := by
  intro C L S h k q hk
  rcases S with _ | ⟨x | x | x, S⟩ <;> first
    | exact absurd hk.symm (Option.some_ne_none _)
    | skip
  by_cases hc : 0 ≤ x
  · exact mOk.step (t) L S h (fun _ _ => if_pos hc) hk rfl rfl (fun g d p l e R s m args below meth c Q h0 hC hw H locs ls hR hS hL => by
      obtain ⟨⟨hx, hb, hml, hown⟩, hts, hE, -, -, -⟩ := hC
      have hw := hw H locs ls hR hS hL
      rw [hq2] at hw
      rw [hp]
      exact lv_if_ge hx hb hd ht (fun _ => hw) (fun n => absurd hc n))
  · exact mOk.step (i + 1) L S h (fun _ _ => if_neg hc) hk rfl rfl (fun g d p l e R s m args below meth c Q h0 hC hw H locs ls hR hS hL => by
      obtain ⟨⟨hx, hb, hml, hown⟩, hts, hE, -, -, -⟩ := hC
      have hw := hw H locs ls hR hS hL
      rw [hq] at hw
      rw [hp]
      exact lv_if_ge hx hb hd ht (fun n => absurd n hc) (fun _ => hw))
theorem ok_ifgt {own : String} {cc : ByteArray} {nL : Nat} {nl ini : Bool} {ret : Option FieldType} {P : Nat → Nat} {i pc : Nat} {t tgt : Nat} {off : Int} (hp : P i = pc) (hq : P (i + 1) = pc + 3) (hq2 : P t = tgt) (ht : (pc : Int) + off = (tgt : Int)) (hd : decode cc pc = .ok (.ifCond .gt off, 3)) : mOk own cc nL nl ini ret P i (o_ifgt t) := by
  intro C L S h k q hk
  rcases S with _ | ⟨x | x | x, S⟩ <;> first
    | exact absurd hk.symm (Option.some_ne_none _)
    | skip
  by_cases hc : 0 < x
  · exact mOk.step (t) L S h (fun _ _ => if_pos hc) hk rfl rfl (fun g d p l e R s m args below meth c Q h0 hC hw H locs ls hR hS hL => by
      obtain ⟨⟨hx, hb, hml, hown⟩, hts, hE, -, -, -⟩ := hC
      have hw := hw H locs ls hR hS hL
      rw [hq2] at hw
      rw [hp]
      exact lv_if_gt hx hb hd ht (fun _ => hw) (fun n => absurd hc n))
  · exact mOk.step (i + 1) L S h (fun _ _ => if_neg hc) hk rfl rfl (fun g d p l e R s m args below meth c Q h0 hC hw H locs ls hR hS hL => by
      obtain ⟨⟨hx, hb, hml, hown⟩, hts, hE, -, -, -⟩ := hC
      have hw := hw H locs ls hR hS hL
      rw [hq] at hw
      rw [hp]
      exact lv_if_gt hx hb hd ht (fun n => absurd n hc) (fun _ => hw))
theorem ok_ifle {own : String} {cc : ByteArray} {nL : Nat} {nl ini : Bool} {ret : Option FieldType} {P : Nat → Nat} {i pc : Nat} {t tgt : Nat} {off : Int} (hp : P i = pc) (hq : P (i + 1) = pc + 3) (hq2 : P t = tgt) (ht : (pc : Int) + off = (tgt : Int)) (hd : decode cc pc = .ok (.ifCond .le off, 3)) : mOk own cc nL nl ini ret P i (o_ifle t) := by
  intro C L S h k q hk
  rcases S with _ | ⟨x | x | x, S⟩ <;> first
    | exact absurd hk.symm (Option.some_ne_none _)
    | skip
  by_cases hc : x ≤ 0
  · exact mOk.step (t) L S h (fun _ _ => if_pos hc) hk rfl rfl (fun g d p l e R s m args below meth c Q h0 hC hw H locs ls hR hS hL => by
      obtain ⟨⟨hx, hb, hml, hown⟩, hts, hE, -, -, -⟩ := hC
      have hw := hw H locs ls hR hS hL
      rw [hq2] at hw
      rw [hp]
      exact lv_if_le hx hb hd ht (fun _ => hw) (fun n => absurd hc n))
  · exact mOk.step (i + 1) L S h (fun _ _ => if_neg hc) hk rfl rfl (fun g d p l e R s m args below meth c Q h0 hC hw H locs ls hR hS hL => by
      obtain ⟨⟨hx, hb, hml, hown⟩, hts, hE, -, -, -⟩ := hC
      have hw := hw H locs ls hR hS hL
      rw [hq] at hw
      rw [hp]
      exact lv_if_le hx hb hd ht (fun n => absurd n hc) (fun _ => hw))
theorem ok_ceq {own : String} {cc : ByteArray} {nL : Nat} {nl ini : Bool} {ret : Option FieldType} {P : Nat → Nat} {i pc : Nat} {t tgt : Nat} {off : Int} (hp : P i = pc) (hq : P (i + 1) = pc + 3) (hq2 : P t = tgt) (ht : (pc : Int) + off = (tgt : Int)) (hd : decode cc pc = .ok (.if_icmp .eq off, 3)) : mOk own cc nL nl ini ret P i (o_ceq t) := by
  intro C L S h k q hk
  rcases S with _ | ⟨y | y | y, _ | ⟨x | x | x, S⟩⟩ <;> first
    | exact absurd hk.symm (Option.some_ne_none _)
    | skip
  by_cases hc : x = y
  · exact mOk.step (t) L S h (fun _ _ => if_pos hc) hk rfl rfl (fun g d p l e R s m args below meth c Q h0 hC hw H locs ls hR hS hL => by
      obtain ⟨⟨hx, hb, hml, hown⟩, hts, hE, -, -, -⟩ := hC
      have hw := hw H locs ls hR hS hL
      rw [hq2] at hw
      rw [hp]
      exact lv_icmp_eq hx hb hd ht (fun _ => hw) (fun n => absurd hc n))
  · exact mOk.step (i + 1) L S h (fun _ _ => if_neg hc) hk rfl rfl (fun g d p l e R s m args below meth c Q h0 hC hw H locs ls hR hS hL => by
      obtain ⟨⟨hx, hb, hml, hown⟩, hts, hE, -, -, -⟩ := hC
      have hw := hw H locs ls hR hS hL
      rw [hq] at hw
      rw [hp]
      exact lv_icmp_eq hx hb hd ht (fun n => absurd n hc) (fun _ => hw))
theorem ok_cne {own : String} {cc : ByteArray} {nL : Nat} {nl ini : Bool} {ret : Option FieldType} {P : Nat → Nat} {i pc : Nat} {t tgt : Nat} {off : Int} (hp : P i = pc) (hq : P (i + 1) = pc + 3) (hq2 : P t = tgt) (ht : (pc : Int) + off = (tgt : Int)) (hd : decode cc pc = .ok (.if_icmp .ne off, 3)) : mOk own cc nL nl ini ret P i (o_cne t) := by
  intro C L S h k q hk
  rcases S with _ | ⟨y | y | y, _ | ⟨x | x | x, S⟩⟩ <;> first
    | exact absurd hk.symm (Option.some_ne_none _)
    | skip
  by_cases hc : x = y
  · exact mOk.step (i + 1) L S h (fun _ _ => if_pos hc) hk rfl rfl (fun g d p l e R s m args below meth c Q h0 hC hw H locs ls hR hS hL => by
      obtain ⟨⟨hx, hb, hml, hown⟩, hts, hE, -, -, -⟩ := hC
      have hw := hw H locs ls hR hS hL
      rw [hq] at hw
      rw [hp]
      exact lv_icmp_ne hx hb hd ht (fun n => absurd hc n) (fun _ => hw))
  · exact mOk.step (t) L S h (fun _ _ => if_neg hc) hk rfl rfl (fun g d p l e R s m args below meth c Q h0 hC hw H locs ls hR hS hL => by
      obtain ⟨⟨hx, hb, hml, hown⟩, hts, hE, -, -, -⟩ := hC
      have hw := hw H locs ls hR hS hL
      rw [hq2] at hw
      rw [hp]
      exact lv_icmp_ne hx hb hd ht (fun _ => hw) (fun n => absurd n hc))
theorem ok_clt {own : String} {cc : ByteArray} {nL : Nat} {nl ini : Bool} {ret : Option FieldType} {P : Nat → Nat} {i pc : Nat} {t tgt : Nat} {off : Int} (hp : P i = pc) (hq : P (i + 1) = pc + 3) (hq2 : P t = tgt) (ht : (pc : Int) + off = (tgt : Int)) (hd : decode cc pc = .ok (.if_icmp .lt off, 3)) : mOk own cc nL nl ini ret P i (o_clt t) := by
  intro C L S h k q hk
  rcases S with _ | ⟨y | y | y, _ | ⟨x | x | x, S⟩⟩ <;> first
    | exact absurd hk.symm (Option.some_ne_none _)
    | skip
  by_cases hc : x < y
  · exact mOk.step (t) L S h (fun _ _ => if_pos hc) hk rfl rfl (fun g d p l e R s m args below meth c Q h0 hC hw H locs ls hR hS hL => by
      obtain ⟨⟨hx, hb, hml, hown⟩, hts, hE, -, -, -⟩ := hC
      have hw := hw H locs ls hR hS hL
      rw [hq2] at hw
      rw [hp]
      exact lv_icmp_lt hx hb hd ht (fun _ => hw) (fun n => absurd hc n))
  · exact mOk.step (i + 1) L S h (fun _ _ => if_neg hc) hk rfl rfl (fun g d p l e R s m args below meth c Q h0 hC hw H locs ls hR hS hL => by
      obtain ⟨⟨hx, hb, hml, hown⟩, hts, hE, -, -, -⟩ := hC
      have hw := hw H locs ls hR hS hL
      rw [hq] at hw
      rw [hp]
      exact lv_icmp_lt hx hb hd ht (fun n => absurd n hc) (fun _ => hw))
theorem ok_cge {own : String} {cc : ByteArray} {nL : Nat} {nl ini : Bool} {ret : Option FieldType} {P : Nat → Nat} {i pc : Nat} {t tgt : Nat} {off : Int} (hp : P i = pc) (hq : P (i + 1) = pc + 3) (hq2 : P t = tgt) (ht : (pc : Int) + off = (tgt : Int)) (hd : decode cc pc = .ok (.if_icmp .ge off, 3)) : mOk own cc nL nl ini ret P i (o_cge t) := by
  intro C L S h k q hk
  rcases S with _ | ⟨y | y | y, _ | ⟨x | x | x, S⟩⟩ <;> first
    | exact absurd hk.symm (Option.some_ne_none _)
    | skip
  by_cases hc : y ≤ x
  · exact mOk.step (t) L S h (fun _ _ => if_pos hc) hk rfl rfl (fun g d p l e R s m args below meth c Q h0 hC hw H locs ls hR hS hL => by
      obtain ⟨⟨hx, hb, hml, hown⟩, hts, hE, -, -, -⟩ := hC
      have hw := hw H locs ls hR hS hL
      rw [hq2] at hw
      rw [hp]
      exact lv_icmp_ge hx hb hd ht (fun _ => hw) (fun n => absurd hc n))
  · exact mOk.step (i + 1) L S h (fun _ _ => if_neg hc) hk rfl rfl (fun g d p l e R s m args below meth c Q h0 hC hw H locs ls hR hS hL => by
      obtain ⟨⟨hx, hb, hml, hown⟩, hts, hE, -, -, -⟩ := hC
      have hw := hw H locs ls hR hS hL
      rw [hq] at hw
      rw [hp]
      exact lv_icmp_ge hx hb hd ht (fun n => absurd n hc) (fun _ => hw))
theorem ok_cgt {own : String} {cc : ByteArray} {nL : Nat} {nl ini : Bool} {ret : Option FieldType} {P : Nat → Nat} {i pc : Nat} {t tgt : Nat} {off : Int} (hp : P i = pc) (hq : P (i + 1) = pc + 3) (hq2 : P t = tgt) (ht : (pc : Int) + off = (tgt : Int)) (hd : decode cc pc = .ok (.if_icmp .gt off, 3)) : mOk own cc nL nl ini ret P i (o_cgt t) := by
  intro C L S h k q hk
  rcases S with _ | ⟨y | y | y, _ | ⟨x | x | x, S⟩⟩ <;> first
    | exact absurd hk.symm (Option.some_ne_none _)
    | skip
  by_cases hc : y < x
  · exact mOk.step (t) L S h (fun _ _ => if_pos hc) hk rfl rfl (fun g d p l e R s m args below meth c Q h0 hC hw H locs ls hR hS hL => by
      obtain ⟨⟨hx, hb, hml, hown⟩, hts, hE, -, -, -⟩ := hC
      have hw := hw H locs ls hR hS hL
      rw [hq2] at hw
      rw [hp]
      exact lv_icmp_gt hx hb hd ht (fun _ => hw) (fun n => absurd hc n))
  · exact mOk.step (i + 1) L S h (fun _ _ => if_neg hc) hk rfl rfl (fun g d p l e R s m args below meth c Q h0 hC hw H locs ls hR hS hL => by
      obtain ⟨⟨hx, hb, hml, hown⟩, hts, hE, -, -, -⟩ := hC
      have hw := hw H locs ls hR hS hL
      rw [hq] at hw
      rw [hp]
      exact lv_icmp_gt hx hb hd ht (fun n => absurd n hc) (fun _ => hw))
theorem ok_cle {own : String} {cc : ByteArray} {nL : Nat} {nl ini : Bool} {ret : Option FieldType} {P : Nat → Nat} {i pc : Nat} {t tgt : Nat} {off : Int} (hp : P i = pc) (hq : P (i + 1) = pc + 3) (hq2 : P t = tgt) (ht : (pc : Int) + off = (tgt : Int)) (hd : decode cc pc = .ok (.if_icmp .le off, 3)) : mOk own cc nL nl ini ret P i (o_cle t) := by
  intro C L S h k q hk
  rcases S with _ | ⟨y | y | y, _ | ⟨x | x | x, S⟩⟩ <;> first
    | exact absurd hk.symm (Option.some_ne_none _)
    | skip
  by_cases hc : x ≤ y
  · exact mOk.step (t) L S h (fun _ _ => if_pos hc) hk rfl rfl (fun g d p l e R s m args below meth c Q h0 hC hw H locs ls hR hS hL => by
      obtain ⟨⟨hx, hb, hml, hown⟩, hts, hE, -, -, -⟩ := hC
      have hw := hw H locs ls hR hS hL
      rw [hq2] at hw
      rw [hp]
      exact lv_icmp_le hx hb hd ht (fun _ => hw) (fun n => absurd hc n))
  · exact mOk.step (i + 1) L S h (fun _ _ => if_neg hc) hk rfl rfl (fun g d p l e R s m args below meth c Q h0 hC hw H locs ls hR hS hL => by
      obtain ⟨⟨hx, hb, hml, hown⟩, hts, hE, -, -, -⟩ := hC
      have hw := hw H locs ls hR hS hL
      rw [hq] at hw
      rw [hp]
      exact lv_icmp_le hx hb hd ht (fun n => absurd n hc) (fun _ => hw))
theorem ok_nullp {own : String} {cc : ByteArray} {nL : Nat} {nl ini : Bool} {ret : Option FieldType} {P : Nat → Nat} {i pc : Nat} {t tgt : Nat} {off : Int} (hp : P i = pc) (hq : P (i + 1) = pc + 3) (hq2 : P t = tgt) (ht : (pc : Int) + off = (tgt : Int)) (hd : decode cc pc = .ok (.ifnull off, 3)) : mOk own cc nL nl ini ret P i (o_nullp t) := by
  intro C L S h k q hk
  rcases S with _ | ⟨x | x | x, S⟩ <;> first
    | exact absurd hk.symm (Option.some_ne_none _)
    | skip
  by_cases hc : x = 0
  · exact mOk.step (t) L S h (fun _ _ => if_pos hc) hk rfl rfl (fun g d p l e R s m args below meth c Q h0 hC hw H locs ls hR hS hL => by
      obtain ⟨⟨hx, hb, hml, hown⟩, hts, hE, -, -, -⟩ := hC
      have hw := hw H locs ls hR hS hL
      rw [hq2] at hw
      rw [hp]
      exact (by subst hc; exact lv_ifnullN hx hb hd ht hw))
  · exact mOk.step (i + 1) L S h (fun _ _ => if_neg hc) hk rfl rfl (fun g d p l e R s m args below meth c Q h0 hC hw H locs ls hR hS hL => by
      obtain ⟨⟨hx, hb, hml, hown⟩, hts, hE, -, -, -⟩ := hC
      have hw := hw H locs ls hR hS hL
      rw [hq] at hw
      rw [hp]
      exact (by show W p l e R s m args below meth c H locs _ _ Q (F0 m pc ls (mrf g x :: _)); rw [mrf_ref hc]; exact lv_ifnull hx hb hd hw))
theorem ok_nonnull {own : String} {cc : ByteArray} {nL : Nat} {nl ini : Bool} {ret : Option FieldType} {P : Nat → Nat} {i pc : Nat} {t tgt : Nat} {off : Int} (hp : P i = pc) (hq : P (i + 1) = pc + 3) (hq2 : P t = tgt) (ht : (pc : Int) + off = (tgt : Int)) (hd : decode cc pc = .ok (.ifnonnull off, 3)) : mOk own cc nL nl ini ret P i (o_nonnull t) := by
  intro C L S h k q hk
  rcases S with _ | ⟨x | x | x, S⟩ <;> first
    | exact absurd hk.symm (Option.some_ne_none _)
    | skip
  by_cases hc : x = 0
  · exact mOk.step (i + 1) L S h (fun _ _ => if_pos hc) hk rfl rfl (fun g d p l e R s m args below meth c Q h0 hC hw H locs ls hR hS hL => by
      obtain ⟨⟨hx, hb, hml, hown⟩, hts, hE, -, -, -⟩ := hC
      have hw := hw H locs ls hR hS hL
      rw [hq] at hw
      rw [hp]
      exact (by subst hc; exact lv_ifnonnullN hx hb hd hw))
  · exact mOk.step (t) L S h (fun _ _ => if_neg hc) hk rfl rfl (fun g d p l e R s m args below meth c Q h0 hC hw H locs ls hR hS hL => by
      obtain ⟨⟨hx, hb, hml, hown⟩, hts, hE, -, -, -⟩ := hC
      have hw := hw H locs ls hR hS hL
      rw [hq2] at hw
      rw [hp]
      exact (by show W p l e R s m args below meth c H locs _ _ Q (F0 m pc ls (mrf g x :: _)); rw [mrf_ref hc]; exact lv_ifnonnull hx hb hd ht hw))
theorem ok_goto {own : String} {cc : ByteArray} {nL : Nat} {nl ini : Bool} {ret : Option FieldType} {P : Nat → Nat} {i pc : Nat} {t tgt : Nat} {off : Int} (hp : P i = pc) (hq : P t = tgt) (ht : (pc : Int) + off = (tgt : Int)) (hd : decode cc pc = .ok (.goto off, 3)) : mOk own cc nL nl ini ret P i (o_goto t) := by
  intro C L S h k q hk
  exact mOk.step t L S h (fun _ _ => rfl) hk rfl rfl (fun g d p l e R s m args below meth c Q h0 hC hw H locs ls hR hS hL => by
      obtain ⟨⟨hx, hb, hml, hown⟩, hts, hE, -, -, -⟩ := hC
      have hw := hw H locs ls hR hS hL
      rw [hq] at hw
      rw [hp]
      exact lv_goto hx hb hd ht hw)
