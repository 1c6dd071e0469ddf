/-! ===== the operations are sound: arrays, new cells, the table ===== -/
section OKR
variable {own : String} {cc : ByteArray} {nL : Nat} {nl ini : Bool} {ret : Option FieldType} {P : Nat → Nat} {i pc : Nat}
theorem ok_iald (hp : P i = pc) (hq : P (i + 1) = pc + 1) (hd : decode cc pc = .ok (.iaload, 1)) : mOk own cc nL nl ini ret P i (o_ald4 21) := by
  intro C L S h k q hk
  rcases S with _ | ⟨j | j | j, _ | ⟨a | a | a, S⟩⟩ <;> first
    | exact absurd hk.symm (Option.some_ne_none _)
    | skip
  by_cases hc0 : mK h a = 21
  · by_cases hj : j < 0 ∨ mN h a ≤ j.toNatClampNeg
    · exact absurd (hk.symm.trans ((if_pos hc0).trans (if_pos hj))) (Option.some_ne_none _)
    · exact mOk.step (i + 1) L (vi (mI h a j.toNatClampNeg) :: S) h (fun _ _ => (if_pos hc0).trans (if_neg hj)) hk rfl rfl (fun g d p l e R s m args below meth c Q h0 hC hw H locs ls hR hS hL => by
        obtain ⟨⟨hx, hb, hml, hown⟩, hts, hE, -, -, -⟩ := hC
        have hw := hw H locs ls hR hS hL
        rw [hq] at hw
        obtain ⟨z0, z1, z2⟩ := hR.arr hc0 (by decide) (by decide)
        rw [mce_int hc0] at z2
        rw [hp]
        show W p l e R s m args below meth c H locs _ _ Q (F0 m pc ls (.int j :: mrf g a :: _))
        rw [mrf_ref z0]
        exact va_iald hx hb hE.1 hR.1 (a - 3) 0 z2 rfl hj hd hw)
  · exact absurd (hk.symm.trans (if_neg hc0)) (Option.some_ne_none _)
theorem ok_zald (hp : P i = pc) (hq : P (i + 1) = pc + 1) (hd : decode cc pc = .ok (.baload, 1)) : mOk own cc nL nl ini ret P i (o_ald4 22) := by
  intro C L S h k q hk
  rcases S with _ | ⟨j | j | j, _ | ⟨a | a | a, S⟩⟩ <;> first
    | exact absurd hk.symm (Option.some_ne_none _)
    | skip
  by_cases hc0 : mK h a = 22
  · by_cases hj : j < 0 ∨ mN h a ≤ j.toNatClampNeg
    · exact absurd (hk.symm.trans ((if_pos hc0).trans (if_pos hj))) (Option.some_ne_none _)
    · exact mOk.step (i + 1) L (vi (mI h a j.toNatClampNeg) :: S) h (fun _ _ => (if_pos hc0).trans (if_neg hj)) hk rfl rfl (fun g d p l e R s m args below meth c Q h0 hC hw H locs ls hR hS hL => by
        obtain ⟨⟨hx, hb, hml, hown⟩, hts, hE, -, -, -⟩ := hC
        have hw := hw H locs ls hR hS hL
        rw [hq] at hw
        obtain ⟨z0, z1, z2⟩ := hR.arr hc0 (by decide) (by decide)
        rw [mce_bool hc0] at z2
        rw [hp]
        show W p l e R s m args below meth c H locs _ _ Q (F0 m pc ls (.int j :: mrf g a :: _))
        rw [mrf_ref z0]
        exact va_zald hx hb hE.1 hR.1 (a - 3) 1 z2 rfl hj hd hw)
  · exact absurd (hk.symm.trans (if_neg hc0)) (Option.some_ne_none _)
/-- the script -/
theorem ok_sald (hp : P i = pc) (hq : P (i + 1) = pc + 1) (hd : decode cc pc = .ok (.iaload, 1)) : mOk own cc nL nl ini ret P i (o_ald4 31) := by
  intro C L S h k q hk
  rcases S with _ | ⟨j | j | j, _ | ⟨a | a | a, S⟩⟩ <;> first
    | exact absurd hk.symm (Option.some_ne_none _)
    | skip
  by_cases hc0 : mK h a = 31
  · by_cases hj : j < 0 ∨ mN h a ≤ j.toNatClampNeg
    · exact absurd (hk.symm.trans ((if_pos hc0).trans (if_pos hj))) (Option.some_ne_none _)
    · exact mOk.step (i + 1) L (vi (mI h a j.toNatClampNeg) :: S) h (fun _ _ => (if_pos hc0).trans (if_neg hj)) hk rfl rfl (fun g d p l e R s m args below meth c Q h0 hC hw H locs ls hR hS hL => by
        obtain ⟨⟨hx, hb, hml, hown⟩, hts, hE, -, ⟨hz, -, -⟩, -⟩ := hC
        have hw := hw H locs ls hR hS hL
        rw [hq] at hw
        have ha := hR.2.2.2.2.2.2.2.2.1 a hc0
        subst ha
        obtain ⟨-, -, ⟨-, q4, q5⟩, -⟩ := hR.2.2
        obtain ⟨-, -, -, -, -, -, -, hX, hbl⟩ := hE
        rw [q4] at hj
        rw [hp]
        show W p l e R s m args below meth c H locs _ _ Q (F0 m pc ls (.int j :: .ref (gb g) :: _))
        refine va_sld hx hb hX (by omega) (Nat.not_le.mpr hbl) hS hj hd ?_
        rw [← q5]
        exact hw)
  · exact absurd (hk.symm.trans (if_neg hc0)) (Option.some_ne_none _)
/-- the table -/
theorem ok_tald (hp : P i = pc) (hq : P (i + 1) = pc + 1) (hd : decode cc pc = .ok (.iaload, 1)) : mOk own cc nL nl ini ret P i (o_ald4 32) := by
  intro C L S h k q hk
  rcases S with _ | ⟨j | j | j, _ | ⟨a | a | a, S⟩⟩ <;> first
    | exact absurd hk.symm (Option.some_ne_none _)
    | skip
  by_cases hc0 : mK h a = 32
  · by_cases hj : j < 0 ∨ mN h a ≤ j.toNatClampNeg
    · exact absurd (hk.symm.trans ((if_pos hc0).trans (if_pos hj))) (Option.some_ne_none _)
    · exact mOk.step (i + 1) L (vi (mI h a j.toNatClampNeg) :: S) h (fun _ _ => (if_pos hc0).trans (if_neg hj)) hk rfl rfl (fun g d p l e R s m args below meth c Q h0 hC hw H locs ls hR hS hL => by
        obtain ⟨⟨hx, hb, hml, hown⟩, hts, hE, -, -, -⟩ := hC
        have hw := hw H locs ls hR hS hL
        rw [hq] at hw
        have ha := hR.2.2.2.2.2.2.2.2.2 a hc0
        subst ha
        obtain ⟨-, -, -, ⟨-, q4, q5⟩, -⟩ := hR.2.2
        obtain ⟨-, -, -, -, -, -, hT, -⟩ := hE
        rw [q4] at hj
        rw [hp]
        show W p l e R s m args below meth c H locs _ _ Q (F0 m pc ls (.int j :: .ref (gt g) :: _))
        refine va_ti hx hb hT hS hj rfl hd ?_
        show W p l e R s m args below meth c H locs _ _ Q (F0 m (pc + 1) ls (.int (mptv j.toNatClampNeg) :: _))
        rw [← q5 _ (Nat.not_le.mp fun z => hj (Or.inr z))]
        exact hw)
  · exact absurd (hk.symm.trans (if_neg hc0)) (Option.some_ne_none _)
theorem ok_aald {K t0 : Nat} {Cn : String} (h1 : K = 23 ∧ t0 = 2 ∧ Cn = RX0 ∨ K = 24 ∧ t0 = 3 ∧ Cn = RX7) (hp : P i = pc) (hq : P (i + 1) = pc + 1) (hd : decode cc pc = .ok (.aaload, 1)) : mOk own cc nL nl ini ret P i (o_ald5 K) := by
  intro C L S h k q hk
  rcases S with _ | ⟨j | j | j, _ | ⟨a | a | a, S⟩⟩ <;> first
    | exact absurd hk.symm (Option.some_ne_none _)
    | skip
  by_cases hc0 : mK h a = K
  · by_cases hj : j < 0 ∨ mN h a ≤ j.toNatClampNeg
    · exact absurd (hk.symm.trans ((if_pos hc0).trans (if_pos hj))) (Option.some_ne_none _)
    · exact mOk.step (i + 1) L (vr (mP h a j.toNatClampNeg) :: S) h (fun _ _ => (if_pos hc0).trans (if_neg hj)) hk rfl rfl (fun g d p l e R s m args below meth c Q h0 hC hw H locs ls hR hS hL => by
        obtain ⟨⟨hx, hb, hml, hown⟩, hts, hE, -, -, -⟩ := hC
        have hw := hw H locs ls hR hS hL
        rw [hq] at hw
        obtain ⟨z0, z1, z2⟩ := hR.arr hc0 (by omega) (by omega)
        rw [mce_q hc0 (by omega) (by omega)] at z2
        rw [hp]
        show W p l e R s m args below meth c H locs _ _ Q (F0 m pc ls (.int j :: mrf g a :: _))
        rw [mrf_ref z0]
        exact va_aldq (C := Cn) hx hb hE.1 hR.1 (a - 3) t0 z2 (by rcases h1 with ⟨rfl, rfl, rfl⟩ | ⟨rfl, rfl, rfl⟩ <;> rfl) hj hd hw)
  · exact absurd (hk.symm.trans (if_neg hc0)) (Option.some_ne_none _)
theorem ok_iiald (hp : P i = pc) (hq : P (i + 1) = pc + 1) (hd : decode cc pc = .ok (.aaload, 1)) : mOk own cc nL nl ini ret P i (o_ald5 25) := by
  intro C L S h k q hk
  rcases S with _ | ⟨j | j | j, _ | ⟨a | a | a, S⟩⟩ <;> first
    | exact absurd hk.symm (Option.some_ne_none _)
    | skip
  by_cases hc0 : mK h a = 25
  · by_cases hj : j < 0 ∨ mN h a ≤ j.toNatClampNeg
    · exact absurd (hk.symm.trans ((if_pos hc0).trans (if_pos hj))) (Option.some_ne_none _)
    · exact mOk.step (i + 1) L (vr (mP h a j.toNatClampNeg) :: S) h (fun _ _ => (if_pos hc0).trans (if_neg hj)) hk rfl rfl (fun g d p l e R s m args below meth c Q h0 hC hw H locs ls hR hS hL => by
        obtain ⟨⟨hx, hb, hml, hown⟩, hts, hE, -, -, -⟩ := hC
        have hw := hw H locs ls hR hS hL
        rw [hq] at hw
        obtain ⟨z0, z1, z2⟩ := hR.arr hc0 (by omega) (by omega)
        rw [mce_q hc0 (by omega) (by omega)] at z2
        rw [hp]
        show W p l e R s m args below meth c H locs _ _ Q (F0 m pc ls (.int j :: mrf g a :: _))
        rw [mrf_ref z0]
        have hlt : j.toNatClampNeg < mN h a := Nat.not_le.mp fun q => hj (Or.inr q)
        exact W.aald (v := mrf g (mP h a j.toNatClampNeg)) (ty := .array .int) hx hb (hR.1 (a - 3) _ z2) ((hE.1.2 4 _ rfl).1 (mN h a) (fun j => va_rf (mro g (mP h a j)))) rfl (fun q => by cases q) (by show ¬ (j < 0 ∨ (arrV _ _ _).slots.size ≤ _); rw [arrV_size]; exact hj) (by show (arrV _ _ _).slots[_]? = _; rw [arrV_read _ _ hlt]; rfl) rfl rfl hd hw)
  · exact absurd (hk.symm.trans (if_neg hc0)) (Option.some_ne_none _)
theorem ok_len {K : Nat} (h1 : 21 ≤ K ∧ K ≤ 25) (hp : P i = pc) (hq : P (i + 1) = pc + 1) (hd : decode cc pc = .ok (.arraylength, 1)) : mOk own cc nL nl ini ret P i (o_len K) := by
  intro C L S h k q hk
  rcases S with _ | ⟨a | a | a, S⟩ <;> first
    | exact absurd hk.symm (Option.some_ne_none _)
    | skip
  by_cases hc0 : mK h a = K
  · exact mOk.step (i + 1) L (vi (nI (mN h a)) :: S) h (fun _ _ => if_pos hc0) hk rfl rfl (fun g d p l e R s m args below meth c Q h0 hC hw H locs ls hR hS hL => by
      obtain ⟨⟨hx, hb, hml, hown⟩, hts, hE, -, -, -⟩ := hC
      have hw := hw H locs ls hR hS hL
      rw [hq] at hw
      obtain ⟨z0, z1, z2⟩ := hR.arr hc0 h1.1 h1.2
      rw [hp]
      show W p l e R s m args below meth c H locs _ _ Q (F0 m pc ls (mrf g a :: _))
      rw [mrf_ref z0]
      have : K = 21 ∨ K = 22 ∨ K = 23 ∨ K = 24 ∨ K = 25 := by omega
      rcases this with rfl | rfl | rfl | rfl | rfl
      · rw [mce_int hc0] at z2
        exact va_alen hx hb hE.1 hR.1 (a - 3) 0 z2 rfl rfl hd hw
      · rw [mce_bool hc0] at z2
        exact va_alen hx hb hE.1 hR.1 (a - 3) 1 z2 rfl rfl hd hw
      · rw [mce_cl hc0] at z2
        exact va_alen hx hb hE.1 hR.1 (a - 3) 2 z2 rfl rfl hd hw
      · rw [mce_st hc0] at z2
        exact va_alen hx hb hE.1 hR.1 (a - 3) 3 z2 rfl rfl hd hw
      · rw [mce_ii hc0] at z2
        exact va_alen hx hb hE.1 hR.1 (a - 3) 4 z2 rfl rfl hd hw)
  · exact absurd (hk.symm.trans (if_neg hc0)) (Option.some_ne_none _)
theorem ok_slen (hp : P i = pc) (hq : P (i + 1) = pc + 1) (hd : decode cc pc = .ok (.arraylength, 1)) : mOk own cc nL nl ini ret P i (o_len 31) := by
  intro C L S h k q hk
  rcases S with _ | ⟨a | a | a, S⟩ <;> first
    | exact absurd hk.symm (Option.some_ne_none _)
    | skip
  by_cases hc0 : mK h a = 31
  · exact mOk.step (i + 1) L (vi (nI (mN h a)) :: S) h (fun _ _ => if_pos hc0) hk rfl rfl (fun g d p l e R s m args below meth c Q h0 hC hw H locs ls hR hS hL => by
      obtain ⟨⟨hx, hb, hml, hown⟩, hts, hE, -, ⟨hz, -, -⟩, -⟩ := hC
      have hw := hw H locs ls hR hS hL
      rw [hq] at hw
      have ha := hR.2.2.2.2.2.2.2.2.1 a hc0
      subst ha
      obtain ⟨-, -, ⟨-, q4, q5⟩, -⟩ := hR.2.2
      obtain ⟨-, -, -, -, -, -, -, hX, hbl⟩ := hE
      rw [hp]
      show W p l e R s m args below meth c H locs _ _ Q (F0 m pc ls (.ref (gb g) :: _))
      refine va_slen hx hb hX (by omega) (Nat.not_le.mpr hbl) hS hd ?_
      rw [← q4]
      exact hw)
  · exact absurd (hk.symm.trans (if_neg hc0)) (Option.some_ne_none _)
theorem ok_tlen (hp : P i = pc) (hq : P (i + 1) = pc + 1) (hd : decode cc pc = .ok (.arraylength, 1)) : mOk own cc nL nl ini ret P i (o_len 32) := by
  intro C L S h k q hk
  rcases S with _ | ⟨a | a | a, S⟩ <;> first
    | exact absurd hk.symm (Option.some_ne_none _)
    | skip
  by_cases hc0 : mK h a = 32
  · exact mOk.step (i + 1) L (vi (nI (mN h a)) :: S) h (fun _ _ => if_pos hc0) hk rfl rfl (fun g d p l e R s m args below meth c Q h0 hC hw H locs ls hR hS hL => by
      obtain ⟨⟨hx, hb, hml, hown⟩, hts, hE, -, -, -⟩ := hC
      have hw := hw H locs ls hR hS hL
      rw [hq] at hw
      have ha := hR.2.2.2.2.2.2.2.2.2 a hc0
      subst ha
      obtain ⟨-, -, -, ⟨-, q4, q5⟩, -⟩ := hR.2.2
      obtain ⟨-, -, -, -, -, -, hT, -⟩ := hE
      rw [hp]
      show W p l e R s m args below meth c H locs _ _ Q (F0 m pc ls (.ref (gt g) :: _))
      refine va_tlen hx hb hT hS rfl hd ?_
      rw [q4] at hw
      exact hw)
  · exact absurd (hk.symm.trans (if_neg hc0)) (Option.some_ne_none _)
theorem ok_tab {idx : Nat} {host : String} (hl : Cond.fieldLinkNest own idx RX9 "PREDICATE_TERMS" "[I" host ∈ mnw_) (hp : P i = pc) (hq : P (i + 1) = pc + 3) (hd : decode cc pc = .ok (.getstatic idx, 3)) : mOk own cc nL nl ini ret P i o_tab := by
  intro C L S h k q hk
  exact mOk.step (i + 1) L (vr 2 :: S) h (fun _ _ => rfl) hk rfl rfl (fun g d p l e R s m args below meth c Q h0 hC hw H locs ls hR hS hL => by
      obtain ⟨⟨hx, hb, hml, hown⟩, hts, hE, -, -, -⟩ := hC
      have hw := hw H locs ls hR hS hL
      rw [hq] at hw
      rw [hp]
      exact va_getsN (v := .ref (gt g)) hx hb hE.2.2.2.2.2.1 hS hown (va_Nw.use rfl (hE.2.1 _ hl)) (fun _ z => z) hd hw)
theorem ok_iast (hp : P i = pc) (hq : P (i + 1) = pc + 1) (hd : decode cc pc = .ok (.iastore, 1)) : mOk own cc nL nl ini ret P i o_iast := by
  intro C L S h k q hk
  rcases S with _ | ⟨x | x | x, _ | ⟨j | j | j, _ | ⟨a | a | a, S⟩⟩⟩ <;> first
    | exact absurd hk.symm (Option.some_ne_none _)
    | skip
  by_cases hc0 : mK h a = 21
  · by_cases hj : j < 0 ∨ mN h a ≤ j.toNatClampNeg
    · exact absurd (hk.symm.trans ((if_pos hc0).trans (if_pos hj))) (Option.some_ne_none _)
    · exact mOk.step (i + 1) L S (msi h a j.toNatClampNeg x) (fun _ _ => (if_pos hc0).trans (if_neg hj)) hk rfl rfl (fun g d p l e R s m args below meth c Q h0 hC hw H locs ls hR hS hL => by
        obtain ⟨⟨hx, hb, hml, hown⟩, hts, hE, -, -, -⟩ := hC
        obtain ⟨z0, z1, z2⟩ := hR.arr hc0 (by decide) (by decide)
        rw [mce_int hc0] at z2
        rw [hp]
        show W p l e R s m args below meth c H locs _ _ Q (F0 m pc ls (.int x :: .int j :: mrf g a :: _))
        rw [mrf_ref z0]
        exact va_iast hx hb hE.1 hR.1 hR.2.1 hS (a - 3) 0 z2 rfl hj hd (fun H1 locs1 hP1 hD1 hS1 => by
          have hw := hw H1 locs1 ls (mRp.astI hR.2.2 z1 hc0 hP1 hD1) hS1 hL
          rw [hq] at hw
          exact hw))
  · exact absurd (hk.symm.trans (if_neg hc0)) (Option.some_ne_none _)
theorem ok_zast (hp : P i = pc) (hq : P (i + 1) = pc + 1) (hd : decode cc pc = .ok (.bastore, 1)) : mOk own cc nL nl ini ret P i o_zast := by
  intro C L S h k q hk
  rcases S with _ | ⟨x | x | x, _ | ⟨j | j | j, _ | ⟨a | a | a, S⟩⟩⟩ <;> first
    | exact absurd hk.symm (Option.some_ne_none _)
    | skip
  by_cases hc0 : mK h a = 22
  · by_cases hz : x = 0 ∨ x = 1
    · by_cases hj : j < 0 ∨ mN h a ≤ j.toNatClampNeg
      · exact absurd (hk.symm.trans ((if_pos hc0).trans ((if_pos hz).trans (if_pos hj)))) (Option.some_ne_none _)
      · exact mOk.step (i + 1) L S (msi h a j.toNatClampNeg x) (fun _ _ => (if_pos hc0).trans ((if_pos hz).trans (if_neg hj))) hk rfl rfl (fun g d p l e R s m args below meth c Q h0 hC hw H locs ls hR hS hL => by
          obtain ⟨⟨hx, hb, hml, hown⟩, hts, hE, -, -, -⟩ := hC
          obtain ⟨z0, z1, z2⟩ := hR.arr hc0 (by decide) (by decide)
          rw [mce_bool hc0] at z2
          rw [hp]
          show W p l e R s m args below meth c H locs _ _ Q (F0 m pc ls (.int x :: .int j :: mrf g a :: _))
          rw [mrf_ref z0]
          have hnx : vp_nar .boolean x = x := by
            rcases hz with rfl | rfl <;> decide +kernel
          exact va_zast hx hb hE.1 hR.1 hR.2.1 hS (a - 3) 1 z2 rfl hj hd (fun H1 locs1 hP1 hD1 hS1 => by
            rw [hnx] at hP1 hD1
            have hw := hw H1 locs1 ls (mRp.astZ hR.2.2 z1 hc0 hP1 hD1) hS1 hL
            rw [hq] at hw
            exact hw))
    · exact absurd (hk.symm.trans ((if_pos hc0).trans (if_neg hz))) (Option.some_ne_none _)
  · exact absurd (hk.symm.trans (if_neg hc0)) (Option.some_ne_none _)
theorem ok_aast {K E t0 : Nat} {r : vw_C} (h1 : K = 23 ∧ t0 = 2 ∧ r = (RX0, TX0, 5) ∧ E = 1 ∨ K = 24 ∧ t0 = 3 ∧ r = (RX7, TX7, 3) ∧ E = 8) (hp : P i = pc) (hq : P (i + 1) = pc + 1) (hd : decode cc pc = .ok (.aastore, 1)) : mOk own cc nL nl ini ret P i (o_aast K E) := by
  intro C L S h k q hk
  rcases S with _ | ⟨x | x | x, _ | ⟨j | j | j, _ | ⟨a | a | a, S⟩⟩⟩ <;> first
    | exact absurd hk.symm (Option.some_ne_none _)
    | skip
  by_cases hc0 : mK h a = K
  · by_cases hz : x = 0 ∨ mK h x = E
    · by_cases hj : j < 0 ∨ mN h a ≤ j.toNatClampNeg
      · exact absurd (hk.symm.trans ((if_pos hc0).trans ((if_pos hz).trans (if_pos hj)))) (Option.some_ne_none _)
      · exact mOk.step (i + 1) L S (msp h a j.toNatClampNeg x) (fun _ _ => (if_pos hc0).trans ((if_pos hz).trans (if_neg hj))) hk rfl rfl (fun g d p l e R s m args below meth c Q h0 hC hw H locs ls hR hS hL => by
          obtain ⟨⟨hx, hb, hml, hown⟩, hts, hE, -, -, -⟩ := hC
          obtain ⟨z0, z1, z2⟩ := hR.arr hc0 (by omega) (by omega)
          rw [mce_q hc0 (by omega) (by omega)] at z2
          rw [hp]
          show W p l e R s m args below meth c H locs _ _ Q (F0 m pc ls (mrf g x :: .int j :: mrf g a :: _))
          rw [mrf_ref z0]
          have ht : (gty g)[t0]? = some (mcA g K, .object r.1) := by rcases h1 with ⟨rfl, rfl, rfl, -⟩ | ⟨rfl, rfl, rfl, -⟩ <;> rfl
          by_cases hx0 : x = 0
          · subst hx0
            refine va_astqN (C := r.1) hx hb hE.1 hR.1 hR.2.1 hS (a - 3) t0 z2 ht hj hd (fun H1 locs1 hP1 hD1 hS1 => ?_)
            have hw := hw H1 locs1 ls (mRp.astP (x := 0) hR.2.2 z1 hc0 (by omega) (by omega) hP1 hD1) hS1 hL
            rw [hq] at hw
            exact hw
          · have hxE : mK h x = E := by
              rcases hz with z | z
              · exact absurd z hx0
              · exact z
            obtain ⟨y0, y1, y2⟩ := hR.obj hxE (by omega) (by omega)
            rw [mrf_ref hx0]
            refine va_astq (r := r) hx hb hE.1 hR.1 hR.2.1 hS (a - 3) t0 (x - 3) (E - 1) z2 ht y2 (by rcases h1 with ⟨-, -, rfl, rfl⟩ | ⟨-, -, rfl, rfl⟩ <;> rfl) hj hd (fun H1 locs1 hP1 hD1 hS1 => ?_)
            have e1 : mro g x = some (mad g x) := if_neg hx0
            rw [← e1] at hP1 hD1
            have hw := hw H1 locs1 ls (mRp.astP hR.2.2 z1 hc0 (by omega) (by omega) hP1 hD1) hS1 hL
            rw [hq] at hw
            exact hw)
    · exact absurd (hk.symm.trans ((if_pos hc0).trans (if_neg hz))) (Option.some_ne_none _)
  · exact absurd (hk.symm.trans (if_neg hc0)) (Option.some_ne_none _)
end OKR
