/-! ===== the operations are sound: fields, arrays ===== -/
theorem mRp.obj {g : mG} {h : mh} {H : Heap} {a K : Nat} (hR : mRp g h H) (hK : mK h a = K) (h1 : 1 ≤ K) (h2 : K ≤ 11) : a ≠ 0 ∧ 3 ≤ a ∧ (mws g h)[a - 3]? = some (mad g a, .inr (K - 1, (List.range (mnf K)).map (mfv g h a K))) := by
  obtain ⟨z1, z2⟩ := hR.2.2.in hK h1 (by omega)
  refine ⟨by omega, z1, ?_⟩
  rw [mws_at z1 z2, mce_obj hK h2]
  have : mN h a = mnf K := by
    have := hR.2.2.2.2.2.2.2.1 a (by omega) (by omega)
    rw [this, hK]
  rw [this]
theorem mRp.arr {g : mG} {h : mh} {H : Heap} {a K : Nat} (hR : mRp g h H) (hK : mK h a = K) (h1 : 21 ≤ K) (h2 : K ≤ 25) : a ≠ 0 ∧ 3 ≤ a ∧ (mws g h)[a - 3]? = some (mad g a, mce g h a) := by
  obtain ⟨z1, z2⟩ := hR.2.2.in hK (by omega) (by omega)
  exact ⟨by omega, z1, mws_at z1 z2⟩
theorem mfs_at {g : mG} {h : mh} {a K n N : Nat} (hn : n < N) : ((List.range N).map (mfv g h a K))[n]? = some (mfv g h a K n) := by
  rw [List.getElem?_map, List.getElem?_range hn]
  rfl
theorem mfs_set {g : mG} {h h' : mh} {a K n N : Nat} {v : Value} (hn : n < N) (hv : mfv g h' a K n = v) (ho : ∀ j, j ≠ n → mfv g h' a K j = mfv g h a K j) : (List.range N).map (mfv g h' a K) = ((List.range N).map (mfv g h a K)).set n v := by
  apply List.ext_getElem?
  intro i
  rw [List.getElem?_set, List.getElem?_map, List.getElem?_map, List.length_map, List.length_range]
  by_cases e : n = i
  · subst e
    rw [if_pos rfl, if_pos hn, List.getElem?_range hn, ← hv]
    rfl
  · rw [if_neg e]
    cases hz : (List.range N)[i]? with
    | none => rfl
    | some j =>
      have hj : j = i := by
        obtain ⟨q1, q2⟩ := List.getElem?_eq_some_iff.mp hz
        rw [List.getElem_range] at q2
        exact q2.symm
      rw [Option.map_some, Option.map_some, ho j (by omega)]
theorem mfv_int {g : mG} {h : mh} {a K n : Nat} (hty : misr (mty K n) = false) : mfv g h a K n = .int (mI h a n) := by
  unfold mfv
  rw [hty]
  rfl
theorem mfv_ref {g : mG} {h : mh} {a K n : Nat} (hty : misr (mty K n) = true) : mfv g h a K n = mrf g (mP h a n) := by
  unfold mfv
  rw [hty]
  rfl
theorem mHp.si {g : mG} {h : mh} {a k : Nat} {x : Int32} (H : mHp g h) (h3 : 3 ≤ a) : mHp g (msi h a k x) := by
  obtain ⟨q1, q2, ⟨q3, q4, q5⟩, ⟨q6, q7, q8⟩, q9, q10, q11, q12⟩ := H
  refine ⟨q1, q2, ⟨q3, q4, fun j => ?_⟩, ⟨q6, q7, fun j hj => ?_⟩, q9, q10, q11, q12⟩
  · rw [mI_si, if_neg (by omega)]
    exact q5 j
  · rw [mI_si, if_neg (by omega)]
    exact q8 j hj
theorem mHp.sp {g : mG} {h : mh} {a k x : Nat} (H : mHp g h) : mHp g (msp h a k x) := H
theorem mce_si {g : mG} {h : mh} {a k b : Nat} {x : Int32} (hb : b ≠ a) : mce g (msi h a k x) b = mce g h b :=
  mce_eq rfl rfl (by funext j; rw [mI_si, if_neg (by omega)]) rfl
theorem mce_sp {g : mG} {h : mh} {a k b x : Nat} (hb : b ≠ a) : mce g (msp h a k x) b = mce g h b :=
  mce_eq rfl rfl rfl (by funext j; rw [mP_sp, if_neg (by omega)])
/-- behind a store into a field -/
theorem mRp.putI {g : mG} {h : mh} {H1 : Heap} {a K n : Nat} {x : Int32} (hp : mHp g h) (h3 : 3 ≤ a) (hK : mK h a = K) (h1 : 1 ≤ K) (h2 : K ≤ 11) (hn : n < mnf K) (hty : misr (mty K n) = false)
    (hP : va_P (gD g) vwCl ((mws g h).set (a - 3) (mad g a, .inr (K - 1, ((List.range (mnf K)).map (mfv g h a K)).set n (.int x)))) H1) (hD : va_D (gA g) ((mws g h).set (a - 3) (mad g a, .inr (K - 1, ((List.range (mnf K)).map (mfv g h a K)).set n (.int x))))) : mRp g (msi h a n x) H1 := by
  have e : mws g (msi h a n x) = (mws g h).set (a - 3) (mad g a, .inr (K - 1, ((List.range (mnf K)).map (mfv g h a K)).set n (.int x))) := by
    rw [mws_set (h := h) (h' := msi h a n x) h3 rfl (fun b hb => mce_si hb), mce_obj (h := msi h a n x) hK h2]
    have : mN (msi h a n x) a = mnf K := by
      rw [mN_si, hp.2.2.2.2.2.1 a (by omega) (by omega), hK]
    rw [this, mfs_set (h := h) (v := .int x) hn (by rw [mfv_int hty, mI_si, if_pos ⟨rfl, rfl⟩]) (fun j hj => by unfold mfv; rw [mP_si, mI_si, if_neg (by omega)])]
  exact ⟨by rw [e]; exact hP, by rw [e]; exact hD, hp.si h3⟩
theorem mRp.putP {g : mG} {h : mh} {H1 : Heap} {a K n x : Nat} (hp : mHp g h) (h3 : 3 ≤ a) (hK : mK h a = K) (h1 : 1 ≤ K) (h2 : K ≤ 11) (hn : n < mnf K) (hty : misr (mty K n) = true)
    (hP : va_P (gD g) vwCl ((mws g h).set (a - 3) (mad g a, .inr (K - 1, ((List.range (mnf K)).map (mfv g h a K)).set n (mrf g x)))) H1) (hD : va_D (gA g) ((mws g h).set (a - 3) (mad g a, .inr (K - 1, ((List.range (mnf K)).map (mfv g h a K)).set n (mrf g x))))) : mRp g (msp h a n x) H1 := by
  have e : mws g (msp h a n x) = (mws g h).set (a - 3) (mad g a, .inr (K - 1, ((List.range (mnf K)).map (mfv g h a K)).set n (mrf g x))) := by
    rw [mws_set (h := h) (h' := msp h a n x) h3 rfl (fun b hb => mce_sp hb), mce_obj (h := msp h a n x) hK h2]
    have : mN (msp h a n x) a = mnf K := by
      rw [mN_sp, hp.2.2.2.2.2.1 a (by omega) (by omega), hK]
    rw [this, mfs_set (h := h) (v := mrf g x) hn (by rw [mfv_ref hty, mP_sp, if_pos ⟨rfl, rfl⟩]) (fun j hj => by unfold mfv; rw [mI_sp, mP_sp, if_neg (by omega)])]
  exact ⟨by rw [e]; exact hP, by rw [e]; exact hD, hp.sp⟩
theorem mRp.astI {g : mG} {h : mh} {H1 : Heap} {a j : Nat} {x : Int32} (hp : mHp g h) (h3 : 3 ≤ a) (hK : mK h a = 21)
    (hP : va_P (gD g) vwCl ((mws g h).set (a - 3) (mad g a, .inl (g.2.1.1, mN h a, .inl (upd (mI h a) j x)))) H1) (hD : va_D (gA g) ((mws g h).set (a - 3) (mad g a, .inl (g.2.1.1, mN h a, .inl (upd (mI h a) j x))))) : mRp g (msi h a j x) H1 := by
  have e2 : mI (msi h a j x) a = upd (mI h a) j x := by
    funext i
    rw [mI_si]
    by_cases z : i = j
    · rw [if_pos ⟨rfl, z⟩, z, pk_us]
    · rw [if_neg (by omega), pk_un z]
  have e : mws g (msi h a j x) = (mws g h).set (a - 3) (mad g a, .inl (g.2.1.1, mN h a, .inl (upd (mI h a) j x))) := by
    rw [mws_set (h := h) (h' := msi h a j x) h3 rfl (fun b hb => mce_si hb), mce_int (h := msi h a j x) hK, mN_si, e2]
  exact ⟨by rw [e]; exact hP, by rw [e]; exact hD, hp.si h3⟩
theorem mRp.astZ {g : mG} {h : mh} {H1 : Heap} {a j : Nat} {x : Int32} (hp : mHp g h) (h3 : 3 ≤ a) (hK : mK h a = 22)
    (hP : va_P (gD g) vwCl ((mws g h).set (a - 3) (mad g a, .inl (g.2.1.2.1, mN h a, .inl (upd (mI h a) j x)))) H1) (hD : va_D (gA g) ((mws g h).set (a - 3) (mad g a, .inl (g.2.1.2.1, mN h a, .inl (upd (mI h a) j x))))) : mRp g (msi h a j x) H1 := by
  have e2 : mI (msi h a j x) a = upd (mI h a) j x := by
    funext i
    rw [mI_si]
    by_cases z : i = j
    · rw [if_pos ⟨rfl, z⟩, z, pk_us]
    · rw [if_neg (by omega), pk_un z]
  have e : mws g (msi h a j x) = (mws g h).set (a - 3) (mad g a, .inl (g.2.1.2.1, mN h a, .inl (upd (mI h a) j x))) := by
    rw [mws_set (h := h) (h' := msi h a j x) h3 rfl (fun b hb => mce_si hb), mce_bool (h := msi h a j x) hK, mN_si, e2]
  exact ⟨by rw [e]; exact hP, by rw [e]; exact hD, hp.si h3⟩
/-- an array of references, kind K (23, 24), its class cA -/
def mcA (g : mG) : Nat → ClassId
  | 23 => g.2.1.2.2.1
  | 24 => g.2.1.2.2.2.1
  | _ => g.2.1.2.2.2.2
theorem mce_q {g : mG} {h : mh} {a K : Nat} (hK : mK h a = K) (h1 : 23 ≤ K) (h2 : K ≤ 25) : mce g h a = .inl (mcA g K, mN h a, .inr (.inr (.inr (.inr (fun j => mro g (mP h a j)))))) := by
  have : K = 23 ∨ K = 24 ∨ K = 25 := by omega
  rcases this with rfl | rfl | rfl
  · exact mce_cl hK
  · exact mce_st hK
  · exact mce_ii hK
theorem mRp.astP {g : mG} {h : mh} {H1 : Heap} {a j x K : Nat} (hp : mHp g h) (h3 : 3 ≤ a) (hK : mK h a = K) (h1 : 23 ≤ K) (h2 : K ≤ 25)
    (hP : va_P (gD g) vwCl ((mws g h).set (a - 3) (mad g a, .inl (mcA g K, mN h a, .inr (.inr (.inr (.inr (va_up (fun j => mro g (mP h a j)) j (mro g x)))))))) H1) (hD : va_D (gA g) ((mws g h).set (a - 3) (mad g a, .inl (mcA g K, mN h a, .inr (.inr (.inr (.inr (va_up (fun j => mro g (mP h a j)) j (mro g x))))))))) : mRp g (msp h a j x) H1 := by
  have e2 : (fun i => mro g (mP (msp h a j x) a i)) = va_up (fun j => mro g (mP h a j)) j (mro g x) := by
    funext i
    unfold va_up
    rw [mP_sp]
    by_cases z : i = j
    · rw [if_pos ⟨rfl, z⟩, if_pos z]
    · rw [if_neg (by omega), if_neg z]
  have e : mws g (msp h a j x) = (mws g h).set (a - 3) (mad g a, .inl (mcA g K, mN h a, .inr (.inr (.inr (.inr (va_up (fun j => mro g (mP h a j)) j (mro g x))))))) := by
    rw [mws_set (h := h) (h' := msp h a j x) h3 rfl (fun b hb => mce_sp hb), mce_q (h := msp h a j x) hK h1 h2, mN_sp, e2]
  exact ⟨by rw [e]; exact hP, by rw [e]; exact hD, hp.sp⟩
section OKF
variable {own : String} {cc : ByteArray} {nL : Nat} {nl ini : Bool} {ret : Option FieldType} {P : Nat → Nat} {i pc : Nat}
theorem ok_gI {K n idx N : Nat} {Cn : String} {T : u_T} (hc : vwCl[K - 1]? = some (Cn, T, N)) (hK : 1 ≤ K ∧ K ≤ 11 ∧ mnf K = N ∧ n < N ∧ misr (mty K n) = false) (hl : Cond.fieldLink own idx (T n).1 (T n).2.1 (T n).2.2.1 ∈ mgw) (hin : ∀ w ∈ u_ws Cn T N, w ∈ mgw) (hp : P i = pc) (hq : P (i + 1) = pc + 3) (hd : decode cc pc = .ok (.getfield idx, 3)) : mOk own cc nL nl ini ret P i (o_gI K n) := by
  intro C L S h k q hk
  rcases S with _ | ⟨a | a | a, S⟩ <;> first
    | exact absurd hk.symm (Option.some_ne_none _)
    | skip
  by_cases hc0 : mK h a = K
  · exact mOk.step (i + 1) L (vi (mI h a n) :: S) h (fun _ _ => if_pos hc0) hk rfl rfl (fun g d p l e R s m args below meth c Q h0 hC hw H locs ls hR hS hL => by
      obtain ⟨⟨hx, hb, hml, hown⟩, hts, hE, -, -, -⟩ := hC
      obtain ⟨k1, k2, k3, k4, k5⟩ := hK
      have hw := hw H locs ls hR hS hL
      rw [hq] at hw
      obtain ⟨z0, z1, z2⟩ := hR.obj hc0 k1 k2
      rw [hp]
      show W p l e R s m args below meth c H locs _ _ Q (F0 m pc ls (mrf g a :: _))
      rw [mrf_ref z0]
      exact va_get (v := .int (mI h a n)) hx hb hts hin hown hE.1 hR.1 (a - 3) z2 hc n k4 (hts _ hl) (fun _ z => z) (by rw [mfs_at (by omega), mfv_int k5]) hd hw)
  · exact absurd (hk.symm.trans (if_neg hc0)) (Option.some_ne_none _)
theorem ok_gP {K n idx N : Nat} {Cn : String} {T : u_T} (hc : vwCl[K - 1]? = some (Cn, T, N)) (hK : 1 ≤ K ∧ K ≤ 11 ∧ mnf K = N ∧ n < N ∧ misr (mty K n) = true) (hl : Cond.fieldLink own idx (T n).1 (T n).2.1 (T n).2.2.1 ∈ mgw) (hin : ∀ w ∈ u_ws Cn T N, w ∈ mgw) (hp : P i = pc) (hq : P (i + 1) = pc + 3) (hd : decode cc pc = .ok (.getfield idx, 3)) : mOk own cc nL nl ini ret P i (o_gP K n) := by
  intro C L S h k q hk
  rcases S with _ | ⟨a | a | a, S⟩ <;> first
    | exact absurd hk.symm (Option.some_ne_none _)
    | skip
  by_cases hc0 : mK h a = K
  · exact mOk.step (i + 1) L (vr (mP h a n) :: S) h (fun _ _ => if_pos hc0) hk rfl rfl (fun g d p l e R s m args below meth c Q h0 hC hw H locs ls hR hS hL => by
      obtain ⟨⟨hx, hb, hml, hown⟩, hts, hE, -, -, -⟩ := hC
      obtain ⟨k1, k2, k3, k4, k5⟩ := hK
      have hw := hw H locs ls hR hS hL
      rw [hq] at hw
      obtain ⟨z0, z1, z2⟩ := hR.obj hc0 k1 k2
      rw [hp]
      show W p l e R s m args below meth c H locs _ _ Q (F0 m pc ls (mrf g a :: _))
      rw [mrf_ref z0]
      exact va_get (v := mrf g (mP h a n)) hx hb hts hin hown hE.1 hR.1 (a - 3) z2 hc n k4 (hts _ hl) (fun _ z => z) (by rw [mfs_at (by omega), mfv_ref k5]) hd hw)
  · exact absurd (hk.symm.trans (if_neg hc0)) (Option.some_ne_none _)
theorem narrowZ {x : Int32} (h : x = 0 ∨ x = 1) : narrow .boolean (.int x) = .int x ∧ fits .boolean (.int x) = true := by
  rcases h with rfl | rfl <;> exact ⟨by decide +kernel, by decide +kernel⟩
theorem narrowR {g : mG} {a : Nat} {ty : FieldType} (h : misr ty = true) : narrow ty (mrf g a) = mrf g a ∧ fits ty (mrf g a) = true := by
  unfold mrf
  cases mro g a with
  | none => cases ty <;> first | exact ⟨rfl, rfl⟩ | cases h
  | some b => cases ty <;> first | exact ⟨rfl, rfl⟩ | cases h
/-- into a field that isn't final -/
theorem ok_pI {K n idx N : Nat} {Cn : String} {T : u_T} {ty : Nat → FieldType} (hc : vwCl[K - 1]? = some (Cn, T, N)) (hK : 1 ≤ K ∧ K ≤ 11 ∧ mnf K = N ∧ n < N ∧ misr (mty K n) = false) (hl : Cond.fieldLink own idx (T n).1 (T n).2.1 (T n).2.2.1 ∈ mgw) (hin : ∀ w ∈ u_ws Cn T N, w ∈ mgw) (hty : ∀ k, k < N → parseFieldDescriptor (T k).2.2.1 = some (ty k)) (hnm : ∀ a, a < N → ∀ b, b < N → a ≠ b → (T a).2.1 ≠ (T b).2.1) (hf : (T n).2.2.2 = false) (ht : parseFieldDescriptor (T n).2.2.1 = some .int) (hp : P i = pc) (hq : P (i + 1) = pc + 3) (hd : decode cc pc = .ok (.putfield idx, 3)) : mOk own cc nL nl ini ret P i (o_pI K n) := by
  intro C L S h k q hk
  rcases S with _ | ⟨x | x | x, _ | ⟨a | a | a, S⟩⟩ <;> first
    | exact absurd hk.symm (Option.some_ne_none _)
    | skip
  by_cases hc0 : mK h a = K
  · exact mOk.step (i + 1) L S (msi h a n x) (fun _ _ => if_pos hc0) hk rfl rfl (fun g d p l e R s m args below meth c Q h0 hC hw H locs ls hR hS hL => by
      obtain ⟨⟨hx, hb, hml, hown⟩, hts, hE, -, -, -⟩ := hC
      obtain ⟨k1, k2, k3, k4, k5⟩ := hK
      obtain ⟨z0, z1, z2⟩ := hR.obj hc0 k1 k2
      rw [hp]
      show W p l e R s m args below meth c H locs _ _ Q (F0 m pc ls (.int x :: mrf g a :: _))
      rw [mrf_ref z0]
      exact va_put (v := .int x) hx hb hts hin ty hty hnm hown hE.1 hR.1 hR.2.1 hS (a - 3) z2 hc n k4 (hts _ hl) (fun _ z => z) hf ht rfl rfl (by rw [List.length_map, List.length_range]; omega) hd (fun H1 locs1 hP1 hD1 hS1 => by
        have hw := hw H1 locs1 ls (mRp.putI hR.2.2 z1 hc0 k1 k2 (by omega) k5 hP1 hD1) hS1 hL
        rw [hq] at hw
        exact hw))
  · exact absurd (hk.symm.trans (if_neg hc0)) (Option.some_ne_none _)
theorem ok_pZ {K n idx N : Nat} {Cn : String} {T : u_T} {ty : Nat → FieldType} (hc : vwCl[K - 1]? = some (Cn, T, N)) (hK : 1 ≤ K ∧ K ≤ 11 ∧ mnf K = N ∧ n < N ∧ misr (mty K n) = false) (hl : Cond.fieldLink own idx (T n).1 (T n).2.1 (T n).2.2.1 ∈ mgw) (hin : ∀ w ∈ u_ws Cn T N, w ∈ mgw) (hty : ∀ k, k < N → parseFieldDescriptor (T k).2.2.1 = some (ty k)) (hnm : ∀ a, a < N → ∀ b, b < N → a ≠ b → (T a).2.1 ≠ (T b).2.1) (hf : (T n).2.2.2 = false) (ht : parseFieldDescriptor (T n).2.2.1 = some .boolean) (hp : P i = pc) (hq : P (i + 1) = pc + 3) (hd : decode cc pc = .ok (.putfield idx, 3)) : mOk own cc nL nl ini ret P i (o_pZ K n) := by
  intro C L S h k q hk
  rcases S with _ | ⟨x | x | x, _ | ⟨a | a | a, S⟩⟩ <;> first
    | exact absurd hk.symm (Option.some_ne_none _)
    | skip
  by_cases hc0 : mK h a = K
  · by_cases hz : x = 0 ∨ x = 1
    · exact mOk.step (i + 1) L S (msi h a n x) (fun _ _ => (if_pos hc0).trans (if_pos hz)) hk rfl rfl (fun g d p l e R s m args below meth c Q h0 hC hw H locs ls hR hS hL => by
        obtain ⟨⟨hx, hb, hml, hown⟩, hts, hE, -, -, -⟩ := hC
        obtain ⟨k1, k2, k3, k4, k5⟩ := hK
        obtain ⟨z0, z1, z2⟩ := hR.obj hc0 k1 k2
        rw [hp]
        show W p l e R s m args below meth c H locs _ _ Q (F0 m pc ls (.int x :: mrf g a :: _))
        rw [mrf_ref z0]
        exact va_put (v := .int x) hx hb hts hin ty hty hnm hown hE.1 hR.1 hR.2.1 hS (a - 3) z2 hc n k4 (hts _ hl) (fun _ z => z) hf ht (narrowZ hz).1 (narrowZ hz).2 (by rw [List.length_map, List.length_range]; omega) hd (fun H1 locs1 hP1 hD1 hS1 => by
          have hw := hw H1 locs1 ls (mRp.putI hR.2.2 z1 hc0 k1 k2 (by omega) k5 hP1 hD1) hS1 hL
          rw [hq] at hw
          exact hw))
    · exact absurd (hk.symm.trans ((if_pos hc0).trans (if_neg hz))) (Option.some_ne_none _)
  · exact absurd (hk.symm.trans (if_neg hc0)) (Option.some_ne_none _)
theorem ok_pP {K n idx N : Nat} {Cn : String} {T : u_T} {ty : Nat → FieldType} {tn : FieldType} (hc : vwCl[K - 1]? = some (Cn, T, N)) (hK : 1 ≤ K ∧ K ≤ 11 ∧ mnf K = N ∧ n < N ∧ misr (mty K n) = true) (hl : Cond.fieldLink own idx (T n).1 (T n).2.1 (T n).2.2.1 ∈ mgw) (hin : ∀ w ∈ u_ws Cn T N, w ∈ mgw) (hty : ∀ k, k < N → parseFieldDescriptor (T k).2.2.1 = some (ty k)) (hnm : ∀ a, a < N → ∀ b, b < N → a ≠ b → (T a).2.1 ≠ (T b).2.1) (hf : (T n).2.2.2 = false) (ht : parseFieldDescriptor (T n).2.2.1 = some tn) (hr : misr tn = true) (hp : P i = pc) (hq : P (i + 1) = pc + 3) (hd : decode cc pc = .ok (.putfield idx, 3)) : mOk own cc nL nl ini ret P i (o_pP K n) := by
  intro C L S h k q hk
  rcases S with _ | ⟨x | x | x, _ | ⟨a | a | a, S⟩⟩ <;> first
    | exact absurd hk.symm (Option.some_ne_none _)
    | skip
  by_cases hc0 : mK h a = K
  · exact mOk.step (i + 1) L S (msp h a n x) (fun _ _ => if_pos hc0) hk rfl rfl (fun g d p l e R s m args below meth c Q h0 hC hw H locs ls hR hS hL => by
      obtain ⟨⟨hx, hb, hml, hown⟩, hts, hE, -, -, -⟩ := hC
      obtain ⟨k1, k2, k3, k4, k5⟩ := hK
      obtain ⟨z0, z1, z2⟩ := hR.obj hc0 k1 k2
      rw [hp]
      show W p l e R s m args below meth c H locs _ _ Q (F0 m pc ls (mrf g x :: mrf g a :: _))
      rw [mrf_ref z0]
      exact va_put (v := mrf g x) hx hb hts hin ty hty hnm hown hE.1 hR.1 hR.2.1 hS (a - 3) z2 hc n k4 (hts _ hl) (fun _ z => z) hf ht (narrowR hr).1 (narrowR hr).2 (by rw [List.length_map, List.length_range]; omega) hd (fun H1 locs1 hP1 hD1 hS1 => by
        have hw := hw H1 locs1 ls (mRp.putP hR.2.2 z1 hc0 k1 k2 (by omega) k5 hP1 hD1) hS1 hL
        rw [hq] at hw
        exact hw))
  · exact absurd (hk.symm.trans (if_neg hc0)) (Option.some_ne_none _)
/-- into a final field, in a constructor -/
theorem ok_pPF {K n idx N : Nat} {Cn : String} {T : u_T} {ty : Nat → FieldType} {tn : FieldType} (hc : vwCl[K - 1]? = some (Cn, T, N)) (hK : 1 ≤ K ∧ K ≤ 11 ∧ mnf K = N ∧ n < N ∧ misr (mty K n) = true) (hl : Cond.fieldLink own idx (T n).1 (T n).2.1 (T n).2.2.1 ∈ mgw) (hin : ∀ w ∈ u_ws Cn T N, w ∈ mgw) (hty : ∀ k, k < N → parseFieldDescriptor (T k).2.2.1 = some (ty k)) (hnm : ∀ a, a < N → ∀ b, b < N → a ≠ b → (T a).2.1 ≠ (T b).2.1) (hf : (T n).2.2.2 = true) (hdc : (T n).1 = own) (hii : ini = true) (ht : parseFieldDescriptor (T n).2.2.1 = some tn) (hr : misr tn = true) (hp : P i = pc) (hq : P (i + 1) = pc + 3) (hd : decode cc pc = .ok (.putfield idx, 3)) : mOk own cc nL nl ini ret P i (o_pP K n) := by
  intro C L S h k q hk
  rcases S with _ | ⟨x | x | x, _ | ⟨a | a | a, S⟩⟩ <;> first
    | exact absurd hk.symm (Option.some_ne_none _)
    | skip
  by_cases hc0 : mK h a = K
  · exact mOk.step (i + 1) L S (msp h a n x) (fun _ _ => if_pos hc0) hk rfl rfl (fun g d p l e R s m args below meth c Q h0 hC hw H locs ls hR hS hL => by
      obtain ⟨⟨hx, hb, hml, hown⟩, hts, hE, -, ⟨-, -, hnn⟩, -⟩ := hC
      obtain ⟨k1, k2, k3, k4, k5⟩ := hK
      obtain ⟨z0, z1, z2⟩ := hR.obj hc0 k1 k2
      rw [hp]
      show W p l e R s m args below meth c H locs _ _ Q (F0 m pc ls (mrf g x :: mrf g a :: _))
      rw [mrf_ref z0]
      exact va_putF (v := mrf g x) hx hb hts hin ty hty hnm hown hE.1 hR.1 hR.2.1 hS (a - 3) z2 hc n k4 (hts _ hl) (fun _ z => z) hf (hnn hii) hdc ht (narrowR hr).1 (narrowR hr).2 (by rw [List.length_map, List.length_range]; omega) hd (fun H1 locs1 hP1 hD1 hS1 => by
        have hw := hw H1 locs1 ls (mRp.putP hR.2.2 z1 hc0 k1 k2 (by omega) k5 hP1 hD1) hS1 hL
        rw [hq] at hw
        exact hw))
  · exact absurd (hk.symm.trans (if_neg hc0)) (Option.some_ne_none _)
end OKF
