/-! ===== the operations are sound: new cells, switches, ends ===== -/
theorem mnew_addr {g : mG} {h : mh} {H1 : Heap} {q1 : Nat} {ev : va_E} (hP : va_P (gD g) vwCl (mws g h ++ [(q1, ev)]) H1) (hD : va_D (gA g) (mws g h ++ [(q1, ev)])) (h3 : 3 ≤ mT h) (hz : H1.size ≤ gB g + (mT h - 3) + 1) : q1 = gB g + (mT h - 3) := by
  have hlen : (mws g h).length = mT h - 3 := by
    unfold mws
    rw [List.length_map, List.length_range]
  have hlast : (mws g h ++ [(q1, ev)])[mT h - 3]? = some (q1, ev) := by
    rw [List.getElem?_append_right (by omega), hlen, Nat.sub_self]
    rfl
  have l1 : q1 < H1.size := (hP _ _ hlast).lt
  have l2 : gB g ≤ q1 := hD.2 _ _ hlast
  rcases Nat.lt_or_ge q1 (gB g + (mT h - 3)) with z | z
  · have hk : (mws g h ++ [(q1, ev)])[q1 - gB g]? = some (mad g (q1 - gB g + 3), mce g h (q1 - gB g + 3)) := by
      rw [List.getElem?_append_left (by omega)]
      have := mws_at (g := g) (h := h) (a := q1 - gB g + 3) (by omega) (by omega)
      rw [show q1 - gB g + 3 - 3 = q1 - gB g by omega] at this
      exact this
    have e1 : mad g (q1 - gB g + 3) = q1 := by
      unfold mad
      rw [if_neg (by omega), if_neg (by omega)]
      omega
    have := hD.1 _ _ _ _ hk hlast e1
    omega
  · omega
theorem mHp.push {g : mG} {h : mh} {K n : Nat} (H : mHp g h) (h1 : 1 ≤ K) (h2 : K ≤ 25) (h3 : K ≤ 11 → n = mnf K) : mHp g (mnw h K n) := by
  obtain ⟨q1, q2, ⟨q3, q4, q5⟩, ⟨q6, q7, q8⟩, q9, q10, q11, q12⟩ := H
  refine ⟨by rw [mT_nw]; omega, by rw [mK_nw, if_neg (by omega)]; exact q2, ⟨by rw [mK_nw, if_neg (by omega)]; exact q3, by rw [mN_nw, if_neg (by omega)]; exact q4, fun j => by rw [mI_nw, if_neg (by omega)]; exact q5 j⟩, ⟨by rw [mK_nw, if_neg (by omega)]; exact q6, by rw [mN_nw, if_neg (by omega)]; exact q7, fun j hj => by rw [mI_nw, if_neg (by omega)]; exact q8 j hj⟩, fun a ha => ?_, fun a => ?_, fun a => ?_, fun a => ?_⟩
  · rw [mT_nw] at ha
    rw [mK_nw, if_neg (by omega)]
    exact q9 a (by omega)
  · rw [mK_nw, mN_nw]
    split
    · exact fun _ z => h3 z
    · exact q10 a
  · rw [mK_nw]
    split
    · omega
    · exact q11 a
  · rw [mK_nw]
    split
    · omega
    · exact q12 a
theorem mRp.push {g : mG} {h : mh} {H1 : Heap} {K n : Nat} (hp : mHp g h) (h1 : 1 ≤ K) (h2 : K ≤ 25) (h3 : K ≤ 11 → n = mnf K) (hP : va_P (gD g) vwCl (mws g h ++ [(gB g + (mT h - 3), mce g (mnw h K n) (mT h))]) H1) (hD : va_D (gA g) (mws g h ++ [(gB g + (mT h - 3), mce g (mnw h K n) (mT h))])) : mRp g (mnw h K n) H1 := by
  have e := mws_push (g := g) (h := h) (h' := mnw h K n) hp.1 rfl (fun b hb => mce_eq (by rw [mK_nw, if_neg (by omega)]) (by rw [mN_nw, if_neg (by omega)]) (by funext j; rw [mI_nw, if_neg (by omega)]) (by funext j; rw [mP_nw, if_neg (by omega)]))
  exact ⟨by rw [e]; exact hP, by rw [e]; exact hD, hp.push h1 h2 h3⟩
theorem mrf_top {g : mG} {h : mh} (h3 : 3 ≤ mT h) : mrf g (mT h) = .ref (gB g + (mT h - 3)) := by
  rw [mrf_ref (by omega)]
  unfold mad
  rw [if_neg (by omega), if_neg (by omega)]
section OKN
variable {own : String} {cc : ByteArray} {nL : Nat} {nl ini : Bool} {ret : Option FieldType} {P : Nat → Nat} {i pc : Nat}
theorem ok_new {K n idx : Nat} {Cn : String} {T : u_T} {ty : Nat → FieldType} (hc : vwCl[K - 1]? = some (Cn, T, n)) (hK : 1 ≤ K ∧ K ≤ 11 ∧ mnf K = n) (hty : ∀ k, k < n → parseFieldDescriptor (T k).2.2.1 = some (ty k)) (hdf : ∀ k, k < n → defaultValue (ty k) = bif misr (mty K k) then .null else .int 0) (hcl : Cond.classLink own idx Cn ∈ mgw) (hit : Cond.instantiable Cn n ∈ mgw) (hii : Cond.initialized Cn ∈ mgw) (hin : ∀ w ∈ u_ws Cn T n, w ∈ mgw) (hp : P i = pc) (hq : P (i + 1) = pc + 3) (hd : decode cc pc = .ok (.new idx, 3)) : mOk own cc nL nl ini ret P i (o_new K n) := by
  intro C L S h k q hk
  refine Or.inl ⟨i + 1, L, vr (mT h) :: S, mnw h K n, hk, fun _ => ⟨Nat.le_succ _, Nat.le_add_right _ _⟩, fun _ _ _ _ hk' => hk', ?_⟩
  intro g d p l e R s m args below meth c Q h0 hSz hSd hC hT hU hT0 hU0 hw H locs ls hR hS hL
  obtain ⟨⟨hx, hb, hml, hown⟩, hts, hE, ⟨-, -, hrc, hrs⟩, ⟨hsz, h03, -⟩, -⟩ := hC
  obtain ⟨k1, k2, k3⟩ := hK
  have h3 := hR.2.2.1
  rw [mT_nw] at hT
  rw [mU_nw] at hU
  have efs : mce g (mnw h K n) (mT h) = .inr (K - 1, (List.range n).map (mfv g (mnw h K n) (mT h) K)) := by
    rw [mce_obj (K := K) (by rw [mK_nw, if_pos rfl]) k2, mN_nw, if_pos rfl]
  rw [hp]
  refine va_new (fs := (List.range n).map (mfv g (mnw h K n) (mT h) K)) hx hb hts hin ty hty hown (hts _ hcl) (hts _ hit) (hts _ hii) hE.1 hR.1 hR.2.1 hS (fun q hq => by show gB g ≤ q; omega) hc ?_ (by omega) (by omega) hd (fun q1 H1 hP1 hD1 hS1 => ?_)
  · intro j hj
    unfold vp_V
    rw [List.getD_eq_getElem?_getD, mfs_at hj, hdf j hj]
    unfold mfv
    rw [mP_nw, mI_nw, if_pos rfl, if_pos rfl]
    rfl
  · intro T0 hT0' X
    have hz1 := X.heapSize
    rw [hT0', hsz] at hz1
    have e1 := mnew_addr hP1 hD1 h3 (by omega)
    subst e1
    rw [← efs] at hP1 hD1
    have hw := hw H1 locs ls (mRp.push hR.2.2 k1 (by omega) (fun _ => k3.symm) hP1 hD1) hS1 hL
    have ec : mT (mnw h K n) - mT h0 = mT h - mT h0 + 1 := by rw [mT_nw]; omega
    have es : mU (mnw h K n) - mU h0 = mU h - mU h0 + n := by rw [mU_nw]; omega
    rw [hq, ec, es] at hw
    have hw : W p l e R s m args below meth c H1 locs (mT h - mT h0 + 1) (mU h - mU h0 + n) Q (F0 m (pc + 3) ls (mrf g (mT h) :: S.map (mcv g))) := hw
    rw [mrf_top h3] at hw
    exact hw T0 hT0' X
theorem ok_newi (hac : Cond.arrayClass .int ∈ mgw) (hp : P i = pc) (hq : P (i + 1) = pc + 2) (hd : decode cc pc = .ok (.newarray .int, 2)) : mOk own cc nL nl ini ret P i (o_newa 21) := by
  intro C L S h k q hk
  rcases S with _ | ⟨n | n | n, S⟩ <;> first
    | exact absurd hk.symm (Option.some_ne_none _)
    | skip
  by_cases hn : n < 0 ∨ 100000 < n.toNatClampNeg
  · exact absurd (hk.symm.trans (if_pos hn)) (Option.some_ne_none _)
  refine Or.inl ⟨i + 1, L, vr (mT h) :: S, mnw h 21 n.toNatClampNeg, (if_neg hn).symm.trans hk, fun _ => ⟨Nat.le_succ _, Nat.le_add_right _ _⟩, fun _ _ _ _ hk' => (if_neg hn).trans hk', ?_⟩
  intro g d p l e R s m args below meth c Q h0 hSz hSd hC hT hU hT0 hU0 hw H locs ls hR hS hL
  obtain ⟨⟨hx, hb, hml, hown⟩, hts, hE, ⟨-, -, hrc, hrs⟩, ⟨hsz, h03, -⟩, -⟩ := hC
  have h3 := hR.2.2.1
  rw [mT_nw] at hT
  rw [mU_nw] at hU
  have hn1 : ¬ n < 0 := fun z => hn (Or.inl z)
  have hn2 : ¬ 100000 < n.toNatClampNeg := fun z => hn (Or.inr z)
  have efs : mce g (mnw h 21 n.toNatClampNeg) (mT h) = .inl (g.2.1.1, n.toNatClampNeg, .inl (fun _ => 0)) := by
    rw [mce_int (by rw [mK_nw, if_pos rfl]), mN_nw, if_pos rfl]
    have : mI (mnw h 21 n.toNatClampNeg) (mT h) = fun _ => 0 := by funext j; rw [mI_nw, if_pos rfl]
    rw [this]
  rw [hp]
  refine va_newa (atype := .int) (ty := .int) (a0 := (n.toNatClampNeg, .inl (fun _ => 0))) hx hb (hts _ hac) rfl hE.1 hR.1 hR.2.1 hS (fun q hq => by show gB g ≤ q; omega) (fun _ => rfl) hn1 rfl (by show _ * 4 ≤ _; omega) (by omega) (by omega) hd (fun q1 cA H1 hK1 hP1 hD1 hS1 => ?_)
  intro T0 hT0' X
  have hz1 := X.heapSize
  rw [hT0', hsz] at hz1
  have e1 := mnew_addr hP1 hD1 h3 (by omega)
  subst e1
  have ecA : cA = g.2.1.1 := by
    have z1 : s.vm.findClass ("[" ++ FieldType.int.toString) = some cA := (hK1.2 5 (cA, .int) rfl).2
    have z2 : s.vm.findClass ("[" ++ FieldType.int.toString) = some g.2.1.1 := (hE.1.2 0 _ rfl).2
    exact Option.some.inj (z1.symm.trans z2)
  subst ecA
  rw [← efs] at hP1 hD1
  have hw := hw H1 locs ls (mRp.push hR.2.2 (by omega) (by omega) (fun z => by omega) hP1 hD1) hS1 hL
  have ec : mT (mnw h 21 n.toNatClampNeg) - mT h0 = mT h - mT h0 + 1 := by rw [mT_nw]; omega
  have es : mU (mnw h 21 n.toNatClampNeg) - mU h0 = mU h - mU h0 + n.toNatClampNeg := by rw [mU_nw]; omega
  rw [hq, ec, es] at hw
  have hw : W p l e R s m args below meth c H1 locs (mT h - mT h0 + 1) (mU h - mU h0 + n.toNatClampNeg) Q (F0 m (pc + 2) ls (mrf g (mT h) :: S.map (mcv g))) := hw
  rw [mrf_top h3] at hw
  exact hw T0 hT0' X
theorem ok_newz (hac : Cond.arrayClass .boolean ∈ mgw) (hp : P i = pc) (hq : P (i + 1) = pc + 2) (hd : decode cc pc = .ok (.newarray .boolean, 2)) : mOk own cc nL nl ini ret P i (o_newa 22) := by
  intro C L S h k q hk
  rcases S with _ | ⟨n | n | n, S⟩ <;> first
    | exact absurd hk.symm (Option.some_ne_none _)
    | skip
  by_cases hn : n < 0 ∨ 100000 < n.toNatClampNeg
  · exact absurd (hk.symm.trans (if_pos hn)) (Option.some_ne_none _)
  refine Or.inl ⟨i + 1, L, vr (mT h) :: S, mnw h 22 n.toNatClampNeg, (if_neg hn).symm.trans hk, fun _ => ⟨Nat.le_succ _, Nat.le_add_right _ _⟩, fun _ _ _ _ hk' => (if_neg hn).trans hk', ?_⟩
  intro g d p l e R s m args below meth c Q h0 hSz hSd hC hT hU hT0 hU0 hw H locs ls hR hS hL
  obtain ⟨⟨hx, hb, hml, hown⟩, hts, hE, ⟨-, -, hrc, hrs⟩, ⟨hsz, h03, -⟩, -⟩ := hC
  have h3 := hR.2.2.1
  rw [mT_nw] at hT
  rw [mU_nw] at hU
  have hn1 : ¬ n < 0 := fun z => hn (Or.inl z)
  have hn2 : ¬ 100000 < n.toNatClampNeg := fun z => hn (Or.inr z)
  have efs : mce g (mnw h 22 n.toNatClampNeg) (mT h) = .inl (g.2.1.2.1, n.toNatClampNeg, .inl (fun _ => 0)) := by
    rw [mce_bool (by rw [mK_nw, if_pos rfl]), mN_nw, if_pos rfl]
    have : mI (mnw h 22 n.toNatClampNeg) (mT h) = fun _ => 0 := by funext j; rw [mI_nw, if_pos rfl]
    rw [this]
  rw [hp]
  refine va_newa (atype := .boolean) (ty := .boolean) (a0 := (n.toNatClampNeg, .inl (fun _ => 0))) hx hb (hts _ hac) rfl hE.1 hR.1 hR.2.1 hS (fun q hq => by show gB g ≤ q; omega) (fun _ => rfl) hn1 rfl (by show _ * 1 ≤ _; omega) (by omega) (by omega) hd (fun q1 cA H1 hK1 hP1 hD1 hS1 => ?_)
  intro T0 hT0' X
  have hz1 := X.heapSize
  rw [hT0', hsz] at hz1
  have e1 := mnew_addr hP1 hD1 h3 (by omega)
  subst e1
  have ecA : cA = g.2.1.2.1 := by
    have z1 : s.vm.findClass ("[" ++ FieldType.boolean.toString) = some cA := (hK1.2 5 (cA, .boolean) rfl).2
    have z2 : s.vm.findClass ("[" ++ FieldType.boolean.toString) = some g.2.1.2.1 := (hE.1.2 1 _ rfl).2
    exact Option.some.inj (z1.symm.trans z2)
  subst ecA
  rw [← efs] at hP1 hD1
  have hw := hw H1 locs ls (mRp.push hR.2.2 (by omega) (by omega) (fun z => by omega) hP1 hD1) hS1 hL
  have ec : mT (mnw h 22 n.toNatClampNeg) - mT h0 = mT h - mT h0 + 1 := by rw [mT_nw]; omega
  have es : mU (mnw h 22 n.toNatClampNeg) - mU h0 = mU h - mU h0 + n.toNatClampNeg := by rw [mU_nw]; omega
  rw [hq, ec, es] at hw
  have hw : W p l e R s m args below meth c H1 locs (mT h - mT h0 + 1) (mU h - mU h0 + n.toNatClampNeg) Q (F0 m (pc + 2) ls (mrf g (mT h) :: S.map (mcv g))) := hw
  rw [mrf_top h3] at hw
  exact hw T0 hT0' X
theorem ok_anew {K t0 idx : Nat} {Cn : String} (h1 : K = 23 ∧ t0 = 2 ∧ Cn = RX0 ∨ K = 24 ∧ t0 = 3 ∧ Cn = RX7) (hcl : Cond.classLink own idx Cn ∈ mgw) (hp : P i = pc) (hq : P (i + 1) = pc + 3) (hd : decode cc pc = .ok (.anewarray idx, 3)) : mOk own cc nL nl ini ret P i (o_newa K) := by
  intro C L S h k q hk
  rcases S with _ | ⟨n | n | n, S⟩ <;> first
    | exact absurd hk.symm (Option.some_ne_none _)
    | skip
  by_cases hn : n < 0 ∨ 100000 < n.toNatClampNeg
  · exact absurd (hk.symm.trans (if_pos hn)) (Option.some_ne_none _)
  refine Or.inl ⟨i + 1, L, vr (mT h) :: S, mnw h K n.toNatClampNeg, (if_neg hn).symm.trans hk, fun _ => ⟨Nat.le_succ _, Nat.le_add_right _ _⟩, fun _ _ _ _ hk' => (if_neg hn).trans hk', ?_⟩
  intro g d p l e R s m args below meth c Q h0 hSz hSd hC hT hU hT0 hU0 hw H locs ls hR hS hL
  obtain ⟨⟨hx, hb, hml, hown⟩, hts, hE, ⟨-, -, hrc, hrs⟩, ⟨hsz, h03, -⟩, -⟩ := hC
  have h3 := hR.2.2.1
  rw [mT_nw] at hT
  rw [mU_nw] at hU
  have hn1 : ¬ n < 0 := fun z => hn (Or.inl z)
  have hn2 : ¬ 100000 < n.toNatClampNeg := fun z => hn (Or.inr z)
  have efs : mce g (mnw h K n.toNatClampNeg) (mT h) = .inl (mcA g K, n.toNatClampNeg, .inr (.inr (.inr (.inr (fun _ => none))))) := by
    rw [mce_q (K := K) (by rw [mK_nw, if_pos rfl]) (by omega) (by omega), mN_nw, if_pos rfl]
    have : (fun j => mro g (mP (mnw h K n.toNatClampNeg) (mT h) j)) = fun _ => none := by funext j; rw [mP_nw, if_pos rfl]; rfl
    rw [this]
  have hAO : va_AO Cn s := by
    rcases h1 with ⟨-, -, rfl⟩ | ⟨-, -, rfl⟩
    · exact hE.2.2.1
    · exact hE.2.2.2.1
  rw [hp]
  refine va_newq (C := Cn) hx hb hown (hts _ hcl) hAO hE.1 hR.1 hR.2.1 hS (fun q hq => by show gB g ≤ q; omega) hn1 rfl (by omega) (by omega) (by omega) hd (fun q1 cA H1 hK1 hP1 hD1 hS1 => ?_)
  intro T0 hT0' X
  have hz1 := X.heapSize
  rw [hT0', hsz] at hz1
  have e1 := mnew_addr hP1 hD1 h3 (by omega)
  subst e1
  have ecA : cA = mcA g K := by
    obtain ⟨_, _, -, -, -, z1⟩ := (hK1.2 5 (cA, .object Cn) rfl).2
    have z3 : (gty g)[t0]? = some (mcA g K, .object Cn) := by rcases h1 with ⟨rfl, rfl, rfl⟩ | ⟨rfl, rfl, rfl⟩ <;> rfl
    obtain ⟨_, _, -, -, -, z2⟩ := (hE.1.2 t0 _ z3).2
    exact Option.some.inj (z1.symm.trans z2)
  subst ecA
  rw [← efs] at hP1 hD1
  have hw := hw H1 locs ls (mRp.push hR.2.2 (by omega) (by omega) (fun z => by omega) hP1 hD1) hS1 hL
  have ec : mT (mnw h K n.toNatClampNeg) - mT h0 = mT h - mT h0 + 1 := by rw [mT_nw]; omega
  have es : mU (mnw h K n.toNatClampNeg) - mU h0 = mU h - mU h0 + n.toNatClampNeg := by rw [mU_nw]; omega
  rw [hq, ec, es] at hw
  have hw : W p l e R s m args below meth c H1 locs (mT h - mT h0 + 1) (mU h - mU h0 + n.toNatClampNeg) Q (F0 m (pc + 3) ls (mrf g (mT h) :: S.map (mcv g))) := hw
  rw [mrf_top h3] at hw
  exact hw T0 hT0' X
-- switches
def mswp (x : Int32) (d : Nat) : List (Int32 × Nat) → Nat
  | [] => d
  | (v, t) :: r => if x = v then t else mswp x d r
theorem mswt_eq (x : Int32) (d : Nat) (f : Nat → Option mR) : ∀ cs, mswt x d cs f = f (mswp x d cs)
  | [] => rfl
  | (v, t) :: r => by
    unfold mswt mswp
    split
    · rfl
    · exact mswt_eq x d f r
theorem mswp_out {x : Int32} {d : Nat} : ∀ cs : List (Int32 × Nat), (∀ q ∈ cs, x ≠ q.1) → mswp x d cs = d
  | [], _ => rfl
  | (v, t) :: r, h => by
    unfold mswp
    rw [if_neg (h _ List.mem_cons_self)]
    exact mswp_out r (fun q hq => h q (List.mem_cons_of_mem _ hq))
theorem ok_tsw {lo n dd len : Nat} {dflt lo' hi' : Int} {offs : Array Int} {cs : List (Int32 × Nat)} (hn : lo + n < 2 ^ 30) (hlo : lo' = (lo : Int)) (hhi : hi' = (lo : Int) + n - 1) (hcs : cs.map Prod.fst = (List.range n).map (fun k => nI (lo + k))) (hof : ∀ k, k < n → (offs[k]?).map (fun o => (pc : Int) + o) = some ((P (mswp (nI (lo + k)) dd cs) : Nat) : Int)) (hdf : (pc : Int) + dflt = ((P dd : Nat) : Int)) (hp : P i = pc) (hd : decode cc pc = .ok (.tableswitch dflt lo' hi' offs, len)) : mOk own cc nL nl ini ret P i (o_sw cs dd) := by
  subst hlo
  subst hhi
  intro C L S h k q hk
  rcases S with _ | ⟨x | x | x, S⟩ <;> first
    | exact absurd hk.symm (Option.some_ne_none _)
    | skip
  exact mOk.step (mswp x dd cs) L S h (fun _ k' => mswt_eq x dd (fun t => k' t L S h) cs) hk rfl rfl (fun g d p l e R s m args below meth c Q h0 hC hw H locs ls hR hS hL => by
    obtain ⟨⟨hx, hb, hml, hown⟩, hts, hE, -, -, -⟩ := hC
    have hw := hw H locs ls hR hS hL
    rw [hp]
    by_cases hz : x.toInt < (lo : Int) ∨ (lo : Int) + n - 1 < x.toInt
    · have e1 : mswp x dd cs = dd := by
        apply mswp_out
        intro q hq e2
        have h1 : q.1 ∈ cs.map Prod.fst := List.mem_map.mpr ⟨q, hq, rfl⟩
        rw [hcs] at h1
        obtain ⟨j, hj, hj2⟩ := List.mem_map.mp h1
        have hj := List.mem_range.mp hj
        rw [e2, ← hj2, nI_toInt (by omega)] at hz
        omega
      rw [e1] at hw
      exact lv_tableOut hx hb hd hz hdf hw
    · have h0 : 0 ≤ x.toInt ∧ x.toInt < ((lo + n : Nat) : Int) := by omega
      obtain ⟨j', hj', rfl⟩ := vp_in_of (x := x) (n := lo + n) (vp_in_iff.mpr h0) (by omega)
      rw [nI_toInt (by omega)] at hz
      obtain ⟨j, rfl⟩ : ∃ j, j' = lo + j := ⟨j' - lo, by omega⟩
      have hj : j < n := by omega
      have h1 := hof j hj
      cases ho : offs[j]? with
      | none => rw [ho] at h1; cases h1
      | some o =>
        rw [ho] at h1
        have h2 : (pc : Int) + o = ((P (mswp (nI (lo + j)) dd cs) : Nat) : Int) := Option.some.inj h1
        refine lv_tableIn hx hb hd (by rw [nI_toInt (by omega)]; omega) (by rw [nI_toInt (by omega)]; omega) (off := o) ?_ h2 hw
        rw [nI_toInt (by omega), show (((lo + j : Nat) : Int) - (lo : Int)).toNat = j by omega]
        exact ho)
/-- the keys and where they lead, of a lookup -/
def mlk (pc : Nat) (P : Nat → Nat) : List (Int × Int) → List (Int32 × Nat) → Prop
  | [], [] => True
  | (a, o) :: r, (v, t) :: r' => (v.toInt = a ∧ (pc : Int) + o = ((P t : Nat) : Int)) ∧ mlk pc P r r'
  | _, _ => False
theorem mlk_off {pc : Nat} {P : Nat → Nat} {x : Int32} {dd : Nat} {dflt : Int} (hdf : (pc : Int) + dflt = ((P dd : Nat) : Int)) : ∀ (ps : List (Int × Int)) (cs : List (Int32 × Nat)), mlk pc P ps cs → (pc : Int) + Op.lookupswitch.offset ps dflt x.toInt = ((P (mswp x dd cs) : Nat) : Int)
  | [], [], _ => hdf
  | (a, o) :: r, (v, t) :: r', h => by
    obtain ⟨⟨h1, h2⟩, h3⟩ := h
    unfold mswp
    by_cases e : x = v
    · rw [if_pos e, ← h2, e, h1]
      simp [Op.lookupswitch.offset]
    · rw [if_neg e, lv_osw e h1]
      exact mlk_off hdf r r' h3
  | [], _ :: _, h => h.elim
  | _ :: _, [], h => h.elim
theorem ok_lsw {dd len : Nat} {dflt : Int} {ps : Array (Int × Int)} {cs : List (Int32 × Nat)} (hs : (ps.toList.zip (ps.toList.drop 1)).all (fun (a, next) => a.1 < next.1) = true) (hcs : mlk pc P ps.toList cs) (hdf : (pc : Int) + dflt = ((P dd : Nat) : Int)) (hp : P i = pc) (hd : decode cc pc = .ok (.lookupswitch dflt ps, len)) : mOk own cc nL nl ini ret P i (o_sw cs dd) := by
  intro C L S h k q hk
  rcases S with _ | ⟨x | x | x, S⟩ <;> first
    | exact absurd hk.symm (Option.some_ne_none _)
    | skip
  exact mOk.step (mswp x dd cs) L S h (fun _ k' => mswt_eq x dd (fun t => k' t L S h) cs) hk rfl rfl (fun g d p l e R s m args below meth c Q h0 hC hw H locs ls hR hS hL => by
    obtain ⟨⟨hx, hb, hml, hown⟩, hts, hE, -, -, -⟩ := hC
    have hw := hw H locs ls hR hS hL
    rw [hp]
    exact lv_lookup hx hb hd hs rfl (mlk_off hdf _ _ hcs) hw)
-- ends
theorem ok_iret (hr : ret = some .int) (hp : P i = pc) (hd : decode cc pc = .ok (.ireturn, 1)) : mOk own cc nL nl ini ret P i o_iret := by
  intro C L S h k q hk
  rcases S with _ | ⟨x | x | x, _ | ⟨y, S⟩⟩ <;> first
    | exact absurd hk.symm (Option.some_ne_none _)
    | skip
  have hk : (some (some (vi x), h) : Option mR) = some q := hk
  cases hk
  refine Or.inr ⟨fun _ _ => rfl, rfl, ?_⟩
  intro g d p l e R s m args below meth c Q h0 hC H locs ls hR hS hL
  obtain ⟨-, -, -, -, -, hrt⟩ := hC
  rw [hp]
  exact (hrt H locs ls pc hR hS).1 x rfl (Or.inl hr) hd
theorem ok_zret (hr : ret = some .boolean) (hp : P i = pc) (hd : decode cc pc = .ok (.ireturn, 1)) : mOk own cc nL nl ini ret P i o_zret := by
  intro C L S h k q hk
  rcases S with _ | ⟨x | x | x, _ | ⟨y, S⟩⟩ <;> first
    | exact absurd hk.symm (Option.some_ne_none _)
    | skip
  by_cases hz : x = 0 ∨ x = 1
  · have hk : (some (some (vi x), h) : Option mR) = some q := (if_pos hz).symm.trans hk
    cases hk
    refine Or.inr ⟨fun _ _ => if_pos hz, rfl, ?_⟩
    intro g d p l e R s m args below meth c Q h0 hC H locs ls hR hS hL
    obtain ⟨-, -, -, -, -, hrt⟩ := hC
    rw [hp]
    exact (hrt H locs ls pc hR hS).1 x rfl (Or.inr ⟨hr, hz⟩) hd
  · exact absurd (hk.symm.trans (if_neg hz)) (Option.some_ne_none _)
theorem ok_aret (hr : (∃ n, ret = some (.object n)) ∨ ∃ t, ret = some (.array t)) (hp : P i = pc) (hd : decode cc pc = .ok (.areturn, 1)) : mOk own cc nL nl ini ret P i o_aret := by
  intro C L S h k q hk
  rcases S with _ | ⟨x | x | x, _ | ⟨y, S⟩⟩ <;> first
    | exact absurd hk.symm (Option.some_ne_none _)
    | skip
  have hk : (some (some (vr x), h) : Option mR) = some q := hk
  cases hk
  refine Or.inr ⟨fun _ _ => rfl, rfl, ?_⟩
  intro g d p l e R s m args below meth c Q h0 hC H locs ls hR hS hL
  obtain ⟨-, -, -, -, -, hrt⟩ := hC
  rw [hp]
  exact (hrt H locs ls pc hR hS).2.1 x rfl hr hd
theorem ok_vret (hr : ret = none) (hp : P i = pc) (hd : decode cc pc = .ok (.return_, 1)) : mOk own cc nL nl ini ret P i o_vret := by
  intro C L S h k q hk
  rcases S with _ | ⟨y, S⟩ <;> first
    | exact absurd hk.symm (Option.some_ne_none _)
    | skip
  have hk : (some (none, h) : Option mR) = some q := hk
  cases hk
  refine Or.inr ⟨fun _ _ => rfl, rfl, ?_⟩
  intro g d p l e R s m args below meth c Q h0 hC H locs ls hR hS hL
  obtain ⟨-, -, -, -, -, hrt⟩ := hC
  rw [hp]
  exact (hrt H locs ls pc hR hS).2.2 rfl hr hd
end OKN
