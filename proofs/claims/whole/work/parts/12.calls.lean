/-! ===== the operations are sound: calls ===== -/
theorem mpop_spec : ∀ (n : Nat) (S acc as S' : List mv), mpop n S acc = some (as, S') → ∃ bs, as = bs ++ acc ∧ S = bs.reverse ++ S' ∧ bs.length = n
  | 0, S, acc, as, S', h => by
    cases h
    exact ⟨[], rfl, rfl, rfl⟩
  | n + 1, [], acc, as, S', h => by cases h
  | n + 1, v :: S, acc, as, S', h => by
    obtain ⟨bs, h1, h2, h3⟩ := mpop_spec n S (v :: acc) as S' h
    refine ⟨bs ++ [v], by rw [h1, List.append_assoc]; rfl, by rw [h2, List.reverse_append]; rfl, by rw [List.length_append, h3]; rfl⟩
theorem mcat_sum {g : mG} : ∀ S : List mv, ((S.map (mcv g)).map fun v => v.category).sum = mcat S
  | [] => rfl
  | .inl x :: S => by
    show 1 + ((S.map (mcv g)).map fun v => v.category).sum = 1 + mcat S
    rw [mcat_sum S]
  | .inr (.inl x) :: S => by
    show 2 + ((S.map (mcv g)).map fun v => v.category).sum = 2 + mcat S
    rw [mcat_sum S]
  | .inr (.inr x) :: S => by
    show (mcv g (vr x)).category + ((S.map (mcv g)).map fun v => v.category).sum = 1 + mcat S
    rw [mcat_sum S, mcv_c1 (vr x) rfl]
/-- method M can be called from a class at a place: over any heap that is as the small one says, with a result r of the small machine -/
def mCan (own : String) (cc : ByteArray) (nL : Nat) (ini : Bool) (ret : Option FieldType) (pc M n K : Nat) : Prop :=
  ∀ (C : mC) (as rest : List mv) (h : mh) (r : mR) (g : mG) (d : Nat) (p : Program) (l : Launch) (e : Env) (R : Room) (s : State) (m : MethodId) (args : Array Value) (below : List Frame) (meth : Method) (c : Code) (Q : State → Prop) (h0 : mh) (q : mR) (H : Heap) (locs : List Loc) (ls : Array Slot),
    C M as h = some r → mSd g l d C → mCx g d p l e R s m args below meth c Q own cc nL ini ret h0 q → mRp g h H → va_S (gA g) s.heap H locs → H.size = gB g + (mT h - 3) → as.length = n → (K = 0 ∨ ∃ a as', as = vr a :: as' ∧ mK h a = K) → mcat rest ≤ 8 → ls.size = nL → mT h0 ≤ mT h → mU h0 ≤ mU h → mT h ≤ mT r.2 → mU h ≤ mU r.2 → mT r.2 ≤ mT q.2 → mU r.2 ≤ mU q.2 →
    va_Run p l e R s m args below meth c H locs (mT h - mT h0) (mU h - mU h0) (mT r.2 - mT h) (mU r.2 - mU h) (F0 m pc ls ((as.map (mcv g)).reverse ++ rest.map (mcv g))) (rest.map (mcv g)) (mQc g r (as.map (mcv g)).toArray) (gA g)
theorem mPc_blind {g : mG} {as : List mv} {h : mh} : FrameBlind (mPc g as h) := fun a U f mk q => by
  obtain ⟨q1, q2, q3, q4⟩ := q
  exact ⟨q1, q2, q3.same (s := U) (U := U.calling f mk a) rfl, q4⟩
theorem mPc_at {g : mG} {as : List mv} {h : mh} {s : State} {H : Heap} {locs : List Loc} (hE : mE g s s.heap) (hR : mRp g h H) (hS : va_S (gA g) s.heap H locs) (hz : H.size = gB g + (mT h - 3)) (U : State) (hU : U.heap = H) (hW : s.WarmedH U.vm) : mPc g as h (as.map (mcv g)).toArray U := by
  refine ⟨rfl, by rw [hU]; exact hR, ?_, by rw [hU]; exact hz⟩
  rw [hU]
  exact (hE.kept hS.2.1).warm hW
theorem mgw_good {ws : List Cond} (h : ∀ w ∈ ws, w ∈ mgw) : GoodIn mgw ws := fun w hw => ⟨h w hw, good_of_word (List.mem_filter.mp (h w hw)).2⟩
/-- what a callee is by the table -/
def mCal (M : Nat) (y : MethodName) (bytes : ByteArray) (maxL : Nat) (rt : Option FieldType) : Prop := (mcode M).2.2.2.1 = y ∧ (mcode M).2.2.2.2.1 = bytes ∧ (mcode M).2.1 = maxL ∧ (mcode M).2.2.2.2.2.1 = rt ∧ maxL ≤ 21 ∧ Cond.code y bytes maxL rt ∈ mgw ∧ y.cls ≠ "java/lang/invoke/MethodHandle" ∧ y.cls ≠ "java/lang/invoke/VarHandle"
theorem mwm_eq {M : Nat} {y : MethodName} {bytes : ByteArray} {maxL : Nat} {rt : Option FieldType} (h : mCal M y bytes maxL rt) : mwm M = Cond.code y bytes maxL rt :: mgw := by
  obtain ⟨h1, h2, h3, h4, -⟩ := h
  unfold mwm
  rw [h1, h2, h3, h4]
theorem mwm_in {M : Nat} {y : MethodName} {bytes : ByteArray} {maxL : Nat} {rt : Option FieldType} (h : mCal M y bytes maxL rt) : ∀ w ∈ mwm M, w ∈ mgw := by
  intro w hw
  rw [mwm_eq h] at hw
  rcases List.mem_cons.mp hw with rfl | hw
  · exact h.2.2.2.2.2.1
  · exact hw
section CAN
variable {own : String} {cc : ByteArray} {nL : Nat} {ini : Bool} {ret : Option FieldType} {pc M n K idx maxL : Nat} {y : MethodName} {bytes : ByteArray} {rt : Option FieldType}
theorem can_S (hM : mCal M y bytes maxL rt) (hn : (parseMethodDescriptor y.desc).map (fun d => d.parameters.length) = some n) (hl : Cond.methodLink own idx y ∈ mgw) (hst : Cond.static y ∈ mgw) (hii : Cond.initialized y.cls ∈ mgw) (hd : decode cc pc = .ok (.invokestatic idx, 3)) : mCan own cc nL ini ret pc M n 0 := by
  intro C as rest h r g d p l e R s m args below meth c Q h0 q H locs ls hr hSd hC hR hS hz has _ hcat hls hT0 hU0 hT hU hTq hUq
  obtain ⟨⟨hx, hb, hml, hown⟩, hts, hE, ⟨hrf, hrl, hrc, hrs⟩, -, -⟩ := hC
  have hMet := hSd M as h r hr
  have hm : maxL ≤ 21 := hM.2.2.2.2.1
  rw [hM.1] at hMet
  refine va_runS (bytes := bytes) (maxL := maxL) (ret := rt) (nL := nL) (index := idx) (Ts := mgw) (own := own) (n := n) (As := as.map (mcv g)) ⟨hx, hb, hml, hown, hts⟩ hMet (va_cwS n hts (mgw_good (fun w hw => ?_)) (mwm_eq hM) rfl rfl ⟨hM.2.2.2.2.2.2.1, hM.2.2.2.2.2.2.2, hn⟩ ⟨hrf, ?_⟩) ⟨mPc_blind, mPc_at hE hR hS hz⟩ rfl (by rw [List.length_map, has]) hls rfl (lv_room (by rw [mcat_sum]; exact hcat)) hd ⟨by omega, by omega⟩
  · unfold va_wsS at hw
    rcases List.mem_append.mp hw with hw | hw
    · simp only [List.mem_cons, List.not_mem_nil, or_false] at hw
      rcases hw with rfl | rfl | rfl
      · exact hl
      · exact hst
      · exact hii
    · exact mwm_in hM w hw
  · show 8 + (maxL + 11) + 40 * d ≤ R.locals
    omega
theorem can_SN {host : String} (hM : mCal M y bytes maxL rt) (hn : (parseMethodDescriptor y.desc).map (fun d => d.parameters.length) = some n) (hl : Cond.methodLinkNest own idx y host ∈ mnw_) (hst : Cond.static y ∈ mgw) (hii : Cond.initialized y.cls ∈ mgw) (hd : decode cc pc = .ok (.invokestatic idx, 3)) : mCan own cc nL ini ret pc M n 0 := by
  intro C as rest h r g d p l e R s m args below meth c Q h0 q H locs ls hr hSd hC hR hS hz has _ hcat hls hT0 hU0 hT hU hTq hUq
  obtain ⟨⟨hx, hb, hml, hown⟩, hts, hE, ⟨hrf, hrl, hrc, hrs⟩, -, -⟩ := hC
  have hMet := hSd M as h r hr
  have hm : maxL ≤ 21 := hM.2.2.2.2.1
  rw [hM.1] at hMet
  refine va_runSN (host := host) (bytes := bytes) (maxL := maxL) (ret := rt) (nL := nL) (index := idx) (Ts := mgw) (own := own) (n := n) (As := as.map (mcv g)) ⟨hx, hb, hml, hown, hts⟩ hMet ⟨va_cnB n hts (mgw_good (mwm_in hM)) (mwm_eq hM) rfl rfl (hE.2.1 _ hl) (hts _ hii) ⟨hM.2.2.2.2.2.2.1, hM.2.2.2.2.2.2.2, hn⟩ ⟨hrf, ?_⟩, hts _ hst, trivial⟩ ⟨mPc_blind, mPc_at hE hR hS hz⟩ rfl (by rw [List.length_map, has]) hls rfl (lv_room (by rw [mcat_sum]; exact hcat)) hd ⟨by omega, by omega⟩
  show 8 + (maxL + 11) + 40 * d ≤ R.locals
  omega
theorem can_V {Cn : String} {T : u_T} {N : Nat} (hM : mCal M y bytes maxL rt) (hn : (parseMethodDescriptor y.desc).map (fun d => d.parameters.length) = some n) (hc : vwCl[K - 1]? = some (Cn, T, N)) (hK : 1 ≤ K ∧ K ≤ 11) (hy : y.cls = Cn) (hl : Cond.methodLink own idx y ∈ mgw) (hin : Cond.instanceMethod y ∈ mgw) (hse : Cond.selects Cn y y ∈ mgw) (hii : Cond.initialized Cn ∈ mgw) (hd : decode cc pc = .ok (.invokevirtual idx, 3)) : mCan own cc nL ini ret pc M (n + 1) K := by
  intro C as rest h r g d p l e R s m args below meth c Q h0 q H locs ls hr hSd hC hR hS hz has hrv hcat hls hT0 hU0 hT hU hTq hUq
  obtain ⟨⟨hx, hb, hml, hown⟩, hts, hE, ⟨hrf, hrl, hrc, hrs⟩, -, -⟩ := hC
  have hMet := hSd M as h r hr
  have hm : maxL ≤ 21 := hM.2.2.2.2.1
  rw [hM.1] at hMet
  rcases hrv with z | ⟨a, as', rfl, ha⟩
  · omega
  obtain ⟨z0, z1, z2⟩ := hR.obj ha hK.1 hK.2
  have e1 : (vr a :: as').map (mcv g) = .ref (mad g a) :: as'.map (mcv g) := by
    show mrf g a :: _ = _
    rw [mrf_ref z0]
  have hp : PreV s H Cn (mad g a) (mPc g (vr a :: as') h) (as'.map (mcv g)) := by
    refine ⟨mPc_blind, va_recv hE.1 hR.1 (ci := K - 1) (q := (Cn, T, N)) hc z2, fun U hU hW => ?_⟩
    have := mPc_at (as := vr a :: as') hE hR hS hz U hU hW
    rw [e1] at this
    exact this
  rw [e1]
  have hst : ((Value.ref (mad g a) :: as'.map (mcv g)).reverse ++ rest.map (mcv g)) = (as'.map (mcv g)).reverse ++ .ref (mad g a) :: rest.map (mcv g) := by
    rw [List.reverse_cons, List.append_assoc]
    rfl
  rw [hst]
  refine va_runV (bytes := bytes) (maxL := maxL) (ret := rt) (nL := nL) (index := idx) (Ts := mgw) (own := own) (n := n) (C := Cn) (As := as'.map (mcv g)) ⟨hx, hb, hml, hown, hts⟩ hMet (cwV n hts (mgw_good (fun w hw => ?_)) (mwm_eq hM) rfl rfl ⟨hy, hM.2.2.2.2.2.2.1, hM.2.2.2.2.2.2.2, hn⟩ ⟨hrf, ?_⟩) hp rfl (by rw [List.length_map]; exact Nat.succ.inj has) hls rfl (lv_room (by rw [mcat_sum]; exact hcat)) hd ⟨by omega, by omega⟩
  · unfold wsV at hw
    rcases List.mem_append.mp hw with hw | hw
    · simp only [List.mem_cons, List.not_mem_nil, or_false] at hw
      rcases hw with rfl | rfl | rfl | rfl
      · exact hl
      · exact hin
      · exact hse
      · exact hii
    · exact mwm_in hM w hw
  · show 8 + (maxL + 11) + 40 * d ≤ R.locals
    omega
theorem can_I (hM : mCal M y bytes maxL none) (hn : (parseMethodDescriptor y.desc).map (fun d => d.parameters.length) = some n) (hy1 : y.name = "<init>") (hl : Cond.methodLink own idx y ∈ mgw) (hin : Cond.instanceMethod y ∈ mgw) (hii : Cond.initialized y.cls ∈ mgw) (hd : decode cc pc = .ok (.invokespecial idx, 3)) : ∀ (C : mC) (as rest : List mv) (h : mh) (r : mR) (g : mG) (d : Nat) (p : Program) (l : Launch) (e : Env) (R : Room) (s : State) (m : MethodId) (args : Array Value) (below : List Frame) (meth : Method) (c : Code) (Q : State → Prop) (h0 : mh) (q : mR) (H : Heap) (locs : List Loc) (ls : Array Slot) (a : Nat) (as' : List mv),
    C M as h = some r → mSd g l d C → mCx g d p l e R s m args below meth c Q own cc nL ini ret h0 q → mRp g h H → va_S (gA g) s.heap H locs → H.size = gB g + (mT h - 3) → as.length = n + 1 → as = vr a :: as' → a ≠ 0 → mcat rest ≤ 8 → ls.size = nL → mT h0 ≤ mT h → mU h0 ≤ mU h → mT h ≤ mT r.2 → mU h ≤ mU r.2 → mT r.2 ≤ mT q.2 → mU r.2 ≤ mU q.2 →
    va_Run p l e R s m args below meth c H locs (mT h - mT h0) (mU h - mU h0) (mT r.2 - mT h) (mU r.2 - mU h) (F0 m pc ls ((as.map (mcv g)).reverse ++ rest.map (mcv g))) (rest.map (mcv g)) (mQc g r (as.map (mcv g)).toArray) (gA g) := by
  intro C as rest h r g d p l e R s m args below meth c Q h0 q H locs ls a as' hr hSd hC hR hS hz has hrv ha0 hcat hls hT0 hU0 hT hU hTq hUq
  obtain ⟨⟨hx, hb, hml, hown⟩, hts, hE, ⟨hrf, hrl, hrc, hrs⟩, -, -⟩ := hC
  have hMet := hSd M as h r hr
  have hm : maxL ≤ 21 := hM.2.2.2.2.1
  rw [hM.1] at hMet
  subst hrv
  have e1 : (vr a :: as').map (mcv g) = .ref (mad g a) :: as'.map (mcv g) := by
    show mrf g a :: _ = _
    rw [mrf_ref ha0]
  have hp : PreS s H (mPc g (vr a :: as') h) (.ref (mad g a) :: as'.map (mcv g)) := by
    refine ⟨mPc_blind, fun U hU hW => ?_⟩
    have := mPc_at (as := vr a :: as') hE hR hS hz U hU hW
    rw [e1] at this
    exact this
  rw [e1]
  have hst : ((Value.ref (mad g a) :: as'.map (mcv g)).reverse ++ rest.map (mcv g)) = (as'.map (mcv g)).reverse ++ .ref (mad g a) :: rest.map (mcv g) := by
    rw [List.reverse_cons, List.append_assoc]
    rfl
  rw [hst]
  refine va_runI (bytes := bytes) (maxL := maxL) (nL := nL) (index := idx) (Ts := mgw) (own := own) (n := n) (As := as'.map (mcv g)) ⟨hx, hb, hml, hown, hts⟩ hMet (cwI n hts (mgw_good (mwm_in hM)) (mwm_eq hM) rfl rfl (hts _ hii) (hts _ hl) (hts _ hin) hy1 ⟨hM.2.2.2.2.2.2.1, hM.2.2.2.2.2.2.2, hn⟩ ⟨hrf, ?_⟩) hp rfl (by rw [List.length_map]; exact Nat.succ.inj has) hls rfl (lv_room (by rw [mcat_sum]; exact hcat)) hd ⟨by omega, by omega⟩
  show 8 + (maxL + 11) + 40 * d ≤ R.locals
  omega
theorem can_IN {host : String} (hM : mCal M y bytes maxL none) (hn : (parseMethodDescriptor y.desc).map (fun d => d.parameters.length) = some n) (hy1 : y.name = "<init>") (hl : Cond.methodLinkNest own idx y host ∈ mnw_) (hin : Cond.instanceMethod y ∈ mgw) (hii : Cond.initialized y.cls ∈ mgw) (hd : decode cc pc = .ok (.invokespecial idx, 3)) : ∀ (C : mC) (as rest : List mv) (h : mh) (r : mR) (g : mG) (d : Nat) (p : Program) (l : Launch) (e : Env) (R : Room) (s : State) (m : MethodId) (args : Array Value) (below : List Frame) (meth : Method) (c : Code) (Q : State → Prop) (h0 : mh) (q : mR) (H : Heap) (locs : List Loc) (ls : Array Slot) (a : Nat) (as' : List mv),
    C M as h = some r → mSd g l d C → mCx g d p l e R s m args below meth c Q own cc nL ini ret h0 q → mRp g h H → va_S (gA g) s.heap H locs → H.size = gB g + (mT h - 3) → as.length = n + 1 → as = vr a :: as' → a ≠ 0 → mcat rest ≤ 8 → ls.size = nL → mT h0 ≤ mT h → mU h0 ≤ mU h → mT h ≤ mT r.2 → mU h ≤ mU r.2 → mT r.2 ≤ mT q.2 → mU r.2 ≤ mU q.2 →
    va_Run p l e R s m args below meth c H locs (mT h - mT h0) (mU h - mU h0) (mT r.2 - mT h) (mU r.2 - mU h) (F0 m pc ls ((as.map (mcv g)).reverse ++ rest.map (mcv g))) (rest.map (mcv g)) (mQc g r (as.map (mcv g)).toArray) (gA g) := by
  intro C as rest h r g d p l e R s m args below meth c Q h0 q H locs ls a as' hr hSd hC hR hS hz has hrv ha0 hcat hls hT0 hU0 hT hU hTq hUq
  obtain ⟨⟨hx, hb, hml, hown⟩, hts, hE, ⟨hrf, hrl, hrc, hrs⟩, -, -⟩ := hC
  have hMet := hSd M as h r hr
  have hm : maxL ≤ 21 := hM.2.2.2.2.1
  rw [hM.1] at hMet
  subst hrv
  have e1 : (vr a :: as').map (mcv g) = .ref (mad g a) :: as'.map (mcv g) := by
    show mrf g a :: _ = _
    rw [mrf_ref ha0]
  have hp : PreS s H (mPc g (vr a :: as') h) (.ref (mad g a) :: as'.map (mcv g)) := by
    refine ⟨mPc_blind, fun U hU hW => ?_⟩
    have := mPc_at (as := vr a :: as') hE hR hS hz U hU hW
    rw [e1] at this
    exact this
  rw [e1]
  have hst : ((Value.ref (mad g a) :: as'.map (mcv g)).reverse ++ rest.map (mcv g)) = (as'.map (mcv g)).reverse ++ .ref (mad g a) :: rest.map (mcv g) := by
    rw [List.reverse_cons, List.append_assoc]
    rfl
  rw [hst]
  refine va_runIN (host := host) (bytes := bytes) (maxL := maxL) (nL := nL) (index := idx) (Ts := mgw) (own := own) (n := n) (As := as'.map (mcv g)) ⟨hx, hb, hml, hown, hts⟩ hMet ⟨va_cnB n hts (mgw_good (mwm_in hM)) (mwm_eq hM) rfl rfl (hE.2.1 _ hl) (hts _ hii) ⟨hM.2.2.2.2.2.2.1, hM.2.2.2.2.2.2.2, hn⟩ ⟨hrf, ?_⟩, hy1, hts _ hin⟩ hp rfl (by rw [List.length_map]; exact Nat.succ.inj has) hls rfl (lv_room (by rw [mcat_sum]; exact hcat)) hd ⟨by omega, by omega⟩
  show 8 + (maxL + 11) + 40 * d ≤ R.locals
  omega
end CAN
/-- behind a call -/
theorem mrunW {g : mG} {p : Program} {l : Launch} {e : Env} {R : Room} {s : State} {m : MethodId} {args a : Array Value} {below : List Frame} {meth : Method} {c : Code} {Q : State → Prop} {h h0 : mh} {r : mR} {H : Heap} {locs : List Loc} {ls : Array Slot} {pc : Nat} {st0 rest : List Value}
    (hR : mRp g h H) (hS : va_S (gA g) s.heap H locs) (hsz : s.heap.size = gB g + (mT h0 - 3)) (h03 : 3 ≤ mT h0) (hT0 : mT h0 ≤ mT h) (hU0 : mU h0 ≤ mU h) (hT : mT h ≤ mT r.2) (hU : mU h ≤ mU r.2)
    (hrun : H.size = gB g + (mT h - 3) → va_Run p l e R s m args below meth c H locs (mT h - mT h0) (mU h - mU h0) (mT r.2 - mT h) (mU r.2 - mU h) (F0 m pc ls st0) rest (mQc g r a) (gA g))
    (kk : ∀ (H1 : Heap) (locs1 : List Loc), mRp g r.2 H1 → va_S (gA g) s.heap H1 locs1 → W p l e R s m args below meth c H1 locs1 (mT r.2 - mT h0) (mU r.2 - mU h0) Q (F0 m (pc + 3) ls ((r.1.map (mcv g)).toList ++ rest))) : W p l e R s m args below meth c H locs (mT h - mT h0) (mU h - mU h0) Q (F0 m pc ls st0) := by
  intro T hTH X
  have hz1 := X.heapSize
  rw [hTH] at hz1
  have hz := mRp.size hR hS hsz hT0 h03 hz1
  obtain ⟨v, st₀, t, T', L, q0, X', hL, e1, e2, ⟨hv, hR1, hF⟩, st⟩ := hrun hz T hTH X
  have hv : v = r.1.map (mcv g) := by
    injection hv
  subst hv
  have hS1 : va_S (gA g) s.heap T'.heap (locs ++ L) := by
    rw [e1]
    refine ⟨Nat.le_trans hS.1 (by rw [← q0]; exact hF.1), fun q z1 z2 => ?_, fun x hx => ?_⟩
    · have := hF.2 q (by rw [q0]; exact Nat.lt_of_lt_of_le z1 hS.1) z2
      rw [this, q0]
      exact hS.2.1 q z1 z2
    · rcases List.mem_append.mp hx with z | z
      · exact hS.2.2 x z
      · exact hL x z
  have hw := kk T'.heap (locs ++ L) (by rw [e1]; exact hR1) hS1
  have ec : mT r.2 - mT h0 = mT h - mT h0 + (mT r.2 - mT h) := by omega
  have es : mU r.2 - mU h0 = mU h - mU h0 + (mU r.2 - mU h) := by omega
  rw [ec, es] at hw
  obtain ⟨t2, a1, b1⟩ := hw T' rfl X'
  exact ⟨t2, st t2 a1, b1⟩
theorem mrcv_spec {h : mh} {K : Nat} {as : List mv} {x : Option mR} {q : mR} (hk : mrcv h K as x = some q) : x = some q ∧ (K = 0 ∨ ∃ a as', as = vr a :: as' ∧ mK h a = K) ∧ ∀ x', mrcv h K as x' = x' := by
  cases K with
  | zero => exact ⟨hk, Or.inl rfl, fun _ => rfl⟩
  | succ K =>
    rcases as with _ | ⟨a | a | a, as⟩ <;> first
      | exact absurd hk.symm (Option.some_ne_none _)
      | skip
    have hk : (if mK h a = K + 1 then x else none) = some q := hk
    by_cases hc : mK h a = K + 1
    · rw [if_pos hc] at hk
      exact ⟨hk, Or.inr ⟨a, as, rfl, hc⟩, fun _ => if_pos hc⟩
    · rw [if_neg hc] at hk
      cases hk
section OKC
variable {own : String} {cc : ByteArray} {nL : Nat} {nl ini : Bool} {ret : Option FieldType} {P : Nat → Nat} {i pc M n K : Nat}
theorem ok_callI (hcan : mCan own cc nL ini ret pc M n K) (hp : P i = pc) (hq : P (i + 1) = pc + 3) : mOk own cc nL nl ini ret P i (o_callI M n K) := by
  intro C L S h k q hk
  unfold o_callI at hk
  rcases hm : mpop n S [] with _ | ⟨as, S'⟩
  · rw [hm] at hk
    cases hk
  rw [hm] at hk
  obtain ⟨bs, q1, q2, q3⟩ := mpop_spec n S [] as S' hm
  rw [List.append_nil] at q1
  subst q1
  have hk : (bif Nat.ble (mcat S') 8 then mrcv h K as (mbI (C M as h) (fun x h => k (i + 1) L (vi x :: S') h)) else none) = some q := hk
  cases hb8 : Nat.ble (mcat S') 8 with
  | false =>
    rw [hb8] at hk
    cases hk
  | true =>
    rw [hb8] at hk
    obtain ⟨hk2, hrv, hre⟩ := mrcv_spec hk
    rcases hr : C M as h with _ | ⟨_ | (x | x | x), h'⟩ <;> rw [hr] at hk2 <;> first
      | exact absurd hk2.symm (Option.some_ne_none _)
      | skip
    have hk3 : k (i + 1) L (vi x :: S') h' = some q := hk2
    refine Or.inl ⟨i + 1, L, vi x :: S', h', hk3, fun hz => hz _ _ _ _ hr, fun C' k' q' hle hk' => ?_, ?_⟩
    · unfold o_callI
      rw [hm]
      show (bif Nat.ble (mcat S') 8 then mrcv h K as (mbI (C' M as h) (fun x h => k' (i + 1) L (vi x :: S') h)) else none) = some q'
      rw [hb8]
      show mrcv h K as (mbI (C' M as h) (fun x h => k' (i + 1) L (vi x :: S') h)) = some q'
      rw [hre, hle _ _ _ _ hr]
      exact hk'
    · intro g d p l e R s m args below meth c Q h0 hSz hSd hC hT hU hT0 hU0 hw H locs ls hR hS hL
      obtain ⟨hTr, hUr⟩ := hSz _ _ _ _ hr
      have hC' := hC
      obtain ⟨-, -, -, -, ⟨hsz, h03, -⟩, -⟩ := hC'
      rw [hp, q2, List.map_append, List.map_reverse]
      refine mrunW (r := (some (vi x), h')) hR hS hsz h03 hT0 hU0 hTr hUr (fun hz => hcan C as S' h _ g d p l e R s m args below meth c Q h0 q H locs ls hr hSd hC hR hS hz q3 hrv (Nat.le_of_ble_eq_true hb8) hL.1.1 hT0 hU0 hTr hUr hT hU) (fun H1 locs1 hR1 hS1 => ?_)
      have hw := hw H1 locs1 ls hR1 hS1 hL
      rw [hq] at hw
      exact hw
theorem ok_callP (hcan : mCan own cc nL ini ret pc M n K) (hp : P i = pc) (hq : P (i + 1) = pc + 3) : mOk own cc nL nl ini ret P i (o_callP M n K) := by
  intro C L S h k q hk
  unfold o_callP at hk
  rcases hm : mpop n S [] with _ | ⟨as, S'⟩
  · rw [hm] at hk
    cases hk
  rw [hm] at hk
  obtain ⟨bs, q1, q2, q3⟩ := mpop_spec n S [] as S' hm
  rw [List.append_nil] at q1
  subst q1
  have hk : (bif Nat.ble (mcat S') 8 then mrcv h K as (mbP (C M as h) (fun x h => k (i + 1) L (vr x :: S') h)) else none) = some q := hk
  cases hb8 : Nat.ble (mcat S') 8 with
  | false =>
    rw [hb8] at hk
    cases hk
  | true =>
    rw [hb8] at hk
    obtain ⟨hk2, hrv, hre⟩ := mrcv_spec hk
    rcases hr : C M as h with _ | ⟨_ | (x | x | x), h'⟩ <;> rw [hr] at hk2 <;> first
      | exact absurd hk2.symm (Option.some_ne_none _)
      | skip
    have hk3 : k (i + 1) L (vr x :: S') h' = some q := hk2
    refine Or.inl ⟨i + 1, L, vr x :: S', h', hk3, fun hz => hz _ _ _ _ hr, fun C' k' q' hle hk' => ?_, ?_⟩
    · unfold o_callP
      rw [hm]
      show (bif Nat.ble (mcat S') 8 then mrcv h K as (mbP (C' M as h) (fun x h => k' (i + 1) L (vr x :: S') h)) else none) = some q'
      rw [hb8]
      show mrcv h K as (mbP (C' M as h) (fun x h => k' (i + 1) L (vr x :: S') h)) = some q'
      rw [hre, hle _ _ _ _ hr]
      exact hk'
    · intro g d p l e R s m args below meth c Q h0 hSz hSd hC hT hU hT0 hU0 hw H locs ls hR hS hL
      obtain ⟨hTr, hUr⟩ := hSz _ _ _ _ hr
      have hC' := hC
      obtain ⟨-, -, -, -, ⟨hsz, h03, -⟩, -⟩ := hC'
      rw [hp, q2, List.map_append, List.map_reverse]
      refine mrunW (r := (some (vr x), h')) hR hS hsz h03 hT0 hU0 hTr hUr (fun hz => hcan C as S' h _ g d p l e R s m args below meth c Q h0 q H locs ls hr hSd hC hR hS hz q3 hrv (Nat.le_of_ble_eq_true hb8) hL.1.1 hT0 hU0 hTr hUr hT hU) (fun H1 locs1 hR1 hS1 => ?_)
      have hw := hw H1 locs1 ls hR1 hS1 hL
      rw [hq] at hw
      exact hw
theorem ok_callV (hcan : mCan own cc nL ini ret pc M n K) (hp : P i = pc) (hq : P (i + 1) = pc + 3) : mOk own cc nL nl ini ret P i (o_callV M n K) := by
  intro C L S h k q hk
  unfold o_callV at hk
  rcases hm : mpop n S [] with _ | ⟨as, S'⟩
  · rw [hm] at hk
    cases hk
  rw [hm] at hk
  obtain ⟨bs, q1, q2, q3⟩ := mpop_spec n S [] as S' hm
  rw [List.append_nil] at q1
  subst q1
  have hk : (bif Nat.ble (mcat S') 8 then mrcv h K as (mbV (C M as h) (fun h => k (i + 1) L S' h)) else none) = some q := hk
  cases hb8 : Nat.ble (mcat S') 8 with
  | false =>
    rw [hb8] at hk
    cases hk
  | true =>
    rw [hb8] at hk
    obtain ⟨hk2, hrv, hre⟩ := mrcv_spec hk
    rcases hr : C M as h with _ | ⟨_ | x, h'⟩ <;> rw [hr] at hk2 <;> first
      | exact absurd hk2.symm (Option.some_ne_none _)
      | skip
    have hk3 : k (i + 1) L S' h' = some q := hk2
    refine Or.inl ⟨i + 1, L, S', h', hk3, fun hz => hz _ _ _ _ hr, fun C' k' q' hle hk' => ?_, ?_⟩
    · unfold o_callV
      rw [hm]
      show (bif Nat.ble (mcat S') 8 then mrcv h K as (mbV (C' M as h) (fun h => k' (i + 1) L S' h)) else none) = some q'
      rw [hb8]
      show mrcv h K as (mbV (C' M as h) (fun h => k' (i + 1) L S' h)) = some q'
      rw [hre, hle _ _ _ _ hr]
      exact hk'
    · intro g d p l e R s m args below meth c Q h0 hSz hSd hC hT hU hT0 hU0 hw H locs ls hR hS hL
      obtain ⟨hTr, hUr⟩ := hSz _ _ _ _ hr
      have hC' := hC
      obtain ⟨-, -, -, -, ⟨hsz, h03, -⟩, -⟩ := hC'
      rw [hp, q2, List.map_append, List.map_reverse]
      refine mrunW (r := (none, h')) hR hS hsz h03 hT0 hU0 hTr hUr (fun hz => hcan C as S' h _ g d p l e R s m args below meth c Q h0 q H locs ls hr hSd hC hR hS hz q3 hrv (Nat.le_of_ble_eq_true hb8) hL.1.1 hT0 hU0 hTr hUr hT hU) (fun H1 locs1 hR1 hS1 => ?_)
      have hw := hw H1 locs1 ls hR1 hS1 hL
      rw [hq] at hw
      exact hw
end OKC
