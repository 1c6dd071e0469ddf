/-! ===== what it is that an operation is sound ===== -/
def mrm (d mc ms : Nat) : Room := { frames := d, cells := mc, slots := ms, locals := 40 * d }
def mPc (g : mG) (as : List mv) (h : mh) : Array Value → State → Prop := fun v U => v = (as.map (mcv g)).toArray ∧ mRp g h U.heap ∧ mE g U U.heap ∧ U.heap.size = gB g + (mT h - 3)
def mQc (g : mG) (r : mR) : Array Value → State → Outcome → State → Prop := fun _ st oc t => oc = .returned (r.1.map (mcv g)) ∧ mRp g r.2 t.heap ∧ va_F (gA g) st t
def mwm (M : Nat) : List Cond := Cond.code (mcode M).2.2.2.1 (mcode M).2.2.2.2.1 (mcode M).2.1 (mcode M).2.2.2.2.2.1 :: mgw
/-- the callees are as they are said -/
def mSd (g : mG) (l : Launch) (d : Nat) (C : mC) : Prop := ∀ (M : Nat) (as : List mv) (h : mh) (r : mR), C M as h = some r → Met l (mcode M).2.2.2.1 (mwm M) (mrm d (mT r.2 - mT h) (mU r.2 - mU h)) (mPc g as h) (mQc g r) (mT r.2 - mT h) (mU r.2 - mU h) (gA g)
def mSz (C : mC) : Prop := ∀ (M : Nat) (as : List mv) (h : mh) (r : mR), C M as h = some r → mT h ≤ mT r.2 ∧ mU h ≤ mU r.2
def mLe (C C' : mC) : Prop := ∀ (M : Nat) (as : List mv) (h : mh) (r : mR), C M as h = some r → C' M as h = some r
def mW (g : mG) (p : Program) (l : Launch) (e : Env) (R : Room) (s : State) (m : MethodId) (args : Array Value) (below : List Frame) (meth : Method) (c : Code) (Q : State → Prop) (P : Nat → Nat) (nL : Nat) (nl : Bool) (h0 : mh) (i : Nat) (L : List (Option mv)) (S : List mv) (h : mh) : Prop :=
  ∀ (H : Heap) (locs : List Loc) (ls : Array Slot), mRp g h H → va_S (gA g) s.heap H locs → mLs g nL nl L ls → W p l e R s m args below meth c H locs (mT h - mT h0) (mU h - mU h0) Q (F0 m (P i) ls (S.map (mcv g)))
/-- at an end: the method's answer v (none: it has none) over the heap h -/
def mRt (g : mG) (p : Program) (l : Launch) (e : Env) (R : Room) (s : State) (m : MethodId) (args : Array Value) (below : List Frame) (meth : Method) (c : Code) (Q : State → Prop) (cc : ByteArray) (ret : Option FieldType) (h0 : mh) (q : mR) : Prop :=
  ∀ (H : Heap) (locs : List Loc) (ls : Array Slot) (pc : Nat), mRp g q.2 H → va_S (gA g) s.heap H locs →
    (∀ v : Int32, q.1 = some (vi v) → (ret = some .int ∨ (ret = some .boolean ∧ (v = 0 ∨ v = 1))) → decode cc pc = .ok (.ireturn, 1) → W p l e R s m args below meth c H locs (mT q.2 - mT h0) (mU q.2 - mU h0) Q (F0 m pc ls [.int v])) ∧
    (∀ a : Nat, q.1 = some (vr a) → ((∃ n, ret = some (.object n)) ∨ ∃ t, ret = some (.array t)) → decode cc pc = .ok (.areturn, 1) → W p l e R s m args below meth c H locs (mT q.2 - mT h0) (mU q.2 - mU h0) Q (F0 m pc ls [mrf g a])) ∧
    (q.1 = none → ret = none → decode cc pc = .ok (.return_, 1) → W p l e R s m args below meth c H locs (mT q.2 - mT h0) (mU q.2 - mU h0) Q (F0 m pc ls []))
def mCx (g : mG) (d : Nat) (p : Program) (l : Launch) (e : Env) (R : Room) (s : State) (m : MethodId) (args : Array Value) (below : List Frame) (meth : Method) (c : Code) (Q : State → Prop) (own : String) (cc : ByteArray) (nL : Nat) (ini : Bool) (ret : Option FieldType) (h0 : mh) (q : mR) : Prop :=
  (p.tables.exec = Jvm.exec ∧ c.code = cc ∧ c.maxLocals = nL ∧ s.vm.findClass own = some m.cls) ∧ (∀ w ∈ mgw, w.before args s = true) ∧ mE g s s.heap ∧ (d + 1 ≤ R.frames ∧ 40 * (d + 1) ≤ R.locals ∧ mT q.2 - mT h0 ≤ R.cells ∧ mU q.2 - mU h0 ≤ R.slots) ∧ (s.heap.size = gB g + (mT h0 - 3) ∧ 3 ≤ mT h0 ∧ (ini = true → meth.name = "<init>")) ∧ mRt g p l e R s m args below meth c Q cc ret h0 q
/-- an operation at place i of a method: what it hands on, and that the large machine does the same -/
def mOk (own : String) (cc : ByteArray) (nL : Nat) (nl ini : Bool) (ret : Option FieldType) (P : Nat → Nat) (i : Nat) (op : mO) : Prop :=
  ∀ (C : mC) (L : List (Option mv)) (S : List mv) (h : mh) (k : mKt) (q : mR), op C i L S h k = some q →
    (∃ (i' : Nat) (L' : List (Option mv)) (S' : List mv) (h' : mh), k i' L' S' h' = some q ∧ (mSz C → mT h ≤ mT h' ∧ mU h ≤ mU h') ∧ (∀ (C' : mC) (k' : mKt) (q' : mR), mLe C C' → k' i' L' S' h' = some q' → op C' i L S h k' = some q') ∧
      (∀ g d p l e R s m args below meth c Q h0, mSz C → mSd g l d C → mCx g d p l e R s m args below meth c Q own cc nL ini ret h0 q → mT h' ≤ mT q.2 → mU h' ≤ mU q.2 → mT h0 ≤ mT h → mU h0 ≤ mU h → mW g p l e R s m args below meth c Q P nL nl h0 i' L' S' h' → mW g p l e R s m args below meth c Q P nL nl h0 i L S h)) ∨
    ((∀ (C' : mC) (k' : mKt), op C' i L S h k' = some q) ∧ q.2 = h ∧ (∀ g d p l e R s m args below meth c Q h0, mCx g d p l e R s m args below meth c Q own cc nL ini ret h0 q → mW g p l e R s m args below meth c Q P nL nl h0 i L S h))
/-- one step that leaves cells and slots as many as they are -/
theorem mRp.size {g : mG} {h h0 : mh} {H H0 : Heap} {locs : List Loc} (hR : mRp g h H) (hS : va_S (gA g) H0 H locs) (h1 : H0.size = gB g + (mT h0 - 3)) (h2 : mT h0 ≤ mT h) (h3 : 3 ≤ mT h0) (h4 : H.size ≤ H0.size + (mT h - mT h0)) : H.size = gB g + (mT h - 3) := by
  have h5 := hS.1
  rcases Nat.lt_or_ge 3 (mT h) with z | z
  · have := mws_at (g := g) (h := h) (a := mT h - 1) (by omega) (by omega)
    have h6 := (hR.1 _ _ this).lt
    have e1 : mad g (mT h - 1) = gB g + (mT h - 1 - 3) := by
      unfold mad
      rw [if_neg (by omega), if_neg (by omega)]
    have h6 : mad g (mT h - 1) < H.size := h6
    omega
  · omega
theorem mOk.step {own : String} {cc : ByteArray} {nL : Nat} {nl ini : Bool} {ret : Option FieldType} {P : Nat → Nat} {i : Nat} {op : mO} {C : mC} {L : List (Option mv)} {S : List mv} {h : mh} {k : mKt} {q : mR} (i' : Nat) (L' : List (Option mv)) (S' : List mv) (h' : mh)
    (e : ∀ (C' : mC) (k' : mKt), op C' i L S h k' = k' i' L' S' h') (hk : op C i L S h k = some q) (hT : mT h' = mT h) (hU : mU h' = mU h)
    (hW : ∀ g d p l e R s m args below meth c Q h0, mCx g d p l e R s m args below meth c Q own cc nL ini ret h0 q → mW g p l e R s m args below meth c Q P nL nl h0 i' L' S' h' → mW g p l e R s m args below meth c Q P nL nl h0 i L S h) :
    (∃ (i' : Nat) (L' : List (Option mv)) (S' : List mv) (h' : mh), k i' L' S' h' = some q ∧ (mSz C → mT h ≤ mT h' ∧ mU h ≤ mU h') ∧ (∀ (C' : mC) (k' : mKt) (q' : mR), mLe C C' → k' i' L' S' h' = some q' → op C' i L S h k' = some q') ∧
      (∀ g d p l e R s m args below meth c Q h0, mSz C → mSd g l d C → mCx g d p l e R s m args below meth c Q own cc nL ini ret h0 q → mT h' ≤ mT q.2 → mU h' ≤ mU q.2 → mT h0 ≤ mT h → mU h0 ≤ mU h → mW g p l e R s m args below meth c Q P nL nl h0 i' L' S' h' → mW g p l e R s m args below meth c Q P nL nl h0 i L S h)) ∨
    ((∀ (C' : mC) (k' : mKt), op C' i L S h k' = some q) ∧ q.2 = h ∧ (∀ g d p l e R s m args below meth c Q h0, mCx g d p l e R s m args below meth c Q own cc nL ini ret h0 q → mW g p l e R s m args below meth c Q P nL nl h0 i L S h)) := by
  refine Or.inl ⟨i', L', S', h', (e C k).symm.trans hk, fun _ => ⟨Nat.le_of_eq hT.symm, Nat.le_of_eq hU.symm⟩, fun C' k' q' _ hk' => (e C' k').trans hk', ?_⟩
  intro g d p l e R s m args below meth c Q h0 _ _ hC _ _ _ _ hw
  exact hW g d p l e R s m args below meth c Q h0 hC hw
