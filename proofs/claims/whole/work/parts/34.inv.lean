/-! ===== what is held of the two systems between calls ===== -/
/-- a change of whole numbers alone, at places of W at most -/
def Fi (W : Nat → Nat → Prop) (h h' : mh) : Prop := h'.2 = h.2 ∧ ∀ a k, ¬ W a k → mI h' a k = mI h a k
theorem Fi.rf {W : Nat → Nat → Prop} {h : mh} : Fi W h h := ⟨rfl, fun _ _ _ => rfl⟩
theorem Fi.tr {W : Nat → Nat → Prop} {h h1 h2 : mh} (a : Fi W h h1) (b : Fi W h1 h2) : Fi W h h2 := ⟨b.1.trans a.1, fun x k hn => (b.2 x k hn).trans (a.2 x k hn)⟩
theorem Fi.mo {W W' : Nat → Nat → Prop} {h h1 : mh} (a : Fi W h h1) (hw : ∀ x k, W x k → W' x k) : Fi W' h h1 := ⟨a.1, fun x k hn => a.2 x k (fun z => hn (hw x k z))⟩
theorem Fi.si {W : Nat → Nat → Prop} {h : mh} {a k : Nat} {x : Int32} (hw : W a k) : Fi W h (msi h a k x) := ⟨rfl, fun b j hn => by rw [mI_si, if_neg]; rintro ⟨rfl, rfl⟩; exact hn hw⟩
theorem Fi.K {W : Nat → Nat → Prop} {h h' : mh} (f : Fi W h h') (a : Nat) : mK h' a = mK h a := by unfold mK; rw [f.1]
theorem Fi.N {W : Nat → Nat → Prop} {h h' : mh} (f : Fi W h h') (a : Nat) : mN h' a = mN h a := by unfold mN; rw [f.1]
theorem Fi.P {W : Nat → Nat → Prop} {h h' : mh} (f : Fi W h h') (a k : Nat) : mP h' a k = mP h a k := by unfold mP; rw [f.1]
theorem Fi.T {W : Nat → Nat → Prop} {h h' : mh} (f : Fi W h h') : mT h' = mT h := by unfold mT; rw [f.1]
theorem Fi.U {W : Nat → Nat → Prop} {h h' : mh} (f : Fi W h h') : mU h' = mU h := by unfold mU; rw [f.1]
theorem Fi.lay {W : Nat → Nat → Prop} {h h' : mh} (f : Fi W h h') (hL : Lay h) : Lay h' := by
  refine ⟨fun a h1 h2 => ?_, fun q hq => ?_, ?_⟩
  · rw [f.K, f.N]
    exact hL.1 a h1 h2
  · rw [f.P]
    exact hL.2.1 q hq
  · rw [f.T]
    exact hL.2.2
/-- where what begins at a place is past -/
def endp (cs : List Nat) (i : Nat) : Nat := i + tlen (cs.drop i) 1
def cd (cs : List Nat) (i : Nat) : Nat := cs.getD i 0
/-- how many of the first n places hold a symbol of a term that is not past at i -/
def opn (cs : List Nat) (i : Nat) : Nat → Nat
  | 0 => 0
  | n + 1 => opn cs i n + (if cd cs n < 100 ∧ i < endp cs n then 1 else 0)
/-- the depth of a symbol of a term -/
def dep (cs : List Nat) (i : Nat) : Nat := if cd cs i < 100 then 1 + opn cs i i else 0
/-- 1 if the last predicate at or ahead of the first n places bears a sign -/
def sgn (cs : List Nat) : Nat → Nat
  | 0 => 0
  | n + 1 => if cd cs n < 100 then sgn cs n else cd cs n % 2
/-- a feature's value, of the first n places -/
def meas (cs : List Nat) (f : Nat) : Nat → Nat
  | 0 => 0
  | n + 1 =>
    if f < 8 then (if cd cs n = 100 + f then meas cs f n + 1 else meas cs f n)
    else if f < 24 then (if cd cs n = (f - 8) / 2 ∧ sgn cs (n + 1) = f % 2 then meas cs f n + 1 else meas cs f n)
    else (if cd cs n = (f - 24) / 2 ∧ sgn cs (n + 1) = f % 2 then max (meas cs f n) (dep cs n) else meas cs f n)
def WF (cs : List Nat) : Prop := wf cs 0 = true ∧ cs.length ≤ 30 ∧ nlit cs ≤ 5 ∧ ∀ i, i < cs.length → dep cs i ≤ 5
/-- places that are never written again -/
def im (a : Nat) : Prop := (116 ≤ a ∧ a ≤ 121) ∨ 155 ≤ a
/-- the class's clause at a -/
def CW (h : mh) (a : Nat) (cs : List Nat) : Prop :=
  mK h a = 1 ∧ (im a ∧ a < mT h ∧ ∀ k, k < 5 → im (mP h a k) ∧ mP h a k < mT h ∧ mK h (mP h a k) = 21) ∧
  (mN h (mP h a 0) = cs.length ∧ ∀ i, i < cs.length → mI h (mP h a 0) i = nI (cd cs i)) ∧
  (mN h (mP h a 1) = cs.length ∧ ∀ i, i < cs.length → mI h (mP h a 1) i = nI (dep cs i)) ∧
  (mN h (mP h a 2) = cs.length ∧ ∀ i, i < cs.length → cd cs i < 100 → mI h (mP h a 2) i = nI (endp cs i)) ∧
  (mN h (mP h a 3) = nlit cs + 1 ∧ ∀ i, i ≤ nlit cs → mI h (mP h a 3) i = nI (beg cs i)) ∧
  (mN h (mP h a 4) = 40 ∧ ∀ f, f < 40 → mI h (mP h a 4) f = nI (meas cs f cs.length))
/-- the reference's clause k of the bank that begins at a place of an array -/
def MC (h : mh) (arr off k : Nat) (cs : List Nat) : Prop := mI h arr (off + 32 * k) = nI 1 ∧ mI h arr (off + 32 * k + 1) = nI cs.length ∧ ∀ i, i < cs.length → mI h arr (off + 32 * k + 2 + i) = nI (cd cs i)
/-- the class's state at s (its clauses at s + 1, its features at s + 2), the reference's bank: 24 clauses and an order -/
def Bk (h : mh) (s arr off : Nat) : Prop :=
  (∀ k, k < 24 → (mP h (s + 1) k = 0 ∧ mI h arr (off + 32 * k) = nI 0) ∨ ∃ cs, WF cs ∧ CW h (mP h (s + 1) k) cs ∧ MC h arr off k cs) ∧
  ∃ n, n ≤ 8 ∧ mI h s 2 = nI n ∧ mI h arr (off + 800) = nI n ∧ ∀ i, i < n → ∃ f, f < 40 ∧ mI h (s + 2) i = nI f ∧ mI h arr (off + 801 + i) = nI f
