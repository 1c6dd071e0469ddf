/-! ===== a small machine: values, a heap of two maps, operations that hand on to what comes next ===== -/
abbrev mv : Type := Int32 ⊕ (Int64 ⊕ Nat)
/-- whole numbers in cells, references in cells (0: null), kind and length of each cell, the next free cell, how many slots were made -/
abbrev mh : Type := (Nat → Nat → Int32) × (Nat → Nat → Nat) × (Nat → Nat × Nat) × Nat × Nat
abbrev mR : Type := Option mv × mh
abbrev mC : Type := Nat → List mv → mh → Option mR
abbrev mKt : Type := Nat → List (Option mv) → List mv → mh → Option mR
abbrev mO : Type := mC → Nat → List (Option mv) → List mv → mh → mKt → Option mR
abbrev vi (x : Int32) : mv := Sum.inl x
abbrev vl (x : Int64) : mv := Sum.inr (Sum.inl x)
abbrev vr (a : Nat) : mv := Sum.inr (Sum.inr a)
def mI (h : mh) (a k : Nat) : Int32 := h.1 a k
def mP (h : mh) (a k : Nat) : Nat := h.2.1 a k
def mK (h : mh) (a : Nat) : Nat := (h.2.2.1 a).1
def mN (h : mh) (a : Nat) : Nat := (h.2.2.1 a).2
def mT (h : mh) : Nat := h.2.2.2.1
def mU (h : mh) : Nat := h.2.2.2.2
def msi (h : mh) (a k : Nat) (x : Int32) : mh := (fun b j => if b = a ∧ j = k then x else h.1 b j, h.2)
def msp (h : mh) (a k : Nat) (x : Nat) : mh := (h.1, fun b j => if b = a ∧ j = k then x else h.2.1 b j, h.2.2)
/-- a new cell of a kind, with so many slots, all 0 -/
def mnw (h : mh) (K n : Nat) : mh := (fun b j => if b = mT h then 0 else h.1 b j, fun b j => if b = mT h then 0 else h.2.1 b j, fun b => if b = mT h then (K, n) else h.2.2.1 b, mT h + 1, mU h + n)
/-- new int[n][k]: the row of rows, then the rows -/
def mnw2 (h : mh) (n k : Nat) : mh := (fun b j => if mT h ≤ b ∧ b < mT h + 1 + n then 0 else h.1 b j, fun b j => if b = mT h then (if j < n then mT h + 1 + j else 0) else if mT h < b ∧ b < mT h + 1 + n then 0 else h.2.1 b j, fun b => if b = mT h then (25, n) else if mT h < b ∧ b < mT h + 1 + n then (21, k) else h.2.2.1 b, mT h + 1 + n, mU h + n + n * k)
def mget : List mO → Nat → Option mO
  | [], _ => none
  | a :: _, 0 => some a
  | _ :: r, n + 1 => mget r n
def mloc : List (Option mv) → Nat → Option mv
  | [], _ => none
  | a :: _, 0 => a
  | _ :: r, n + 1 => mloc r n
def mset : List (Option mv) → Nat → mv → List (Option mv)
  | [], _, _ => []
  | _ :: r, 0, v => some v :: r
  | a :: r, n + 1, v => a :: mset r n v
def mcat : List mv → Nat
  | [] => 0
  | .inl _ :: r => 1 + mcat r
  | .inr (.inl _) :: r => 2 + mcat r
  | .inr (.inr _) :: r => 1 + mcat r
def mpop : Nat → List mv → List mv → Option (List mv × List mv)
  | 0, S, a => some (a, S)
  | n + 1, v :: S, a => mpop n S (v :: a)
  | _ + 1, [], _ => none
def mbI (o : Option mR) (f : Int32 → mh → Option mR) : Option mR := match o with
  | some (some (.inl x), h) => f x h
  | _ => none
def mbP (o : Option mR) (f : Nat → mh → Option mR) : Option mR := match o with
  | some (some (.inr (.inr x)), h) => f x h
  | _ => none
def mbV (o : Option mR) (f : mh → Option mR) : Option mR := match o with
  | some (none, h) => f h
  | _ => none
-- constants, locals
def o_ic (v : Int32) : mO := fun _ i L S h k => k (i + 1) L (vi v :: S) h
def o_lc (v : Int64) : mO := fun _ i L S h k => k (i + 1) L (vl v :: S) h
def o_nul : mO := fun _ i L S h k => k (i + 1) L (vr 0 :: S) h
def o_ild (n : Nat) : mO := fun _ i L S h k => match mloc L n with
  | some (.inl x) => k (i + 1) L (vi x :: S) h
  | _ => none
def o_lld (n : Nat) : mO := fun _ i L S h k => match mloc L n with
  | some (.inr (.inl x)) => k (i + 1) L (vl x :: S) h
  | _ => none
def o_ald (n : Nat) : mO := fun _ i L S h k => match mloc L n with
  | some (.inr (.inr x)) => k (i + 1) L (vr x :: S) h
  | _ => none
def o_ist (n : Nat) : mO := fun _ i L S h k => match S with
  | .inl x :: S => k (i + 1) (mset L n (vi x)) S h
  | _ => none
def o_ast (n : Nat) : mO := fun _ i L S h k => match S with
  | .inr (.inr x) :: S => k (i + 1) (mset L n (vr x)) S h
  | _ => none
def o_inc (n : Nat) (v : Int32) : mO := fun _ i L S h k => match mloc L n with
  | some (.inl x) => k (i + 1) (mset L n (vi (x + v))) S h
  | _ => none
-- whole numbers
def o_add : mO := fun _ i L S h k => match S with
  | .inl y :: .inl x :: S => k (i + 1) L (vi (x + y) :: S) h
  | _ => none
def o_sub : mO := fun _ i L S h k => match S with
  | .inl y :: .inl x :: S => k (i + 1) L (vi (x - y) :: S) h
  | _ => none
def o_mul : mO := fun _ i L S h k => match S with
  | .inl y :: .inl x :: S => k (i + 1) L (vi (x * y) :: S) h
  | _ => none
def o_and : mO := fun _ i L S h k => match S with
  | .inl y :: .inl x :: S => k (i + 1) L (vi (x &&& y) :: S) h
  | _ => none
def o_or : mO := fun _ i L S h k => match S with
  | .inl y :: .inl x :: S => k (i + 1) L (vi (x ||| y) :: S) h
  | _ => none
def o_xor : mO := fun _ i L S h k => match S with
  | .inl y :: .inl x :: S => k (i + 1) L (vi (x ^^^ y) :: S) h
  | _ => none
def o_shl : mO := fun _ i L S h k => match S with
  | .inl y :: .inl x :: S => k (i + 1) L (vi (x <<< (y &&& 31)) :: S) h
  | _ => none
def o_shr : mO := fun _ i L S h k => match S with
  | .inl y :: .inl x :: S => k (i + 1) L (vi (x >>> (y &&& 31)) :: S) h
  | _ => none
def o_ushr : mO := fun _ i L S h k => match S with
  | .inl y :: .inl x :: S => k (i + 1) L (vi ((x.toUInt32 >>> (y.toUInt32 &&& Int32.toUInt32 31)).toInt32) :: S) h
  | _ => none
def o_div : mO := fun _ i L S h k => match S with
  | .inl y :: .inl x :: S => if y = 0 then none else k (i + 1) L (vi (x / y) :: S) h
  | _ => none
def o_rem : mO := fun _ i L S h k => match S with
  | .inl y :: .inl x :: S => if y = 0 then none else k (i + 1) L (vi (x - x / y * y) :: S) h
  | _ => none
def o_i2l : mO := fun _ i L S h k => match S with
  | .inl x :: S => k (i + 1) L (vl x.toInt64 :: S) h
  | _ => none
def o_l2i : mO := fun _ i L S h k => match S with
  | .inr (.inl x) :: S => k (i + 1) L (vi x.toInt32 :: S) h
  | _ => none
def o_ladd : mO := fun _ i L S h k => match S with
  | .inr (.inl y) :: .inr (.inl x) :: S => k (i + 1) L (vl (x + y) :: S) h
  | _ => none
def o_lsub : mO := fun _ i L S h k => match S with
  | .inr (.inl y) :: .inr (.inl x) :: S => k (i + 1) L (vl (x - y) :: S) h
  | _ => none
def o_lmul : mO := fun _ i L S h k => match S with
  | .inr (.inl y) :: .inr (.inl x) :: S => k (i + 1) L (vl (x * y) :: S) h
  | _ => none
def o_ldiv : mO := fun _ i L S h k => match S with
  | .inr (.inl y) :: .inr (.inl x) :: S => if y = 0 then none else k (i + 1) L (vl (x / y) :: S) h
  | _ => none
def o_lrem : mO := fun _ i L S h k => match S with
  | .inr (.inl y) :: .inr (.inl x) :: S => if y = 0 then none else k (i + 1) L (vl (x - x / y * y) :: S) h
  | _ => none
def o_lshl : mO := fun _ i L S h k => match S with
  | .inl y :: .inr (.inl x) :: S => k (i + 1) L (vl (x <<< (y.toInt64 &&& 63)) :: S) h
  | _ => none
def o_lcmp : mO := fun _ i L S h k => match S with
  | .inr (.inl y) :: .inr (.inl x) :: S => k (i + 1) L (vi (lg_cmp x y) :: S) h
  | _ => none
/-- long locals: the place behind is no one's -/
def munset : List (Option mv) → Nat → List (Option mv)
  | [], _ => []
  | _ :: r, 0 => none :: r
  | a :: r, n + 1 => a :: munset r n
def mnolong : Option mv → Bool
  | some (.inr (.inl _)) => false
  | _ => true
def o_istL (n : Nat) : mO := fun _ i L S h k => match S with
  | .inl x :: S => bif mnolong (mloc L (n - 1)) then k (i + 1) (mset L n (vi x)) S h else none
  | _ => none
def o_incL (n : Nat) (v : Int32) : mO := fun _ i L S h k => match mloc L n with
  | some (.inl x) => bif mnolong (mloc L (n - 1)) then k (i + 1) (mset L n (vi (x + v))) S h else none
  | _ => none
def o_lst (n : Nat) : mO := fun _ i L S h k => match S with
  | .inr (.inl x) :: S => bif mnolong (mloc L (n - 1)) then k (i + 1) (munset (mset L n (vl x)) (n + 1)) S h else none
  | _ => none
-- the stack
def o_dup : mO := fun _ i L S h k => match S with
  | .inl x :: S => k (i + 1) L (vi x :: vi x :: S) h
  | .inr (.inr x) :: S => k (i + 1) L (vr x :: vr x :: S) h
  | _ => none
def o_dup2 : mO := fun _ i L S h k => match S with
  | .inl y :: .inr (.inr x) :: S => k (i + 1) L (vi y :: vr x :: vi y :: vr x :: S) h
  | _ => none
def o_pop : mO := fun _ i L S h k => match S with
  | .inl _ :: S => k (i + 1) L S h
  | .inr (.inr _) :: S => k (i + 1) L S h
  | _ => none
-- branches
def o_goto (t : Nat) : mO := fun _ _ L S h k => k t L S h
def o_ifeq (t : Nat) : mO := fun _ i L S h k => match S with
  | .inl x :: S => if x = 0 then k t L S h else k (i + 1) L S h
  | _ => none
def o_ifne (t : Nat) : mO := fun _ i L S h k => match S with
  | .inl x :: S => if x = 0 then k (i + 1) L S h else k t L S h
  | _ => none
def o_iflt (t : Nat) : mO := fun _ i L S h k => match S with
  | .inl x :: S => if x < 0 then k t L S h else k (i + 1) L S h
  | _ => none
def o_ifge (t : Nat) : mO := fun _ i L S h k => match S with
  | .inl x :: S => if 0 ≤ x then k t L S h else k (i + 1) L S h
  | _ => none
def o_ifgt (t : Nat) : mO := fun _ i L S h k => match S with
  | .inl x :: S => if 0 < x then k t L S h else k (i + 1) L S h
  | _ => none
def o_ifle (t : Nat) : mO := fun _ i L S h k => match S with
  | .inl x :: S => if x ≤ 0 then k t L S h else k (i + 1) L S h
  | _ => none
def o_ceq (t : Nat) : mO := fun _ i L S h k => match S with
  | .inl y :: .inl x :: S => if x = y then k t L S h else k (i + 1) L S h
  | _ => none
def o_cne (t : Nat) : mO := fun _ i L S h k => match S with
  | .inl y :: .inl x :: S => if x = y then k (i + 1) L S h else k t L S h
  | _ => none
def o_clt (t : Nat) : mO := fun _ i L S h k => match S with
  | .inl y :: .inl x :: S => if x < y then k t L S h else k (i + 1) L S h
  | _ => none
def o_cge (t : Nat) : mO := fun _ i L S h k => match S with
  | .inl y :: .inl x :: S => if y ≤ x then k t L S h else k (i + 1) L S h
  | _ => none
def o_cgt (t : Nat) : mO := fun _ i L S h k => match S with
  | .inl y :: .inl x :: S => if y < x then k t L S h else k (i + 1) L S h
  | _ => none
def o_cle (t : Nat) : mO := fun _ i L S h k => match S with
  | .inl y :: .inl x :: S => if x ≤ y then k t L S h else k (i + 1) L S h
  | _ => none
def o_nullp (t : Nat) : mO := fun _ i L S h k => match S with
  | .inr (.inr x) :: S => if x = 0 then k t L S h else k (i + 1) L S h
  | _ => none
def o_nonnull (t : Nat) : mO := fun _ i L S h k => match S with
  | .inr (.inr x) :: S => if x = 0 then k (i + 1) L S h else k t L S h
  | _ => none
def mswt (x : Int32) (d : Nat) : List (Int32 × Nat) → (Nat → Option mR) → Option mR
  | [], f => f d
  | (v, t) :: r, f => if x = v then f t else mswt x d r f
def o_sw (cs : List (Int32 × Nat)) (d : Nat) : mO := fun _ _ L S h k => match S with
  | .inl x :: S => mswt x d cs (fun t => k t L S h)
  | _ => none
-- fields, arrays
def o_gI (K n : Nat) : mO := fun _ i L S h k => match S with
  | .inr (.inr a) :: S => if mK h a = K then k (i + 1) L (vi (mI h a n) :: S) h else none
  | _ => none
def o_gP (K n : Nat) : mO := fun _ i L S h k => match S with
  | .inr (.inr a) :: S => if mK h a = K then k (i + 1) L (vr (mP h a n) :: S) h else none
  | _ => none
def o_pI (K n : Nat) : mO := fun _ i L S h k => match S with
  | .inl x :: .inr (.inr a) :: S => if mK h a = K then k (i + 1) L S (msi h a n x) else none
  | _ => none
def o_pZ (K n : Nat) : mO := fun _ i L S h k => match S with
  | .inl x :: .inr (.inr a) :: S => if mK h a = K then (if x = 0 ∨ x = 1 then k (i + 1) L S (msi h a n x) else none) else none
  | _ => none
def o_pP (K n : Nat) : mO := fun _ i L S h k => match S with
  | .inr (.inr x) :: .inr (.inr a) :: S => if mK h a = K then k (i + 1) L S (msp h a n x) else none
  | _ => none
def o_tab : mO := fun _ i L S h k => k (i + 1) L (vr 2 :: S) h
/-- a whole number of an array: of kind 21 (int), 22 (boolean), 31 (the script), 32 (the table) -/
def o_ald4 (K : Nat) : mO := fun _ i L S h k => match S with
  | .inl j :: .inr (.inr a) :: S => if mK h a = K then (if j < 0 ∨ mN h a ≤ j.toNatClampNeg then none else k (i + 1) L (vi (mI h a j.toNatClampNeg) :: S) h) else none
  | _ => none
def o_ald5 (K : Nat) : mO := fun _ i L S h k => match S with
  | .inl j :: .inr (.inr a) :: S => if mK h a = K then (if j < 0 ∨ mN h a ≤ j.toNatClampNeg then none else k (i + 1) L (vr (mP h a j.toNatClampNeg) :: S) h) else none
  | _ => none
def o_len (K : Nat) : mO := fun _ i L S h k => match S with
  | .inr (.inr a) :: S => if mK h a = K then k (i + 1) L (vi (nI (mN h a)) :: S) h else none
  | _ => none
def o_iast : mO := fun _ i L S h k => match S with
  | .inl x :: .inl j :: .inr (.inr a) :: S => if mK h a = 21 then (if j < 0 ∨ mN h a ≤ j.toNatClampNeg then none else k (i + 1) L S (msi h a j.toNatClampNeg x)) else none
  | _ => none
def o_zast : mO := fun _ i L S h k => match S with
  | .inl x :: .inl j :: .inr (.inr a) :: S => if mK h a = 22 then (if x = 0 ∨ x = 1 then (if j < 0 ∨ mN h a ≤ j.toNatClampNeg then none else k (i + 1) L S (msi h a j.toNatClampNeg x)) else none) else none
  | _ => none
/-- an array of objects of kind E is of kind K -/
def o_aast (K E : Nat) : mO := fun _ i L S h k => match S with
  | .inr (.inr x) :: .inl j :: .inr (.inr a) :: S => if mK h a = K then (if x = 0 ∨ mK h x = E then (if j < 0 ∨ mN h a ≤ j.toNatClampNeg then none else k (i + 1) L S (msp h a j.toNatClampNeg x)) else none) else none
  | _ => none
def o_new (K n : Nat) : mO := fun _ i L S h k => k (i + 1) L (vr (mT h) :: S) (mnw h K n)
def o_newa (K : Nat) : mO := fun _ i L S h k => match S with
  | .inl n :: S => if n < 0 ∨ 100000 < n.toNatClampNeg then none else k (i + 1) L (vr (mT h) :: S) (mnw h K n.toNatClampNeg)
  | _ => none
def o_mna : mO := fun _ i L S h k => match S with
  | .inl n2 :: .inl n1 :: S => if n1 < 0 ∨ n2 < 0 ∨ 10000 < n1.toNatClampNeg ∨ 10000 < n2.toNatClampNeg then none else k (i + 1) L (vr (mT h) :: S) (mnw2 h n1.toNatClampNeg n2.toNatClampNeg)
  | _ => none
-- calls: method M; n arguments (the receiver too); the receiver's kind K (0: none is asked)
def mrcv (h : mh) (K : Nat) (as : List mv) (x : Option mR) : Option mR := match K with
  | 0 => x
  | K + 1 => match as with
    | .inr (.inr a) :: _ => if mK h a = K + 1 then x else none
    | _ => none
def o_callI (M n K : Nat) : mO := fun C i L S h k => match mpop n S [] with
  | some (as, S) => bif Nat.ble (mcat S) 8 then mrcv h K as (mbI (C M as h) (fun x h => k (i + 1) L (vi x :: S) h)) else none
  | none => none
def o_callP (M n K : Nat) : mO := fun C i L S h k => match mpop n S [] with
  | some (as, S) => bif Nat.ble (mcat S) 8 then mrcv h K as (mbP (C M as h) (fun x h => k (i + 1) L (vr x :: S) h)) else none
  | none => none
def o_callV (M n K : Nat) : mO := fun C i L S h k => match mpop n S [] with
  | some (as, S) => bif Nat.ble (mcat S) 8 then mrcv h K as (mbV (C M as h) (fun h => k (i + 1) L S h)) else none
  | none => none
def o_obj : mO := fun _ i L S h k => match S with
  | .inr (.inr a) :: S => if a = 0 then none else bif Nat.ble (mcat S) 8 then k (i + 1) L S h else none
  | _ => none
-- ends
def o_iret : mO := fun _ _ _ S h _ => match S with
  | [.inl x] => some (some (vi x), h)
  | _ => none
def o_zret : mO := fun _ _ _ S h _ => match S with
  | [.inl x] => if x = 0 ∨ x = 1 then some (some (vi x), h) else none
  | _ => none
def o_aret : mO := fun _ _ _ S h _ => match S with
  | [.inr (.inr x)] => some (some (vr x), h)
  | _ => none
def o_vret : mO := fun _ _ _ S h _ => match S with
  | [] => some (none, h)
  | _ => none
-- a run, its limit
def mrun (C : mC) (code : List mO) : Nat → mKt
  | 0 => fun _ _ _ _ => none
  | n + 1 => fun i L S h => match mget code i with
    | some op => op C i L S h (mrun C code n)
    | none => none
noncomputable def mlim (C : mC) (code : List mO) (i : Nat) (L : List (Option mv)) (S : List mv) (h : mh) : Option mR :=
  match Classical.propDecidable (∃ n, (mrun C code n i L S h).isSome = true) with
  | .isTrue hx => mrun C code (Classical.choose hx) i L S h
  | .isFalse _ => none
/-- unrolled by at most n steps, as far as places that stop it -/
noncomputable def mexp (C : mC) (code : List mO) (stp : Nat → Bool) : Nat → mKt
  | 0 => mlim C code
  | n + 1 => fun i L S h => bif stp i then mlim C code i L S h else match mget code i with
    | some op => op C i L S h (mexp C code stp n)
    | none => none
noncomputable def mexp1 (C : mC) (code : List mO) (stp : Nat → Bool) (n : Nat) : mKt := fun i L S h => match mget code i with
    | some op => op C i L S h (mexp C code stp n)
    | none => none
def mini : List mv → List (Option mv)
  | [] => []
  | .inl x :: r => some (vi x) :: mini r
  | .inr (.inl x) :: r => some (vl x) :: none :: mini r
  | .inr (.inr x) :: r => some (vr x) :: mini r
def mpad : Nat → List (Option mv) → List (Option mv)
  | 0, l => l
  | n + 1, a :: r => a :: mpad n r
  | n + 1, [] => none :: mpad n []
def mle (h : mh) (f : mh → Option mR) : Option mR := f h
def mli (x : Int32) (f : Int32 → Option mR) : Option mR := f x
/-- a method: operations, locals, whether it holds no long, name, bytes, what it returns, whether it is a constructor, where its instructions are -/
abbrev mEn : Type := List mO × Nat × Bool × MethodName × ByteArray × Option FieldType × Bool × List Nat
def mnth : List mEn → Nat → mEn
  | [], _ => ([], 0, true, ⟨"", "", ""⟩, ⟨#[]⟩, none, false, [])
  | a :: _, 0 => a
  | _ :: r, n + 1 => mnth r n
def mnla : List mv → Bool
  | [] => true
  | .inr (.inl _) :: _ => false
  | .inl _ :: r => mnla r
  | .inr (.inr _) :: r => mnla r
def mfit (nL : Nat) (nl : Bool) (as : List mv) : Bool := Nat.ble (mini as).length nL && (!nl || mnla as)
def mnat : List Nat → Nat → Nat
  | [], _ => 0
  | a :: _, 0 => a
  | _ :: r, n + 1 => mnat r n
