/-! ===== numbers: Int32 of a natural number, and what the equations ask of it ===== -/
theorem qle {a b : Nat} (ha : a < 2147483648) (hb : b < 2147483648) : (nI a ≤ nI b) = (a ≤ b) := propext (nI_leI ha hb)
theorem qlt {a b : Nat} (ha : a < 2147483648) (hb : b < 2147483648) : (nI a < nI b) = (a < b) := propext (nI_ltI ha hb)
theorem qeq {a b : Nat} (ha : a < 2147483648) (hb : b < 2147483648) : (nI a = nI b) = (a = b) := propext (nI_eq ha hb)
theorem qlt0 {n : Nat} (h : n < 2147483648) : (nI n < 0) = False := propext ⟨fun z => nI_pos h z, fun z => z.elim⟩
theorem q0le {n : Nat} (h : n < 2147483648) : (0 ≤ nI n) = True := propext ⟨fun _ => trivial, fun _ => nI_pos' h⟩
theorem qeq0 {n : Nat} (h : n < 2147483648) : (nI n = 0) = (n = 0) := by
  have := qeq (a := n) (b := 0) h (by decide)
  rw [nI_0] at this
  exact this
theorem qle0 {n : Nat} (h : n < 2147483648) : (nI n ≤ 0) = (n = 0) := by
  have := qle (a := n) (b := 0) h (by decide)
  rw [nI_0] at this
  rw [this]
  exact propext ⟨fun z => by omega, fun z => by omega⟩
theorem q0lt {n : Nat} (h : n < 2147483648) : ((0 : Int32) < nI n) = (0 < n) := by
  have := qlt (a := 0) (b := n) (by decide) h
  rw [nI_0] at this
  exact this
theorem qcl {n : Nat} (h : n < 2147483648) : (nI n).toNatClampNeg = n := nI_clamp h
theorem qm1 {n : Nat} (h : n < 2147483648) : (nI n = -1) = False := by
  apply propext
  constructor
  · intro z
    have h1 : (nI n).toInt = (n : Int) := nI_toInt h
    rw [z] at h1
    have h2 : ((-1 : Int32)).toInt = -1 := by decide +kernel
    rw [h2] at h1
    omega
  · exact fun z => z.elim
theorem q1m {n : Nat} (h : n < 2147483648) : ((-1 : Int32) = nI n) = False := by
  rw [← qm1 h]
  exact propext ⟨fun z => z.symm, fun z => z.symm⟩
theorem qltm {n : Nat} (h : n < 2147483648) : (nI n < -1) = False := by
  apply propext
  constructor
  · intro z
    rw [Int32.lt_iff_toInt_lt, nI_toInt h] at z
    have h2 : ((-1 : Int32)).toInt = -1 := by decide +kernel
    rw [h2] at z
    omega
  · exact fun z => z.elim
theorem q11 : (nI 1 = 1) = True := by decide +kernel
theorem q00 : (nI 0 = 0) = True := by decide +kernel
theorem q01 : (nI 0 = 1) = False := by decide +kernel
theorem q10 : (nI 1 = 0) = False := by decide +kernel
theorem qz0 : (nI 0 = 0 ∨ nI 0 = 1) = True := by decide +kernel
theorem qz1 : (nI 1 = 0 ∨ nI 1 = 1) = True := by decide +kernel
theorem qsub {a b : Nat} (h : b ≤ a) : nI a - nI b = nI (a - b) := pk_sub h
theorem qadd (a b : Nat) : nI a + nI b = nI (a + b) := nI_add a b
theorem qmul (a b : Nat) : nI a * nI b = nI (a * b) := pk_mul a b
theorem qdiv {a d : Nat} (ha : a < 2147483648) (h0 : 0 < d) (hd : d < 2147483648) : nI a / nI d = nI (a / d) := pk_div ha h0 hd
/-- any int is below 0, at least n, or a natural number below n -/
theorem qix (x : Int32) {n : Nat} (hn : n < 2147483648) : x < 0 ∨ nI n ≤ x ∨ ∃ j : Nat, j < n ∧ x = nI j := pk_ix x hn
-- what the equations are made of
theorem bI {x : Int32} {h : mh} {f : Int32 → mh → Option mR} : mbI (some (some (vi x), h)) f = f x h := rfl
theorem bP {x : Nat} {h : mh} {f : Nat → mh → Option mR} : mbP (some (some (vr x), h)) f = f x h := rfl
theorem bV {h : mh} {f : mh → Option mR} : mbV (some (none, h)) f = f h := rfl
theorem bE {h : mh} {f : mh → Option mR} : mle h f = f h := rfl
theorem bL {x : Int32} {f : Int32 → Option mR} : mli x f = f x := rfl
theorem bOI {p : Prop} (h : p = False) : (p ∨ False) = False := by rw [h]; simp
-- within: longs
theorem i64_le {x : Int32} {n : Int} (h : -2147483648 ≤ n) (h2 : n < 2147483648) : (Int64.ofInt n ≤ x.toInt64) = (n ≤ x.toInt) := by
  apply propext
  rw [Int64.le_iff_toInt_le, Int32.toInt_toInt64, Int64.toInt_ofInt_of_le (by omega) (by omega)]
theorem i64_ge {x : Int32} {n : Int} (h : -2147483648 ≤ n) (h2 : n < 2147483648) : (x.toInt64 ≤ Int64.ofInt n) = (x.toInt ≤ n) := by
  apply propext
  rw [Int64.le_iff_toInt_le, Int32.toInt_toInt64, Int64.toInt_ofInt_of_le (by omega) (by omega)]
theorem i64_le' {x y : Int32} : (x.toInt64 ≤ y.toInt64) = (x.toInt ≤ y.toInt) := by
  apply propext
  rw [Int64.le_iff_toInt_le, Int32.toInt_toInt64, Int32.toInt_toInt64]
