/-! ===== Int32 by its bits (begun from kit/laws/BITS.to-paste) ===== -/
def bt (x : Int32) (i : Nat) : Bool := x.toBitVec.getLsbD i
theorem b_ext {x y : Int32} (h : ∀ i, i < 32 → bt x i = bt y i) : x = y := Int32.toBitVec_inj.mp (BitVec.eq_of_getLsbD_eq (fun i hi => h i hi))
theorem b_or (x y : Int32) (i : Nat) : bt (x ||| y) i = (bt x i || bt y i) := by unfold bt; rw [Int32.toBitVec_or, BitVec.getLsbD_or]
theorem b_and (x y : Int32) (i : Nat) : bt (x &&& y) i = (bt x i && bt y i) := by unfold bt; rw [Int32.toBitVec_and, BitVec.getLsbD_and]
theorem b_xor (x y : Int32) (i : Nat) : bt (x ^^^ y) i = (bt x i ^^ bt y i) := by unfold bt; rw [Int32.toBitVec_xor, BitVec.getLsbD_xor]
theorem b_big {x : Int32} {i : Nat} (h : 32 ≤ i) : bt x i = false := BitVec.getLsbD_of_ge _ _ h
theorem b_255 (i : Nat) : bt 255 i = decide (i < 8) := by
  rcases Nat.lt_or_ge i 32 with h | h
  · exact (by decide +kernel : ∀ i, i < 32 → bt 255 i = decide (i < 8)) i h
  · rw [b_big h, decide_eq_false (by omega)]
theorem b_65535 (i : Nat) : bt 65535 i = decide (i < 16) := by
  rcases Nat.lt_or_ge i 32 with h | h
  · exact (by decide +kernel : ∀ i, i < 32 → bt 65535 i = decide (i < 16)) i h
  · rw [b_big h, decide_eq_false (by omega)]
theorem b_m1 : ∀ i, i < 32 → bt (-1) i = true := by decide +kernel
theorem b_0 (i : Nat) : bt 0 i = false := BitVec.getLsbD_zero
theorem s_l : ∀ n, n < 32 → ((nI n &&& 31).toBitVec.smod 32).toNat = n := by decide +kernel
theorem s_u : ∀ n, n < 32 → (((nI n).toUInt32 &&& Int32.toUInt32 31).toBitVec % 32).toNat = n := by decide +kernel
theorem b_shl (n : Nat) (hn : n < 32) (x : Int32) {i : Nat} (hi : i < 32) : bt (x <<< (nI n &&& 31)) i = (decide (n ≤ i) && bt x (i - n)) := by
  unfold bt
  rw [Int32.toBitVec_shiftLeft]
  show (x.toBitVec <<< ((nI n &&& 31).toBitVec.smod 32).toNat).getLsbD i = _
  rw [s_l n hn, BitVec.getLsbD_shiftLeft]
  rcases Nat.lt_or_ge i n with h | h
  · simp [h, Nat.not_le.mpr h]
  · simp [hi, h, Nat.not_lt.mpr h]
theorem b_ushr (n : Nat) (hn : n < 32) (x : Int32) (i : Nat) : bt ((x.toUInt32 >>> ((nI n).toUInt32 &&& Int32.toUInt32 31)).toInt32) i = bt x (n + i) := by
  show (x.toUInt32 >>> ((nI n).toUInt32 &&& Int32.toUInt32 31)).toBitVec.getLsbD i = x.toUInt32.toBitVec.getLsbD (n + i)
  rw [UInt32.toBitVec_shiftRight]
  show (x.toUInt32.toBitVec >>> (((nI n).toUInt32 &&& Int32.toUInt32 31).toBitVec % 32).toNat).getLsbD i = _
  rw [s_u n hn, BitVec.getLsbD_ushiftRight]
theorem b_sshr (n : Nat) (hn : n < 32) (x : Int32) {i : Nat} (hi : i < 32) : bt (x >>> (nI n &&& 31)) i = if n + i < 32 then bt x (n + i) else bt x 31 := by
  unfold bt
  rw [Int32.toBitVec_shiftRight]
  show (x.toBitVec.sshiftRight ((nI n &&& 31).toBitVec.smod 32).toNat).getLsbD i = _
  rw [s_l n hn, BitVec.getLsbD_sshiftRight, BitVec.msb_eq_getLsbD_last]
  simp [hi]
theorem nx_and (a b : Nat) : nI a &&& nI b = nI (a &&& b) := by
  apply Int32.toBitVec_inj.1
  show BitVec.ofNat 32 a &&& BitVec.ofNat 32 b = BitVec.ofNat 32 (a &&& b)
  apply BitVec.eq_of_getLsbD_eq
  intro i hi
  simp [hi]
theorem nx_xor (a b : Nat) : nI a ^^^ nI b = nI (a ^^^ b) := by
  apply Int32.toBitVec_inj.1
  show BitVec.ofNat 32 a ^^^ BitVec.ofNat 32 b = BitVec.ofNat 32 (a ^^^ b)
  apply BitVec.eq_of_getLsbD_eq
  intro i hi
  simp [hi]

/-! ===== sets of numbers below 24 as bits ===== -/
/-- the bits of those below n that p holds of, laid one after the other -/
def bs (p : Nat → Bool) : Nat → Int32
  | 0 => nI 0
  | n + 1 => if p n = true then bs p n ||| (nI 1 <<< (nI n &&& 31)) else bs p n
theorem bt_nI0 (i : Nat) : bt (nI 0) i = false := by rw [nI_0]; exact b_0 i
theorem bt_nI1 : ∀ i, i < 32 → bt (nI 1) i = decide (i = 0) := by decide +kernel
theorem bt_one {n i : Nat} (hn : n < 32) (hi : i < 32) : bt (nI 1 <<< (nI n &&& 31)) i = decide (i = n) := by
  rw [b_shl n hn _ hi]
  by_cases h : n ≤ i
  · rw [bt_nI1 _ (by omega), decide_eq_true h, Bool.true_and]
    by_cases h2 : i = n
    · rw [decide_eq_true h2, decide_eq_true (by omega)]
    · rw [decide_eq_false h2, decide_eq_false (by omega)]
  · rw [decide_eq_false h, Bool.false_and, decide_eq_false (by omega)]
theorem bt_bs (p : Nat → Bool) : ∀ (n i : Nat), n ≤ 32 → i < 32 → bt (bs p n) i = (decide (i < n) && p i)
  | 0, i, _, _ => by
    show bt (nI 0) i = _
    rw [bt_nI0]
    rfl
  | n + 1, i, hn, hi => by
    unfold bs
    have ih := bt_bs p n i (by omega) hi
    by_cases hp : p n = true
    · rw [if_pos hp, b_or, ih, bt_one (by omega) hi]
      by_cases h1 : i = n
      · subst h1
        rw [hp]
        simp
      · by_cases h2 : i < n
        · rw [decide_eq_true h2, decide_eq_true (show i < n + 1 by omega), decide_eq_false h1]
          simp
        · rw [decide_eq_false h2, decide_eq_false (show ¬ i < n + 1 by omega), decide_eq_false h1]
          simp
    · rw [if_neg hp, ih]
      by_cases h1 : i = n
      · subst h1
        have : p i = false := by
          cases hq : p i with
          | false => rfl
          | true => exact absurd hq hp
        rw [this]
        simp
      · by_cases h2 : i < n
        · rw [decide_eq_true h2, decide_eq_true (show i < n + 1 by omega)]
        · rw [decide_eq_false h2, decide_eq_false (show ¬ i < n + 1 by omega)]
theorem bt_test {x : Int32} {k : Nat} (hk : k < 32) : ((x >>> (nI k &&& 31)) &&& nI 1 = nI 1) = (bt x k = true) := by
  apply propext
  have key : bt ((x >>> (nI k &&& 31)) &&& nI 1) 0 = bt x k := by
    rw [b_and, b_sshr k hk _ (by decide), bt_nI1 0 (by decide)]
    simp [hk]
  constructor
  · intro h
    rw [← key, h]
    decide +kernel
  · intro h
    apply b_ext
    intro i hi
    rw [b_and, bt_nI1 i hi]
    by_cases h0 : i = 0
    · subst h0
      rw [b_sshr k hk _ hi]
      simp [hk, h]
    · rw [decide_eq_false h0, Bool.and_false]
theorem bt_test0 {x : Int32} {k : Nat} (hk : k < 32) : ((x >>> (nI k &&& 31)) &&& nI 1 = 0) = (bt x k = false) := by
  apply propext
  have key : bt ((x >>> (nI k &&& 31)) &&& nI 1) 0 = bt x k := by
    rw [b_and, b_sshr k hk _ (by decide), bt_nI1 0 (by decide)]
    simp [hk]
  constructor
  · intro h
    rw [← key, h]
    exact b_0 0
  · intro h
    apply b_ext
    intro i hi
    rw [b_and, bt_nI1 i hi, b_0]
    by_cases h0 : i = 0
    · subst h0
      rw [b_sshr k hk _ hi]
      simp [hk, h]
    · rw [decide_eq_false h0, Bool.and_false]
theorem or_0 (x : Int32) : x ||| nI 0 = x := by
  apply b_ext
  intro i hi
  rw [b_or, bt_nI0, Bool.or_false]
theorem bs_congr {p q : Nat → Bool} : ∀ n, (∀ k, k < n → p k = q k) → bs p n = bs q n
  | 0, _ => rfl
  | n + 1, h => by
    unfold bs
    rw [bs_congr n (fun k hk => h k (by omega)), h n (by omega)]
/-- how many below n p holds of -/
def ct (p : Nat → Bool) : Nat → Nat
  | 0 => 0
  | n + 1 => if p n = true then ct p n + 1 else ct p n
theorem ct_le (p : Nat → Bool) : ∀ n, ct p n ≤ n
  | 0 => Nat.le_refl _
  | n + 1 => by
    unfold ct
    have := ct_le p n
    split <;> omega
theorem ct_congr {p q : Nat → Bool} : ∀ n, (∀ k, k < n → p k = q k) → ct p n = ct q n
  | 0, _ => rfl
  | n + 1, h => by
    unfold ct
    rw [ct_congr n (fun k hk => h k (by omega)), h n (by omega)]
theorem bs_t {p : Nat → Bool} {n : Nat} (h : p n = true) : bs p (n + 1) = bs p n ||| (nI 1 <<< (nI n &&& 31)) := if_pos h
theorem bs_f {p : Nat → Bool} {n : Nat} (h : p n = false) : bs p (n + 1) = bs p n := if_neg (by rw [h]; decide)
theorem ct_t {p : Nat → Bool} {n : Nat} (h : p n = true) : ct p (n + 1) = ct p n + 1 := if_pos h
theorem ct_f {p : Nat → Bool} {n : Nat} (h : p n = false) : ct p (n + 1) = ct p n := if_neg (by rw [h]; decide)
