/-! ===== how many bits: Integer.bitCount over sets of numbers below 24 ===== -/
theorem bt_nI {X i : Nat} (hi : i < 32) : bt (nI X) i = X.testBit i := by
  unfold bt
  show (BitVec.ofNat 32 X).getLsbD i = _
  rw [BitVec.getLsbD_ofNat]
  simp [hi]
theorem q_ushr {k : Nat} (hk : k < 32) {X : Nat} (hX : X < 4294967296) : ((nI X).toUInt32 >>> ((nI k).toUInt32 &&& Int32.toUInt32 31)).toInt32 = nI (X / 2 ^ k) := by
  apply b_ext
  intro i hi
  rw [b_ushr k hk, bt_nI hi]
  by_cases h : k + i < 32
  · rw [bt_nI h, Nat.testBit_div_two_pow, Nat.add_comm]
  · rw [b_big (by omega), Nat.testBit_div_two_pow, Nat.testBit_lt_two_pow]
    have : 2 ^ 32 ≤ 2 ^ (i + k) := Nat.pow_le_pow_right (by decide) (by omega)
    omega
/-- the number that the bits are -/
def bn (p : Nat → Bool) : Nat → Nat
  | 0 => 0
  | n + 1 => bn p n + (if p n = true then 2 ^ n else 0)
theorem bn_lt (p : Nat → Bool) : ∀ n, bn p n < 2 ^ n
  | 0 => Nat.zero_lt_one
  | n + 1 => by
    have := bn_lt p n
    unfold bn
    rw [Nat.pow_succ]
    split <;> omega
theorem q_shl1 : ∀ n, n < 31 → nI 1 <<< (nI n &&& 31) = nI (2 ^ n) := by decide +kernel
theorem nx_or (a b : Nat) : nI a ||| nI b = nI (a ||| b) := by
  apply Int32.toBitVec_inj.1
  show BitVec.ofNat 32 a ||| BitVec.ofNat 32 b = BitVec.ofNat 32 (a ||| b)
  apply BitVec.eq_of_getLsbD_eq
  intro i hi
  simp [hi]
theorem bs_bn (p : Nat → Bool) : ∀ n, n ≤ 31 → bs p n = nI (bn p n)
  | 0, _ => rfl
  | n + 1, h => by
    unfold bs bn
    rw [bs_bn p n (by omega)]
    by_cases hp : p n = true
    · rw [if_pos hp, if_pos hp, q_shl1 n (by omega), nx_or]
      congr 1
      have := Nat.two_pow_add_eq_or_of_lt (bn_lt p n) 1
      rw [Nat.mul_one] at this
      rw [Nat.or_comm, ← this, Nat.add_comm]
    · rw [if_neg hp, if_neg hp, Nat.add_zero]
def b8 (b : Nat) : Nat := b % 2 + b / 2 % 2 + b / 4 % 2 + b / 8 % 2 + b / 16 % 2 + b / 32 % 2 + b / 64 % 2 + b / 128 % 2
def bu (b : Nat) : Nat := b - ((b / 2) &&& 85)
def bv (b : Nat) : Nat := (bu b &&& 51) + ((bu b / 4) &&& 51)
theorem bu_1 : ∀ b, b < 256 → ((b / 2) &&& 85) ≤ b ∧ bu b < 256 := by decide +kernel
theorem bu_2 : ∀ b, b < 256 → ∀ c, c < 2 → ((b / 2 + 128 * c) &&& 85) = ((b / 2) &&& 85) := by decide +kernel
theorem bv_1 : ∀ b, b < 256 → bv b ≤ 68 ∧ bv b % 16 ≤ 4 := by decide +kernel
theorem bv_2 : ∀ b, b < 256 → ∀ c, c < 4 → ((bu b / 4 + 64 * c) &&& 51) = ((bu b / 4) &&& 51) := by decide +kernel
theorem bv_3 : ∀ b, b < 256 → ∀ c, c < 5 → ((bv b + (bv b / 16 + 16 * c)) &&& 15) = b8 b := by decide +kernel
theorem land3 {a b c x y z : Nat} (ha : a < 256) (hb : b < 256) (hx : x < 256) (hy : y < 256) : (a + 256 * b + 65536 * c) &&& (x + 256 * y + 65536 * z) = (a &&& x) + 256 * (b &&& y) + 65536 * (c &&& z) := by
  have l2 : ∀ a b x y : Nat, a < 256 → x < 256 → (a + 256 * b) &&& (x + 256 * y) = (a &&& x) + 256 * (b &&& y) := by
    intro a b x y ha hx
    have h1 := Nat.and_mod_two_pow (a := a + 256 * b) (b := x + 256 * y) (n := 8)
    have h2 := Nat.and_div_two_pow (a := a + 256 * b) (b := x + 256 * y) (n := 8)
    rw [show (2 : Nat) ^ 8 = 256 from rfl] at h1 h2
    rw [show (a + 256 * b) % 256 = a by omega, show (x + 256 * y) % 256 = x by omega] at h1
    rw [show (a + 256 * b) / 256 = b by omega, show (x + 256 * y) / 256 = y by omega] at h2
    omega
  have e1 : a + 256 * b + 65536 * c = a + 256 * (b + 256 * c) := by omega
  have e2 : x + 256 * y + 65536 * z = x + 256 * (y + 256 * z) := by omega
  rw [e1, e2, l2 _ _ _ _ ha hx, l2 _ _ _ _ hb hy]
  omega
theorem mod64 (x : Nat) : x &&& 63 = x % 64 := Nat.and_two_pow_sub_one_eq_mod x 6
theorem s_bc3 (d : Nat) {a b c : Nat} (ha : a < 256) (hb : b < 256) (hc : c < 256) (h : mh) : Ji_bitCount (d + 1) (nI (a + 256 * b + 65536 * c)) h = some (some (vi (nI (b8 a + b8 b + b8 c))), h) := by
  have ua := bu_1 a ha
  have ub := bu_1 b hb
  have uc := bu_1 c hc
  have va := bv_1 a ha
  have vb := bv_1 b hb
  have vc := bv_1 c hc
  have s1 : (a + 256 * b + 65536 * c) / 2 ^ 1 &&& 1431655765 = ((a / 2) &&& 85) + 256 * ((b / 2) &&& 85) + 65536 * ((c / 2) &&& 85) := by
    rw [show (a + 256 * b + 65536 * c) / 2 ^ 1 = (a / 2 + 128 * (b % 2)) + 256 * (b / 2 + 128 * (c % 2)) + 65536 * (c / 2) by omega, show 1431655765 = 85 + 256 * 85 + 65536 * 21845 from rfl, land3 (by omega) (by omega) (by omega) (by omega), bu_2 a ha _ (by omega), bu_2 b hb _ (by omega)]
    have := (by decide +kernel : ∀ c, c < 256 → (c / 2 &&& 21845) = (c / 2 &&& 85)) c hc
    omega
  have s2 : (a + 256 * b + 65536 * c) - (((a / 2) &&& 85) + 256 * ((b / 2) &&& 85) + 65536 * ((c / 2) &&& 85)) = bu a + 256 * bu b + 65536 * bu c := by
    unfold bu
    omega
  have s3 : (bu a + 256 * bu b + 65536 * bu c) &&& 858993459 = (bu a &&& 51) + 256 * (bu b &&& 51) + 65536 * (bu c &&& 51) := by
    rw [show 858993459 = 51 + 256 * 51 + 65536 * 13107 from rfl, land3 ua.2 ub.2 (by omega) (by omega)]
    have := (by decide +kernel : ∀ c, c < 256 → (c &&& 13107) = (c &&& 51)) _ uc.2
    omega
  have s4 : (bu a + 256 * bu b + 65536 * bu c) / 2 ^ 2 &&& 858993459 = ((bu a / 4) &&& 51) + 256 * ((bu b / 4) &&& 51) + 65536 * ((bu c / 4) &&& 51) := by
    rw [show (bu a + 256 * bu b + 65536 * bu c) / 2 ^ 2 = (bu a / 4 + 64 * (bu b % 4)) + 256 * (bu b / 4 + 64 * (bu c % 4)) + 65536 * (bu c / 4) by omega, show 858993459 = 51 + 256 * 51 + 65536 * 13107 from rfl, land3 (by omega) (by omega) (by omega) (by omega), bv_2 a ha _ (by omega), bv_2 b hb _ (by omega)]
    have := (by decide +kernel : ∀ c, c < 256 → (c &&& 13107) = (c &&& 51)) (bu c / 4) (by omega)
    omega
  have s5 : ((bu a &&& 51) + 256 * (bu b &&& 51) + 65536 * (bu c &&& 51)) + (((bu a / 4) &&& 51) + 256 * ((bu b / 4) &&& 51) + 65536 * ((bu c / 4) &&& 51)) = bv a + 256 * bv b + 65536 * bv c := by
    unfold bv
    omega
  have s6 : ((bv a + 256 * bv b + 65536 * bv c) + (bv a + 256 * bv b + 65536 * bv c) / 2 ^ 4) &&& 252645135 = b8 a + 256 * b8 b + 65536 * b8 c := by
    rw [show (bv a + 256 * bv b + 65536 * bv c) + (bv a + 256 * bv b + 65536 * bv c) / 2 ^ 4 = (bv a + (bv a / 16 + 16 * (bv b % 16))) + 256 * (bv b + (bv b / 16 + 16 * (bv c % 16))) + 65536 * (bv c + bv c / 16) by omega, show 252645135 = 15 + 256 * 15 + 65536 * 3855 from rfl, land3 (by omega) (by omega) (by omega) (by omega), bv_3 a ha _ (by omega), bv_3 b hb _ (by omega)]
    have h1 := (by decide +kernel : ∀ c, c < 256 → (c &&& 3855) = (c &&& 15)) (bv c + bv c / 16) (by omega)
    have h2 := bv_3 c hc 0 (by omega)
    simp only [Nat.mul_zero, Nat.add_zero] at h2
    rw [h1, h2]
  have ka : b8 a ≤ 8 := by unfold b8; omega
  have kb : b8 b ≤ 8 := by unfold b8; omega
  have kc : b8 c ≤ 8 := by unfold b8; omega
  rw [e_Ji_bitCount]
  simp only [bL]
  have hu := fun X (hX : X < 4294967296) => q_ushr (k := 1) (by decide) hX
  rw [q_ushr (k := 1) (by decide) (by omega), nx_and, s1, qsub (by omega), s2]
  rw [q_ushr (k := 2) (by decide) (by omega), nx_and, nx_and, s3, s4, qadd, s5]
  rw [q_ushr (k := 4) (by decide) (by omega), qadd, nx_and, s6]
  rw [q_ushr (k := 8) (by decide) (by omega), qadd]
  rw [q_ushr (k := 16) (by decide) (by omega), qadd, nx_and, mod64]
  clear s1 s2 s3 s4 s5 s6 ua ub uc va vb vc hu
  have t1 : (b8 a + 256 * b8 b + 65536 * b8 c) / 2 ^ 8 = b8 b + 256 * b8 c := by omega
  rw [t1]
  have t2 : (b8 a + 256 * b8 b + 65536 * b8 c + (b8 b + 256 * b8 c)) / 2 ^ 16 = b8 c := by omega
  rw [t2]
  refine congrArg (fun z => some (some (vi (nI z)), h)) ?_
  omega
theorem bn_s (p : Nat → Bool) (n : Nat) : bn p (n + 1) = bn p n + 2 ^ n * (if p n = true then 1 else 0) := by
  show bn p n + _ = _
  by_cases h : p n = true
  · rw [if_pos h, if_pos h, Nat.mul_one]
  · rw [if_neg h, if_neg h, Nat.mul_zero]
theorem ct_s (p : Nat → Bool) (n : Nat) : ct p (n + 1) = ct p n + (if p n = true then 1 else 0) := by
  show (if p n = true then _ else _) = _
  by_cases h : p n = true
  · rw [if_pos h, if_pos h]
  · rw [if_neg h, if_neg h, Nat.add_zero]
theorem bn_add (p : Nat → Bool) (n : Nat) : ∀ m, bn p (n + m) = bn p n + 2 ^ n * bn (fun i => p (n + i)) m
  | 0 => by show _ = _ + _ * 0; rw [Nat.mul_zero]; rfl
  | m + 1 => by
    rw [← Nat.add_assoc, bn_s, bn_s, bn_add p n m, Nat.pow_add, Nat.mul_add, Nat.mul_assoc, Nat.add_assoc]
theorem ct_add (p : Nat → Bool) (n : Nat) : ∀ m, ct p (n + m) = ct p n + ct (fun i => p (n + i)) m
  | 0 => rfl
  | m + 1 => by rw [← Nat.add_assoc, ct_s, ct_s, ct_add p n m, Nat.add_assoc]
theorem b8_bn (p : Nat → Bool) : b8 (bn p 8) = ct p 8 := by
  have k2 : ∀ (q : Bool), (if q = true then 1 else 0) ≤ 1 := by
    intro q
    cases q <;> simp
  have z1 : bn p 0 = 0 := rfl
  have z2 : ct p 0 = 0 := rfl
  rw [bn_s, bn_s, bn_s, bn_s, bn_s, bn_s, bn_s, bn_s, ct_s, ct_s, ct_s, ct_s, ct_s, ct_s, ct_s, ct_s, z1, z2]
  obtain ⟨e0, h0, l0⟩ : ∃ e, (if p 0 = true then 1 else 0) = e ∧ e ≤ 1 := ⟨_, rfl, k2 _⟩
  obtain ⟨e1, h1, l1⟩ : ∃ e, (if p 1 = true then 1 else 0) = e ∧ e ≤ 1 := ⟨_, rfl, k2 _⟩
  obtain ⟨e2, h2, l2⟩ : ∃ e, (if p 2 = true then 1 else 0) = e ∧ e ≤ 1 := ⟨_, rfl, k2 _⟩
  obtain ⟨e3, h3, l3⟩ : ∃ e, (if p 3 = true then 1 else 0) = e ∧ e ≤ 1 := ⟨_, rfl, k2 _⟩
  obtain ⟨e4, h4, l4⟩ : ∃ e, (if p 4 = true then 1 else 0) = e ∧ e ≤ 1 := ⟨_, rfl, k2 _⟩
  obtain ⟨e5, h5, l5⟩ : ∃ e, (if p 5 = true then 1 else 0) = e ∧ e ≤ 1 := ⟨_, rfl, k2 _⟩
  obtain ⟨e6, h6, l6⟩ : ∃ e, (if p 6 = true then 1 else 0) = e ∧ e ≤ 1 := ⟨_, rfl, k2 _⟩
  obtain ⟨e7, h7, l7⟩ : ∃ e, (if p 7 = true then 1 else 0) = e ∧ e ≤ 1 := ⟨_, rfl, k2 _⟩
  rw [h0, h1, h2, h3, h4, h5, h6, h7]
  unfold b8
  omega
/-- the bits of a set of numbers below 24, counted -/
theorem s_bc (d : Nat) (p : Nat → Bool) (h : mh) : Ji_bitCount (d + 1) (bs p 24) h = some (some (vi (nI (ct p 24))), h) := by
  have e : bn p 24 = bn p 8 + 256 * bn (fun i => p (8 + i)) 8 + 65536 * bn (fun i => p (16 + i)) 8 := by
    rw [show 24 = 16 + 8 from rfl, bn_add p 16 8, show 16 = 8 + 8 from rfl, bn_add p 8 8]
  have e2 : ct p 24 = ct p 8 + ct (fun i => p (8 + i)) 8 + ct (fun i => p (16 + i)) 8 := by
    rw [show 24 = 16 + 8 from rfl, ct_add p 16 8, show 16 = 8 + 8 from rfl, ct_add p 8 8]
  rw [bs_bn p 24 (by decide), e, s_bc3 d (bn_lt _ 8) (bn_lt _ 8) (bn_lt _ 8), b8_bn, b8_bn, b8_bn, e2]
theorem s_bc5 (d : Nat) {b : Nat} (hb : b < 32) (h : mh) : Ji_bitCount (d + 1) (nI b) h = some (some (vi (nI (b8 b))), h) := by
  have := s_bc3 d (a := b) (b := 0) (c := 0) (by omega) (by omega) (by omega) h
  have e0 : b8 0 = 0 := rfl
  rw [e0] at this
  simpa using this
/-! ===== sets as bits ===== -/
theorem bs_eta {x : Int32} (hx : ∀ i, 24 ≤ i → i < 32 → bt x i = false) : x = bs (bt x) 24 := by
  apply b_ext
  intro i hi
  rw [bt_bs _ 24 i (by decide) hi]
  by_cases h : i < 24
  · simp [h]
  · simp [h, hx i (by omega) hi]
theorem bs_inj {p q : Nat → Bool} {n : Nat} (hn : n ≤ 32) (h : bs p n = bs q n) : ∀ i, i < n → p i = q i := by
  intro i hi
  have := congrArg (fun x => bt x i) h
  simp only [bt_bs _ n i hn (by omega), hi, decide_true, Bool.true_and] at this
  exact this
theorem bs_and (p q : Nat → Bool) {n : Nat} (hn : n ≤ 32) : bs p n &&& bs q n = bs (fun i => p i && q i) n := by
  apply b_ext
  intro i hi
  rw [b_and, bt_bs _ n i hn hi, bt_bs _ n i hn hi, bt_bs _ n i hn hi]
  cases decide (i < n) <;> simp
theorem b_not (x : Int32) {i : Nat} (hi : i < 32) : bt (x ^^^ (-1)) i = !bt x i := by
  rw [b_xor, b_m1 i hi, Bool.xor_true]
theorem bs_0 : bs (fun _ => false) 24 = nI 0 := by decide +kernel
theorem bs_z {p : Nat → Bool} : (bs p 24 = 0) = (∀ i, i < 24 → p i = false) := by
  apply propext
  rw [show (0 : Int32) = bs (fun _ => false) 24 from by rw [bs_0]; rfl]
  constructor
  · intro h i hi
    exact bs_inj (by decide) h i hi
  · intro h
    exact bs_congr 24 h
theorem bt_bs24 {p : Nat → Bool} {i : Nat} (hi : i < 24) : bt (bs p 24) i = p i := by
  rw [bt_bs p 24 i (by decide) (by omega)]
  simp [hi]
/-- all bits below k -/
theorem bs_low : ∀ k, k < 31 → (nI 1 <<< (nI k &&& 31)) - nI 1 = bs (fun _ => true) k := by decide +kernel
