/-! ===== truth values, loops, arguments ===== -/
-- the head of an equation's right side, step by step
theorem hE {h : mh} {f : mh → Option mR} {r : Option mR} (k : f h = r) : mle h f = r := k
theorem hLi {x : Int32} {f : Int32 → Option mR} {r : Option mR} (k : f x = r) : mli x f = r := k
theorem hT {c : Prop} [Decidable c] {A B r : Option mR} (p : c) (k : A = r) : (if c then A else B) = r := by rw [if_pos p]; exact k
theorem hF {c : Prop} [Decidable c] {A B r : Option mR} (p : ¬ c) (k : B = r) : (if c then A else B) = r := by rw [if_neg p]; exact k
theorem hI {o : Option mR} {x : Int32} {h : mh} {f : Int32 → mh → Option mR} {r : Option mR} (e : o = some (some (vi x), h)) (k : f x h = r) : mbI o f = r := by rw [e]; exact k
theorem hP {o : Option mR} {x : Nat} {h : mh} {f : Nat → mh → Option mR} {r : Option mR} (e : o = some (some (vr x), h)) (k : f x h = r) : mbP o f = r := by rw [e]; exact k
theorem hV {o : Option mR} {h : mh} {f : mh → Option mR} {r : Option mR} (e : o = some (none, h)) (k : f h = r) : mbV o f = r := by rw [e]; exact k
def zb : Bool → Int32
  | true => nI 1
  | false => nI 0
theorem zb_0 {p : Bool} : (zb p = 0) = (p = false) := by cases p <;> simp [zb, q00, q10]
theorem zb_1 {p : Bool} : (zb p = 1) = (p = true) := by cases p <;> simp [zb, q01, q11]
theorem zb_z {p : Bool} : (zb p = 0 ∨ zb p = 1) = True := by rw [zb_0, zb_1]; cases p <;> simp
theorem zor {p : Bool} : (p = false ∨ p = true) = True := by cases p <;> simp
theorem zb_t : zb true = nI 1 := rfl
theorem zb_f : zb false = nI 0 := rfl
theorem zb_or {p q : Bool} : zb p ||| zb q = zb (p || q) := by cases p <;> cases q <;> decide +kernel
theorem zb_and {p q : Bool} : zb p &&& zb q = zb (p && q) := by cases p <;> cases q <;> decide +kernel
theorem lpq {σ : Type} (n : Nat) (F : Nat → σ → Option mR) (P : Nat → σ → Prop) (Q : Option mR → Prop) (st : ∀ k s, k < n → P k s → Q (F k s) ∨ ∃ s', P (k + 1) s' ∧ F k s = F (k + 1) s') (fin : ∀ s, P n s → Q (F n s)) : ∀ k s, k ≤ n → P k s → Q (F k s) := by
  have : ∀ j k s, k + j = n → P k s → Q (F k s) := by
    intro j
    induction j with
    | zero =>
      intro k s hk hp
      obtain rfl : k = n := by omega
      exact fin s hp
    | succ j ih =>
      intro k s hk hp
      rcases st k s (by omega) hp with q | ⟨s', hp', e⟩
      · exact q
      · rw [e]
        exact ih (k + 1) s' (by omega) hp'
  intro k s hk hp
  exact this (n - k) k s (by omega) hp
theorem qin (x : Int32) (n : Nat) (hn : n < 2147483647) : (∃ j, j ≤ n ∧ x = nI j) ∨ (¬ (0 ≤ x.toInt ∧ x.toInt ≤ (n : Int)) ∧ (x < 0 ∨ nI (n + 1) ≤ x)) := by
  rcases qix x (n := n + 1) (by omega) with h | h | ⟨j, h1, h2⟩
  · refine Or.inr ⟨?_, Or.inl h⟩
    rw [Int32.lt_iff_toInt_lt] at h
    have : (0 : Int32).toInt = 0 := by decide +kernel
    omega
  · refine Or.inr ⟨?_, Or.inr h⟩
    rw [Int32.le_iff_toInt_le, nI_toInt (by omega)] at h
    omega
  · exact Or.inl ⟨j, by omega, h2⟩
theorem s_win (d : Nat) (x : Int32) (a b : Int64) (h : mh) : N_within (d + 1) x.toInt64 a b h = some (some (vi (zb (decide (a.toInt ≤ x.toInt ∧ x.toInt ≤ b.toInt)))), h) := by
  rw [s_within]
  by_cases hp : a.toInt ≤ x.toInt ∧ x.toInt ≤ b.toInt
  · rw [if_pos (by rw [w64]; exact hp), decide_eq_true hp]; rfl
  · rw [if_neg (by rw [w64]; exact hp), decide_eq_false hp]; rfl
theorem t64_1 : (1 : Int64).toInt = 1 := by decide +kernel
theorem t64_2 : (2 : Int64).toInt = 2 := by decide +kernel
theorem t64_3 : (3 : Int64).toInt = 3 := by decide +kernel
theorem t64_5 : (5 : Int64).toInt = 5 := by decide +kernel
theorem t64_8 : (8 : Int64).toInt = 8 := by decide +kernel
theorem t64_10 : (10 : Int64).toInt = 10 := by decide +kernel
theorem t64_20 : (20 : Int64).toInt = 20 := by decide +kernel
theorem t64_25 : (25 : Int64).toInt = 25 := by decide +kernel
theorem t64_39 : (39 : Int64).toInt = 39 := by decide +kernel
theorem t64_x (x : Int32) : x.toInt64.toInt = x.toInt := Int32.toInt_toInt64 x
theorem qsub1 {n : Nat} (hn : n < 2147483648) : (nI n - nI 1).toInt = (n : Int) - 1 := by
  rcases n with _ | n
  · decide +kernel
  · rw [qsub (by omega), nI_toInt (by omega)]
    omega
theorem qmode (x : Int32) : x = nI 0 ∨ x = nI 1 ∨ (x ≠ 0 ∧ x ≠ nI 1 ∧ ¬ (0 ≤ x.toInt ∧ x.toInt ≤ 1)) := by
  rcases qin x 1 (by decide) with ⟨j, h1, h2⟩ | ⟨h1, h2⟩
  · rcases (show j = 0 ∨ j = 1 by omega) with rfl | rfl
    · exact Or.inl h2
    · exact Or.inr (Or.inl h2)
  · refine Or.inr (Or.inr ⟨?_, ?_, h1⟩)
    · rintro rfl
      exact h1 (by decide +kernel)
    · rintro rfl
      exact h1 (by decide +kernel)
theorem q02 : (nI 0 : Int32) = 0 := nI_0
theorem s_C_isMode (d : Nat) {m : Nat} (hm : m < 2) (h : mh) : C_isMode (d + 1) (nI m) h = some (some (vi (nI 1)), h) := by
  rcases (show m = 0 ∨ m = 1 by omega) with rfl | rfl <;> rw [e_C_isMode] <;> simp [q00, q10, q11]
theorem s_C_isModeN (d : Nat) {x : Int32} (h1 : x ≠ 0) (h2 : x ≠ nI 1) (h : mh) : C_isMode (d + 1) x h = some (some (vi (nI 0)), h) := by
  rw [e_C_isMode, if_neg h1, if_neg h2]; simp [q00]
theorem s_C_isWay (d : Nat) {m : Nat} (hm : m < 2) (h : mh) : C_isWay (d + 1) (nI m) h = some (some (vi (nI 1)), h) := by
  rcases (show m = 0 ∨ m = 1 by omega) with rfl | rfl <;> rw [e_C_isWay] <;> simp [q00, q10, q11]
theorem s_C_isWayN (d : Nat) {x : Int32} (h1 : x ≠ 0) (h2 : x ≠ nI 1) (h : mh) : C_isWay (d + 1) x h = some (some (vi (nI 0)), h) := by
  rw [e_C_isWay, if_neg h1, if_neg h2]; simp [q00]
theorem s_N_isMode (d : Nat) {m : Nat} (hm : m < 2) (h : mh) : N_isMode (d + 2) (nI m) h = some (some (vi (nI 1)), h) := by
  rw [e_N_isMode, s_win, bI, if_pos (by rw [zb_z]; trivial), t64_0, t64_1, nI_toInt (by omega), decide_eq_true (by omega)]
  rfl
theorem s_N_isModeN (d : Nat) {x : Int32} (hx : ¬ (0 ≤ x.toInt ∧ x.toInt ≤ 1)) (h : mh) : N_isMode (d + 2) x h = some (some (vi (nI 0)), h) := by
  rw [e_N_isMode, s_win, bI, if_pos (by rw [zb_z]; trivial), t64_0, t64_1, decide_eq_false hx]
  rfl
theorem s_C_isFeature (d : Nat) {f : Nat} (hf : f < 40) (h : mh) : C_isFeature (d + 1) (nI f) h = some (some (vi (nI 1)), h) := by
  rw [e_C_isFeature]
  simp (disch := omega) only [qadd, qmul, qcl, qle, qlt, qeq, qlt0, q0le, qeq0, qle0, q0lt, bI, bP, bV, bE, bL, if_true, if_false, eq_self, true_or, or_true, false_or, or_false, true_and, and_true, false_and, and_false, qz0, qz1, q00, q01, q10, q11, if_pos, if_neg]
theorem s_C_isFeatureN (d : Nat) {x : Int32} (hx : x < 0 ∨ nI 40 ≤ x) (h : mh) : C_isFeature (d + 1) x h = some (some (vi (nI 0)), h) := by
  rw [e_C_isFeature]
  by_cases h0 : x < 0
  · simp only [h0, bI, bP, bV, bE, bL, if_true, if_false, eq_self, true_or, or_true, false_or, or_false, true_and, and_true, false_and, and_false, qz0, qz1, q00, q01, q10, q11, if_pos, if_neg]
  · have := hx.resolve_left h0
    simp only [h0, this, bI, bP, bV, bE, bL, if_true, if_false, eq_self, true_or, or_true, false_or, or_false, true_and, and_true, false_and, and_false, qz0, qz1, q00, q01, q10, q11, if_pos, if_neg]
theorem s_N_isFeature (d : Nat) {f : Nat} (hf : f < 40) (h : mh) : N_isFeature (d + 2) (nI f) h = some (some (vi (nI 1)), h) := by
  rw [e_N_isFeature, s_win, bI, if_pos (by rw [zb_z]; trivial), t64_0, t64_39, nI_toInt (by omega), decide_eq_true (by omega)]
  rfl
theorem s_N_isFeatureN (d : Nat) {x : Int32} (hx : ¬ (0 ≤ x.toInt ∧ x.toInt ≤ 39)) (h : mh) : N_isFeature (d + 2) x h = some (some (vi (nI 0)), h) := by
  rw [e_N_isFeature, s_win, bI, if_pos (by rw [zb_z]; trivial), t64_0, t64_39, decide_eq_false hx]
  rfl
/-- variables are the codes 20 to 25 -/
def iv (c : Nat) : Bool := Nat.ble 20 c && Nat.blt c 26
theorem iv_t {c : Nat} : (iv c = true) = (20 ≤ c ∧ c < 26) := by
  unfold iv
  rw [Bool.and_eq_true]
  exact propext ⟨fun ⟨a, b⟩ => ⟨Nat.le_of_ble_eq_true a, Nat.le_of_ble_eq_true b⟩, fun ⟨a, b⟩ => ⟨Nat.ble_eq_true_of_le a, Nat.ble_eq_true_of_le b⟩⟩
theorem iv_f {c : Nat} : (iv c = false) = ¬ (20 ≤ c ∧ c < 26) := by
  rw [← iv_t]
  cases iv c <;> simp
theorem s_C_isVariable (d : Nat) {c : Nat} (hc : c < 1000) (h : mh) : C_isVariable (d + 1) (nI c) h = some (some (vi (zb (iv c))), h) := by
  rw [e_C_isVariable]
  cases hv : iv c with
  | true =>
    rw [iv_t] at hv
    simp (disch := omega) only [qadd, qmul, qcl, qle, qlt, qeq, qlt0, q0le, qeq0, qle0, q0lt, bI, bP, bV, bE, bL, if_true, if_false, eq_self, true_or, or_true, false_or, or_false, true_and, and_true, false_and, and_false, qz0, qz1, q00, q01, q10, q11, if_pos, if_neg, zb]
  | false =>
    rw [iv_f] at hv
    by_cases h1 : c < 20
    · simp (disch := omega) only [qadd, qmul, qcl, qle, qlt, qeq, qlt0, q0le, qeq0, qle0, q0lt, bI, bP, bV, bE, bL, if_true, if_false, eq_self, true_or, or_true, false_or, or_false, true_and, and_true, false_and, and_false, qz0, qz1, q00, q01, q10, q11, if_pos, if_neg, zb]
    · simp (disch := omega) only [qadd, qmul, qcl, qle, qlt, qeq, qlt0, q0le, qeq0, qle0, q0lt, bI, bP, bV, bE, bL, if_true, if_false, eq_self, true_or, or_true, false_or, or_false, true_and, and_true, false_and, and_false, qz0, qz1, q00, q01, q10, q11, if_pos, if_neg, zb]
theorem s_N_isVariable (d : Nat) {c : Nat} (hc : c < 1000) (h : mh) : N_isVariable (d + 2) (nI c) h = some (some (vi (zb (iv c))), h) := by
  rw [e_N_isVariable, s_win, bI, if_pos (by rw [zb_z]; trivial), t64_20, t64_25, nI_toInt (by omega)]
  congr 3
  cases hv : iv c with
  | true =>
    rw [iv_t] at hv
    rw [decide_eq_true (by omega)]
  | false =>
    rw [iv_f] at hv
    rw [decide_eq_false (by omega)]
theorem s_C_termsBehind (d : Nat) {c : Nat} (hc : c < 100) (h : mh) : C_termsBehind (d + 1) (nI c) h = some (some (vi (nI (ar c))), h) := by
  rw [e_C_termsBehind]
  unfold ar
  by_cases h1 : c < 3
  · rcases (show c = 0 ∨ c = 1 ∨ c = 2 by omega) with rfl | rfl | rfl <;> simp (disch := omega) only [qadd, qmul, qcl, qle, qlt, qeq, qlt0, q0le, qeq0, qle0, q0lt, bI, bP, bV, bE, bL, if_true, if_false, eq_self, true_or, or_true, false_or, or_false, true_and, and_true, false_and, and_false, qz0, qz1, q00, q01, q10, q11, if_pos, if_neg] <;> simp
  · simp (disch := omega) only [qadd, qmul, qcl, qle, qlt, qeq, qlt0, q0le, qeq0, qle0, q0lt, bI, bP, bV, bE, bL, if_true, if_false, eq_self, true_or, or_true, false_or, or_false, true_and, and_true, false_and, and_false, qz0, qz1, q00, q01, q10, q11, if_pos, if_neg]
theorem s_C_termsBehind1 (d : Nat) {c : Nat} (hc : 100 ≤ c) (hc2 : c < 1000) (h : mh) : C_termsBehind (d + 1) (nI c) h = some (some (vi (nI 0)), h) := by
  rw [e_C_termsBehind]
  simp (disch := omega) only [qadd, qmul, qcl, qle, qlt, qeq, qlt0, q0le, qeq0, qle0, q0lt, bI, bP, bV, bE, bL, if_true, if_false, eq_self, true_or, or_true, false_or, or_false, true_and, and_true, false_and, and_false, qz0, qz1, q00, q01, q10, q11, if_pos, if_neg]
/-- a value by a mode -/
def bm (f v m : Nat) : Nat := if m = 0 ∧ f < 24 ∧ 1 < v then 1 else v
theorem s_C_byMode (d : Nat) {f v m : Nat} (hf : f < 40) (hv : v < 100000) (hm : m < 2) (h : mh) : C_byMode (d + 1) (nI f) (nI v) (nI m) h = some (some (vi (nI (bm f v m))), h) := by
  rw [e_C_byMode]
  unfold bm
  by_cases h1 : m = 0 <;> by_cases h2 : f < 24 <;> by_cases h3 : 1 < v <;> simp (disch := omega) only [qadd, qmul, qcl, qle, qlt, qeq, qlt0, q0le, qeq0, qle0, q0lt, bI, bP, bV, bE, bL, if_true, if_false, eq_self, true_or, or_true, false_or, or_false, true_and, and_true, false_and, and_false, qz0, qz1, q00, q01, q10, q11, if_pos, if_neg, h1, h2, h3]
theorem s_N_byMode (d : Nat) {f v m : Nat} (hf : f < 40) (hv : v < 100000) (hm : m < 2) (h : mh) : N_byMode (d + 1) (nI v) (nI f) (nI m) h = some (some (vi (nI (bm f v m))), h) := by
  rw [e_N_byMode]
  unfold bm
  by_cases h1 : m = 0 <;> by_cases h2 : f < 24 <;> by_cases h3 : 1 < v <;> simp (disch := omega) only [qadd, qmul, qcl, qle, qlt, qeq, qlt0, q0le, qeq0, qle0, q0lt, bI, bP, bV, bE, bL, if_true, if_false, eq_self, true_or, or_true, false_or, or_false, true_and, and_true, false_and, and_false, qz0, qz1, q00, q01, q10, q11, if_pos, if_neg, h1, h2, h3]
theorem s_max (d : Nat) {a b : Nat} (ha : a < 2147483648) (hb : b < 2147483648) (h : mh) : Jm_max (d + 1) (nI a) (nI b) h = some (some (vi (nI (max a b))), h) := by
  rw [e_Jm_max]
  by_cases h1 : a < b
  · simp (disch := omega) only [qadd, qmul, qcl, qle, qlt, qeq, qlt0, q0le, qeq0, qle0, q0lt, bI, bP, bV, bE, bL, if_true, if_false, eq_self, true_or, or_true, false_or, or_false, true_and, and_true, false_and, and_false, qz0, qz1, q00, q01, q10, q11, if_pos, if_neg]
    rw [Nat.max_eq_right (by omega)]
  · simp (disch := omega) only [qadd, qmul, qcl, qle, qlt, qeq, qlt0, q0le, qeq0, qle0, q0lt, bI, bP, bV, bE, bL, if_true, if_false, eq_self, true_or, or_true, false_or, or_false, true_and, and_true, false_and, and_false, qz0, qz1, q00, q01, q10, q11, if_pos, if_neg]
    rw [Nat.max_eq_left (by omega)]
theorem s_min (d : Nat) {a b : Nat} (ha : a < 2147483648) (hb : b < 2147483648) (h : mh) : Jm_min (d + 1) (nI a) (nI b) h = some (some (vi (nI (min a b))), h) := by
  rw [e_Jm_min]
  by_cases h1 : b < a
  · simp (disch := omega) only [qadd, qmul, qcl, qle, qlt, qeq, qlt0, q0le, qeq0, qle0, q0lt, bI, bP, bV, bE, bL, if_true, if_false, eq_self, true_or, or_true, false_or, or_false, true_and, and_true, false_and, and_false, qz0, qz1, q00, q01, q10, q11, if_pos, if_neg]
    rw [Nat.min_eq_right (by omega)]
  · simp (disch := omega) only [qadd, qmul, qcl, qle, qlt, qeq, qlt0, q0le, qeq0, qle0, q0lt, bI, bP, bV, bE, bL, if_true, if_false, eq_self, true_or, or_true, false_or, or_false, true_and, and_true, false_and, and_false, qz0, qz1, q00, q01, q10, q11, if_pos, if_neg]
    rw [Nat.min_eq_left (by omega)]
