/-! ===== the class's State: searches, changes, copies ===== -/
/-- the first number from k on of which p doesn't hold, j tried at most -/
def ff (p : Nat → Bool) : Nat → Nat → Nat
  | 0, k => k
  | j + 1, k => if p k = true then ff p j (k + 1) else k
theorem ff_le (p : Nat → Bool) : ∀ j k, k ≤ ff p j k ∧ ff p j k ≤ k + j
  | 0, k => ⟨Nat.le_refl _, Nat.le_refl _⟩
  | j + 1, k => by
    unfold ff
    have := ff_le p j (k + 1)
    split
    · omega
    · omega
theorem ff_f (p : Nat → Bool) : ∀ j k, ff p j k < k + j → p (ff p j k) = false
  | 0, k, h => absurd h (Nat.lt_irrefl _)
  | j + 1, k, h => by
    unfold ff at h ⊢
    by_cases hp : p k = true
    · rw [if_pos hp] at h ⊢
      exact ff_f p j (k + 1) (by omega)
    · rw [if_neg hp]
      cases hq : p k with
      | false => rfl
      | true => exact absurd hq hp
theorem ff_congr {p q : Nat → Bool} : ∀ j k, (∀ i, k ≤ i → i < k + j → p i = q i) → ff p j k = ff q j k
  | 0, _, _ => rfl
  | j + 1, k, h => by
    unfold ff
    rw [h k (Nat.le_refl _) (by omega), ff_congr j (k + 1) (fun i h1 h2 => h i (by omega) (by omega))]
theorem s_St_lowestFree_2 {h : mh} {s : Nat} (A : SA h s) (d : Nat) : ∀ j k, k + j = 24 → St_lowestFree_2 d s (nI k) h = some (some (vi (if ff (kp h s) j k = 24 then -1 else nI (ff (kp h s) j k))), h) := by
  obtain ⟨a1, a2, a3, a4, a5, a6, a7⟩ := A
  intro j
  induction j with
  | zero =>
    intro k hk
    obtain rfl : k = 24 := by omega
    rw [e_St_lowestFree_2]
    simp (disch := omega) only [qadd, qmul, qcl, qle, qlt, qeq, qlt0, q0le, qeq0, qle0, q0lt, bI, bP, bV, bE, bL, if_true, if_false, eq_self, true_or, or_true, false_or, or_false, true_and, and_true, false_and, and_false, qz0, qz1, q00, q01, q10, q11, if_pos, if_neg]
    rfl
  | succ j ih =>
    intro k hk
    rw [e_St_lowestFree_2]
    simp (disch := omega) only [a1, a2, a3, a4, a5, a6, a7, qadd, qmul, qcl, qle, qlt, qeq, qlt0, q0le, qeq0, qle0, q0lt, bI, bP, bV, bE, bL, if_true, if_false, eq_self, true_or, or_true, false_or, or_false, true_and, and_true, false_and, and_false, qz0, qz1, q00, q01, q10, q11, if_pos, if_neg, kp_eq]
    have := ih (k + 1) (by omega)
    unfold ff
    cases hc : kp h s k with
    | false => simp (disch := omega) only [bI, bP, bV, bE, bL, if_true, if_false, eq_self, true_or, or_true, false_or, or_false, true_and, and_true, false_and, and_false, qz0, qz1, q00, q01, q10, q11, if_pos, if_neg, Bool.false_eq_true]
    | true =>
      simp only [bI, bP, bV, bE, bL, if_true, if_false, eq_self, true_or, or_true, false_or, or_false, true_and, and_true, false_and, and_false, qz0, qz1, q00, q01, q10, q11, if_pos, if_neg, Bool.true_eq_false]
      exact this
theorem s_St_lowestFree {h : mh} {s : Nat} (A : SA h s) (d : Nat) : St_lowestFree (d + 1) s h = some (some (vi (if ff (kp h s) 24 0 = 24 then -1 else nI (ff (kp h s) 24 0))), h) := by
  rw [e_St_lowestFree]
  exact s_St_lowestFree_2 A d 24 0 rfl
theorem s_St_store {h : mh} {s : Nat} (A : SA h s) (d : Nat) {k r : Nat} (hk : k < 24) (hr : r = 0 ∨ mK h r = 1) : St_store (d + 1) s (nI k) r h = some (none, msp h (s + 1) k r) := by
  obtain ⟨a1, a2, a3, a4, a5, a6, a7⟩ := A
  rw [e_St_store]
  simp (disch := omega) only [a1, a2, a3, a4, a5, a6, a7, hr, qadd, qmul, qcl, qle, qlt, qeq, qlt0, q0le, qeq0, qle0, q0lt, bI, bP, bV, bE, bL, if_true, if_false, eq_self, true_or, or_true, false_or, or_false, true_and, and_true, false_and, and_false, qz0, qz1, q00, q01, q10, q11, if_pos, if_neg]
theorem s_St_append {h : mh} {s n : Nat} (A : SA h s) (hn : n < 8) (hI : mI h s 2 = nI n) (d : Nat) (x : Int32) : St_append (d + 1) s x h = some (none, msi (msi h (s + 2) n x) s 2 (nI (n + 1))) := by
  obtain ⟨a1, a2, a3, a4, a5, a6, a7⟩ := A
  rw [e_St_append]
  have e : mI (msi h (s + 2) n x) s 2 = nI n := by rw [mI_si, if_neg (by omega), hI]
  simp (disch := omega) only [a1, a2, a3, a4, a5, a6, a7, hI, qadd, qmul, qcl, qle, qlt, qeq, qlt0, q0le, qeq0, qle0, q0lt, bI, bP, bV, bE, bL, if_true, if_false, eq_self, true_or, or_true, false_or, or_false, true_and, and_true, false_and, and_false, qz0, qz1, q00, q01, q10, q11, if_pos, if_neg, mK_si, mN_si, mP_si, mT_si, mU_si, mK_sp, mN_sp, mI_sp, mT_sp, mU_sp, e]
theorem s_St_dropLast {h : mh} {s n : Nat} (A : SA h s) (hn : n < 8) (hI : mI h s 2 = nI (n + 1)) (d : Nat) : St_dropLast (d + 1) s h = some (none, msi h s 2 (nI n)) := by
  obtain ⟨a1, a2, a3, a4, a5, a6, a7⟩ := A
  rw [e_St_dropLast]
  simp (disch := omega) only [a1, a2, a3, a4, a5, a6, a7, hI, qsub, qadd, qmul, qcl, qle, qlt, qeq, qlt0, q0le, qeq0, qle0, q0lt, bI, bP, bV, bE, bL, if_true, if_false, eq_self, true_or, or_true, false_or, or_false, true_and, and_true, false_and, and_false, qz0, qz1, q00, q01, q10, q11, if_pos, if_neg, mK_si, mN_si, mP_si, mT_si, mU_si, mK_sp, mN_sp, mI_sp, mT_sp, mU_sp]
  rfl
/-- n features of a row laid into a state: behind the state's own n -/
def lyf (h : mh) (s : Nat) (f : Nat → Int32) (n : Nat) : mh := (fun a i => if a = s + 2 ∧ i < n then f i else if a = s ∧ i = 2 then nI n else h.1 a i, h.2)
theorem lyf_0 (h : mh) (s : Nat) (f : Nat → Int32) : msi h s 2 (nI 0) = lyf h s f 0 := by
  unfold msi lyf
  congr 1
  funext a i
  rw [if_neg (show ¬ (a = s + 2 ∧ i < 0) by omega)]
theorem lyf_s (h : mh) (s : Nat) (f : Nat → Int32) (n : Nat) : msi (msi (lyf h s f n) (s + 2) n (f n)) s 2 (nI (n + 1)) = lyf h s f (n + 1) := by
  unfold msi lyf
  congr 1
  funext a i
  dsimp only
  by_cases h1 : a = s
  · subst h1
    by_cases h2 : i = 2
    · subst h2
      rw [if_pos ⟨rfl, rfl⟩, if_neg (by omega), if_pos ⟨rfl, rfl⟩]
    · rw [if_neg (by omega), if_neg (by omega), if_neg (by omega), if_neg (by omega), if_neg (by omega), if_neg (by omega)]
  · rw [if_neg (by omega)]
    by_cases h2 : a = s + 2
    · subst h2
      by_cases h3 : i = n
      · subst h3
        rw [if_pos ⟨rfl, rfl⟩, if_pos (by omega)]
      · rw [if_neg (by omega)]
        by_cases h4 : i < n
        · rw [if_pos ⟨rfl, h4⟩, if_pos (by omega)]
        · rw [if_neg (by omega), if_neg (by omega), if_neg (by omega), if_neg (by omega)]
    · rw [if_neg (by omega), if_neg (by omega), if_neg (by omega), if_neg (by omega), if_neg (by omega)]
theorem lyf_I {h : mh} {s n a i : Nat} {f : Nat → Int32} : mI (lyf h s f n) a i = if a = s + 2 ∧ i < n then f i else if a = s ∧ i = 2 then nI n else mI h a i := rfl
theorem lyf_2 {h : mh} {s n : Nat} {f : Nat → Int32} : mI (lyf h s f n) s 2 = nI n := by rw [lyf_I, if_neg (by omega), if_pos ⟨rfl, rfl⟩]
theorem SA.lyf {h : mh} {s t n : Nat} {f : Nat → Int32} (A : SA h s) : SA (lyf h t f n) s := A
theorem s_St_layAll_5 {h : mh} {s r n : Nat} (A : SA h s) (hr : mK h r = 21) (hN : mN h r = 8) (hn : n ≤ 8) (hd1 : r ≠ s) (hd2 : r ≠ s + 2) (d : Nat) : ∀ j k, k + j = n → St_layAll_5 (d + 1) s r (nI n) (nI k) (lyf h s (mI h r) k) = some (none, lyf h s (mI h r) n) := by
  intro j
  induction j with
  | zero =>
    intro k hk
    obtain rfl : k = n := by omega
    rw [e_St_layAll_5]
    simp (disch := omega) only [qadd, qmul, qcl, qle, qlt, qeq, qlt0, q0le, qeq0, qle0, q0lt, bI, bP, bV, bE, bL, if_true, if_false, eq_self, true_or, or_true, false_or, or_false, true_and, and_true, false_and, and_false, qz0, qz1, q00, q01, q10, q11, if_pos, if_neg]
  | succ j ih =>
    intro k hk
    rw [e_St_layAll_5]
    have e1 : mK (lyf h s (mI h r) k) r = 21 := hr
    have e2 : mN (lyf h s (mI h r) k) r = 8 := hN
    have e3 : mK (lyf h s (mI h r) k) s = 8 := A.1
    have e4 : mI (lyf h s (mI h r) k) r k = mI h r k := by rw [lyf_I, if_neg (by omega), if_neg (by omega)]
    simp (disch := omega) only [e1, e2, e3, e4, qadd, qmul, qcl, qle, qlt, qeq, qlt0, q0le, qeq0, qle0, q0lt, bI, bP, bV, bE, bL, if_true, if_false, eq_self, true_or, or_true, false_or, or_false, true_and, and_true, false_and, and_false, qz0, qz1, q00, q01, q10, q11, if_pos, if_neg, s_St_append A.lyf (show k < 8 by omega) lyf_2, lyf_s]
    exact ih (k + 1) (by omega)
theorem s_St_layAll {h : mh} {s r n : Nat} (A : SA h s) (hr : mK h r = 21) (hN : mN h r = 8) (hn : n ≤ 8) (hd1 : r ≠ s) (hd2 : r ≠ s + 2) (d : Nat) : St_layAll (d + 2) s r (nI n) h = some (none, lyf h s (mI h r) n) := by
  rw [e_St_layAll, if_pos A.1, bE, lyf_0 h s (mI h r)]
  exact s_St_layAll_5 A hr hN hn hd1 hd2 d n 0 (Nat.zero_add _)
/-- the first k clauses of a state taken over from another one -/
def cpy (h : mh) (s r k : Nat) : mh := (h.1, fun a i => if a = s + 1 ∧ i < k then h.2.1 (r + 1) i else h.2.1 a i, h.2.2)
theorem cpy_0 (h : mh) (s r : Nat) : cpy h s r 0 = h := by
  unfold cpy
  have : (fun a i => if a = s + 1 ∧ i < 0 then h.2.1 (r + 1) i else h.2.1 a i) = h.2.1 := by
    funext a i
    rw [if_neg (by omega)]
  rw [this]
theorem cpy_s (h : mh) (s r k : Nat) : msp (cpy h s r k) (s + 1) k (mP h (r + 1) k) = cpy h s r (k + 1) := by
  unfold msp cpy mP
  congr 1
  congr 1
  funext a i
  dsimp only
  by_cases h1 : a = s + 1
  · subst h1
    by_cases h2 : i = k
    · subst h2
      rw [if_pos ⟨rfl, rfl⟩, if_pos (by omega)]
    · rw [if_neg (by omega)]
      by_cases h3 : i < k
      · rw [if_pos ⟨rfl, h3⟩, if_pos (by omega)]
      · rw [if_neg (by omega), if_neg (by omega)]
  · rw [if_neg (by omega), if_neg (by omega), if_neg (by omega)]
theorem cpy_P {h : mh} {s r k a i : Nat} : mP (cpy h s r k) a i = if a = s + 1 ∧ i < k then mP h (r + 1) i else mP h a i := rfl
theorem SA.cpy {h : mh} {s t r k : Nat} (A : SA h s) (h1 : s ≠ t + 1) : SA (cpy h t r k) s := by
  obtain ⟨a1, a2, a3, a4, a5, a6, a7⟩ := A
  exact ⟨a1, by rw [cpy_P, if_neg (by omega)]; exact a2, by rw [cpy_P, if_neg (by omega)]; exact a3, a4, a5, a6, a7⟩
theorem s_St_copy_2 {h : mh} {s r : Nat} (A : SA h s) (B : SA h r) (h1 : s + 2 < r ∨ r + 2 < s) (hk : ∀ k, k < 24 → mP h (r + 1) k = 0 ∨ mK h (mP h (r + 1) k) = 1) (d : Nat) : ∀ j k, k + j = 24 → St_copy_2 (d + 1) s r (nI k) (cpy h s r k) = St_copy_19 (d + 1) s r (nI 0) (msi (cpy h s r 24) s 2 (nI 0)) := by
  intro j
  induction j with
  | zero =>
    intro k hk
    obtain rfl : k = 24 := by omega
    rw [e_St_copy_2]
    have e3 : mK (cpy h s r 24) s = 8 := A.1
    simp (disch := omega) only [e3, qadd, qmul, qcl, qle, qlt, qeq, qlt0, q0le, qeq0, qle0, q0lt, bI, bP, bV, bE, bL, if_true, if_false, eq_self, true_or, or_true, false_or, or_false, true_and, and_true, false_and, and_false, qz0, qz1, q00, q01, q10, q11, if_pos, if_neg]
  | succ j ih =>
    intro k hj
    have A' := A.cpy (t := s) (r := r) (k := k) (by omega)
    have B' := B.cpy (t := s) (r := r) (k := k) (by omega)
    have e5 : mP (cpy h s r k) (r + 1) k = mP h (r + 1) k := by rw [cpy_P, if_neg (by omega)]
    have e6 : mP h (r + 1) k = 0 ∨ mK (cpy h s r k) (mP h (r + 1) k) = 1 := hk k (by omega)
    rw [e_St_copy_2]
    simp (disch := omega) only [A'.1, B'.1, A'.2.1, A'.2.2.2.1, A'.2.2.2.2.1, s_St_clause B' d (show k < 24 by omega), e5, e6, qadd, qmul, qcl, qle, qlt, qeq, qlt0, q0le, qeq0, qle0, q0lt, bI, bP, bV, bE, bL, if_true, if_false, eq_self, true_or, or_true, false_or, or_false, true_and, and_true, false_and, and_false, qz0, qz1, q00, q01, q10, q11, if_pos, if_neg, cpy_s]
    exact ih (k + 1) (by omega)
theorem s_St_copy_19 {h : mh} {s r n : Nat} (A : SA h s) (B : SA h r) (h1 : s + 2 < r ∨ r + 2 < s) (hn : n ≤ 8) (hI : mI h r 2 = nI n) (d : Nat) : ∀ j k, k + j = n → St_copy_19 (d + 1) s r (nI k) (lyf h s (mI h (r + 2)) k) = some (none, lyf h s (mI h (r + 2)) n) := by
  intro j
  induction j with
  | zero =>
    intro k hk
    obtain rfl : k = n := by omega
    rw [e_St_copy_19]
    have e3 : mK (lyf h s (mI h (r + 2)) k) r = 8 := B.1
    have e4 : mI (lyf h s (mI h (r + 2)) k) r 2 = nI k := by rw [lyf_I, if_neg (by omega), if_neg (by omega), hI]
    simp (disch := omega) only [e3, s_St_laid B.lyf, e4, qadd, qmul, qcl, qle, qlt, qeq, qlt0, q0le, qeq0, qle0, q0lt, bI, bP, bV, bE, bL, if_true, if_false, eq_self, true_or, or_true, false_or, or_false, true_and, and_true, false_and, and_false, qz0, qz1, q00, q01, q10, q11, if_pos, if_neg]
  | succ j ih =>
    intro k hk
    rw [e_St_copy_19]
    have e3 : mK (lyf h s (mI h (r + 2)) k) r = 8 := B.1
    have e3' : mK (lyf h s (mI h (r + 2)) k) s = 8 := A.1
    have e4 : mI (lyf h s (mI h (r + 2)) k) r 2 = nI n := by rw [lyf_I, if_neg (by omega), if_neg (by omega), hI]
    have e5 : mI (lyf h s (mI h (r + 2)) k) (r + 2) k = mI h (r + 2) k := by rw [lyf_I, if_neg (by omega), if_neg (by omega)]
    simp (disch := omega) only [e3, e3', s_St_laid B.lyf, e4, s_St_featureAt B.lyf hn e4 d (show k < n by omega), e5, s_St_append A.lyf (show k < 8 by omega) lyf_2, lyf_s, qadd, qmul, qcl, qle, qlt, qeq, qlt0, q0le, qeq0, qle0, q0lt, bI, bP, bV, bE, bL, if_true, if_false, eq_self, true_or, or_true, false_or, or_false, true_and, and_true, false_and, and_false, qz0, qz1, q00, q01, q10, q11, if_pos, if_neg]
    exact ih (k + 1) (by omega)
theorem s_St_copy {h : mh} {s r n : Nat} (A : SA h s) (B : SA h r) (h1 : s + 2 < r ∨ r + 2 < s) (hk : ∀ k, k < 24 → mP h (r + 1) k = 0 ∨ mK h (mP h (r + 1) k) = 1) (hn : n ≤ 8) (hI : mI h r 2 = nI n) (d : Nat) : St_copy (d + 2) s r h = some (none, lyf (cpy h s r 24) s (mI h (r + 2)) n) := by
  rw [e_St_copy]
  have := s_St_copy_2 A B h1 hk d 24 0 rfl
  rw [cpy_0] at this
  rw [this, lyf_0 (cpy h s r 24) s (mI h (r + 2))]
  exact s_St_copy_19 (h := cpy h s r 24) (A.cpy (by omega)) (B.cpy (by omega)) h1 hn hI d n 0 (Nat.zero_add _)
