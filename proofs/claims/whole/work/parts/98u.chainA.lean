/-! ===== chains: pure ===== -/
def mx (F : Nat → Nat) : Nat → Nat
  | 0 => 0
  | n + 1 => max (mx F n) (F n)
theorem mx_ge {F : Nat → Nat} : ∀ n b, b < n → F b ≤ mx F n
  | 0, b, h => absurd h (Nat.not_lt_zero _)
  | n + 1, b, h => by
    by_cases z : b = n
    · subst z
      exact Nat.le_max_right _ _
    · exact Nat.le_trans (mx_ge n b (by omega)) (Nat.le_max_left _ _)
theorem mx_le {F : Nat → Nat} {x : Nat} : ∀ n, (∀ b, b < n → F b ≤ x) → mx F n ≤ x
  | 0, _ => Nat.zero_le _
  | n + 1, h => Nat.max_le.mpr ⟨mx_le n (fun b hb => h b (by omega)), h n (Nat.lt_succ_self _)⟩
theorem mx_at {F : Nat → Nat} : ∀ n, 0 < mx F n → ∃ b, b < n ∧ F b = mx F n
  | 0, h => absurd h (Nat.not_lt_zero _)
  | n + 1, h => by
    by_cases z : mx F n ≤ F n
    · exact ⟨n, Nat.lt_succ_self _, (Nat.max_eq_right z).symm⟩
    · have e : mx F (n + 1) = mx F n := Nat.max_eq_left (by omega)
      rw [e] at h ⊢
      obtain ⟨b, h1, h2⟩ := mx_at n h
      exact ⟨b, by omega, h2⟩
theorem mx_congr {F G : Nat → Nat} : ∀ n, (∀ b, b < n → F b = G b) → mx F n = mx G n
  | 0, _ => rfl
  | n + 1, h => by
    show max (mx F n) (F n) = max (mx G n) (G n)
    rw [mx_congr n (fun b hb => h b (by omega)), h n (Nat.lt_succ_self _)]
/-- an order on the numbers below 24 -/
def OR (M : Nat → Nat → Bool) : Prop := (∀ a, M a a = false) ∧ ∀ a b c, a < 24 → b < 24 → c < 24 → M a b = true → M b c = true → M a c = true
def rkd (M : Nat → Nat → Bool) (a : Nat) : Nat := ct (M a) 24
/-- the largest of the values of those that p tells -/
def mp (p : Nat → Bool) (l : Nat → Nat) : Nat := mx (fun b => if p b = true then l b else 0) 24
theorem mp_ge {p : Nat → Bool} {l : Nat → Nat} {b : Nat} (hb : b < 24) (h : p b = true) : l b ≤ mp p l := by
  have := mx_ge (F := fun b => if p b = true then l b else 0) 24 b hb
  rw [if_pos h] at this
  exact this
theorem mp_at {p : Nat → Bool} {l : Nat → Nat} (h : 0 < mp p l) : ∃ b, b < 24 ∧ p b = true ∧ l b = mp p l := by
  obtain ⟨b, h1, h2⟩ := mx_at 24 h
  by_cases z : p b = true
  · rw [if_pos z] at h2
    exact ⟨b, h1, z, h2⟩
  · rw [if_neg z] at h2
    have : mx (fun b => if p b = true then l b else 0) 24 = mp p l := rfl
    omega
theorem mp_le {p : Nat → Bool} {l : Nat → Nat} {x : Nat} (h : ∀ b, b < 24 → p b = true → l b ≤ x) : mp p l ≤ x := by
  refine mx_le 24 (fun b hb => ?_)
  show (if p b = true then l b else 0) ≤ x
  split
  · rename_i z
    exact h b hb z
  · exact Nat.zero_le _
def lc (M : Nat → Nat → Bool) : Nat → Nat → Nat
  | 0, _ => 1
  | n + 1, a => 1 + mp (M a) (lc M n)
/-- how long the longest chain from a on is -/
def Ls (M : Nat → Nat → Bool) (a : Nat) : Nat := lc M 23 a
section
variable {M : Nat → Nat → Bool}
theorem rkd_lt (o : OR M) {a b : Nat} (ha : a < 24) (hb : b < 24) (h : M a b = true) : rkd M b < rkd M a := by
  unfold rkd
  rw [ct_rm h 24 hb]
  refine Nat.lt_succ_of_le (ct_mono 24 (fun c hc hM => ?_))
  show (M a c && !(Nat.beq c b)) = true
  rw [o.2 a b c ha hb hc h hM, Bool.true_and]
  cases hq : Nat.beq c b with
  | false => rfl
  | true =>
    have := Nat.eq_of_beq_eq_true hq
    subst this
    rw [o.1] at hM
    cases hM
theorem rkd_le (o : OR M) {a : Nat} (ha : a < 24) : rkd M a ≤ 23 := by
  unfold rkd
  have h1 : ct (fun _ => true) 24 = ct (fun u => true && !(Nat.beq u a)) 24 + 1 := ct_rm (Q := fun _ => true) (j := a) rfl 24 ha
  have h2 : ct (fun _ => true) 24 = 24 := ct_all 24 (fun _ _ => rfl)
  have h3 : ct (M a) 24 ≤ ct (fun u => true && !(Nat.beq u a)) 24 := ct_mono 24 (fun c hc hM => by
    show (true && !(Nat.beq c a)) = true
    rw [Bool.true_and]
    cases hq : Nat.beq c a with
    | false => rfl
    | true =>
      have := Nat.eq_of_beq_eq_true hq
      subst this
      rw [o.1] at hM
      cases hM)
  omega
theorem lc_st (o : OR M) : ∀ n a, a < 24 → rkd M a ≤ n → lc M n a = lc M (n + 1) a
  | 0, a, ha, h => by
    have h0 : mp (M a) (lc M 0) ≤ 0 := mp_le (fun b hb hM => by
      have := rkd_lt o ha hb hM
      omega)
    show 1 = 1 + mp (M a) (lc M 0)
    omega
  | n + 1, a, ha, h => by
    have e : mp (M a) (lc M n) = mp (M a) (lc M (n + 1)) := by
      refine mx_congr 24 (fun b hb => ?_)
      by_cases z : M a b = true
      · rw [if_pos z, if_pos z]
        have := rkd_lt o ha hb z
        exact lc_st o n b hb (by omega)
      · rw [if_neg z, if_neg z]
    show 1 + mp (M a) (lc M n) = 1 + mp (M a) (lc M (n + 1))
    rw [e]
theorem Ls_fix (o : OR M) {a : Nat} (ha : a < 24) : Ls M a = 1 + mp (M a) (Ls M) := lc_st o 23 a ha (rkd_le o ha)
theorem Ls_ge (o : OR M) {a b : Nat} (ha : a < 24) (hb : b < 24) (h : M a b = true) : Ls M b + 1 ≤ Ls M a := by
  rw [Ls_fix o ha]
  have := mp_ge (l := Ls M) hb h
  omega
theorem lc_le : ∀ n a, lc M n a ≤ n + 1
  | 0, _ => Nat.le_refl _
  | n + 1, a => by
    have : mp (M a) (lc M n) ≤ n + 1 := mp_le (fun b _ _ => lc_le n b)
    show 1 + mp (M a) (lc M n) ≤ n + 1 + 1
    omega
theorem Ls_le (a : Nat) : Ls M a ≤ 24 := lc_le 23 a
theorem Ls_pos (o : OR M) {a : Nat} (ha : a < 24) : 1 ≤ Ls M a := by
  rw [Ls_fix o ha]
  omega
/-- what a row of lengths on its way keeps: those that k tells are between 1 and the end's -/
def UP (M : Nat → Nat → Bool) (k : Nat → Bool) (l : Nat → Nat) : Prop := ∀ u, u < 24 → k u = true → 1 ≤ l u ∧ l u ≤ Ls M u
def LO (M : Nat → Nat → Bool) (k : Nat → Bool) (l : Nat → Nat) (n a : Nat) : Prop := ∀ u, u < a → k u = true → rkd M u < n → l u = Ls M u
/-- M speaks of those that k tells -/
def MK (M : Nat → Nat → Bool) (k : Nat → Bool) : Prop := ∀ a b, M a b = true → k a = true ∧ k b = true
/-- a's length is enough -/
theorem lo_one (o : OR M) {k : Nat → Bool} (mk : MK M k) {l : Nat → Nat} {n a : Nat} (up : UP M k l) (lo : LO M k l n 24) (ha : a < 24) (hk : k a = true) (hr : rkd M a ≤ n) (cl : ∀ b, b < 24 → M a b = true → l b + 1 ≤ l a) : l a = Ls M a := by
  obtain ⟨u1, u2⟩ := up a ha hk
  by_cases z : mp (M a) (Ls M) = 0
  · have := Ls_fix o ha
    omega
  · obtain ⟨b, h1, h2, h3⟩ := mp_at (show 0 < mp (M a) (Ls M) by omega)
    have h4 := rkd_lt o ha h1 h2
    have h5 := lo b h1 (mk _ _ h2).2 (by omega)
    have h6 := cl b h1 h2
    have := Ls_fix o ha
    omega
theorem cl_all (o : OR M) {k : Nat → Bool} (mk : MK M k) {l : Nat → Nat} (up : UP M k l) (cl : ∀ a b, a < 24 → b < 24 → M a b = true → l b + 1 ≤ l a) : ∀ n, LO M k l n 24 := by
  intro n
  induction n with
  | zero => exact fun u _ _ h => absurd h (Nat.not_lt_zero _)
  | succ n ih => exact fun u hu hk hr => lo_one o mk up ih hu hk (by omega) (fun b hb hM => cl u b hu hb hM)
theorem lo_24 (o : OR M) {k : Nat → Bool} {l : Nat → Nat} (lo : LO M k l 24 24) : ∀ u, u < 24 → k u = true → l u = Ls M u := fun u hu hk => lo u hu hk (by have := rkd_le o hu; omega)
end
/-- the first of the largest -/
def fo (p : Nat → Bool) (l : Nat → Nat) : Nat → Nat → Nat → Nat → Nat
  | 0, _, b, _ => b
  | j + 1, k, b, g => if p k = true ∧ g < l k then fo p l j (k + 1) k (l k) else fo p l j (k + 1) b g
theorem fo_is {p : Nat → Bool} {l : Nat → Nat} : ∀ j k b g, ((∀ i, k ≤ i → i < k + j → p i = true → l i ≤ g) ∧ fo p l j k b g = b) ∨ (k ≤ fo p l j k b g ∧ fo p l j k b g < k + j ∧ p (fo p l j k b g) = true ∧ g < l (fo p l j k b g) ∧ (∀ i, k ≤ i → i < k + j → p i = true → l i ≤ l (fo p l j k b g)) ∧ ∀ i, k ≤ i → i < fo p l j k b g → p i = true → l i < l (fo p l j k b g))
  | 0, k, b, g => Or.inl ⟨fun i h1 h2 => absurd h2 (by omega), rfl⟩
  | j + 1, k, b, g => by
    by_cases z : p k = true ∧ g < l k
    · have e : fo p l (j + 1) k b g = fo p l j (k + 1) k (l k) := if_pos z
      rw [e]
      rcases fo_is j (k + 1) k (l k) with ⟨a1, a2⟩ | ⟨a1, a2, a3, a4, a5, a6⟩
      · refine Or.inr ?_
        rw [a2]
        refine ⟨Nat.le_refl _, by omega, z.1, z.2, fun i h1 h2 h3 => ?_, fun i h1 h2 => absurd h2 (by omega)⟩
        by_cases y : i = k
        · rw [y]; exact Nat.le_refl _
        · exact a1 i (by omega) (by omega) h3
      · refine Or.inr ⟨by omega, by omega, a3, by omega, fun i h1 h2 h3 => ?_, fun i h1 h2 h3 => ?_⟩
        · by_cases y : i = k
          · rw [y]; omega
          · exact a5 i (by omega) (by omega) h3
        · by_cases y : i = k
          · rw [y]; exact a4
          · exact a6 i (by omega) h2 h3
    · have e : fo p l (j + 1) k b g = fo p l j (k + 1) b g := if_neg z
      rw [e]
      have hk : p k = true → l k ≤ g := fun h => Nat.le_of_not_lt (fun y => z ⟨h, y⟩)
      rcases fo_is j (k + 1) b g with ⟨a1, a2⟩ | ⟨a1, a2, a3, a4, a5, a6⟩
      · refine Or.inl ⟨fun i h1 h2 h3 => ?_, a2⟩
        by_cases y : i = k
        · rw [y] at h3 ⊢; exact hk h3
        · exact a1 i (by omega) (by omega) h3
      · refine Or.inr ⟨by omega, by omega, a3, a4, fun i h1 h2 h3 => ?_, fun i h1 h2 h3 => ?_⟩
        · by_cases y : i = k
          · rw [y] at h3 ⊢
            have := hk h3
            omega
          · exact a5 i (by omega) (by omega) h3
        · by_cases y : i = k
          · rw [y] at h3 ⊢
            have := hk h3
            omega
          · exact a6 i (by omega) h2 h3
/-- the first of those that p tells whose length is the largest -/
def fl (p : Nat → Bool) (l : Nat → Nat) : Nat := fo p l 24 0 0 0
theorem fl_is {p : Nat → Bool} {l : Nat → Nat} (hl : ∀ i, i < 24 → p i = true → 1 ≤ l i) (hp : ∃ i, i < 24 ∧ p i = true) : fl p l < 24 ∧ p (fl p l) = true ∧ l (fl p l) = mp p l ∧ ∀ i, i < fl p l → p i = true → l i < l (fl p l) := by
  unfold fl
  obtain ⟨i, h1, h2⟩ := hp
  rcases fo_is (p := p) (l := l) 24 0 0 0 with ⟨a1, -⟩ | ⟨a1, a2, a3, a4, a5, a6⟩
  · have := a1 i (Nat.zero_le _) (by omega) h2
    have := hl i h1 h2
    omega
  · refine ⟨by omega, a3, ?_, fun i h h2 => a6 i (Nat.zero_le _) h h2⟩
    have b1 := mp_ge (l := l) (show fo p l 24 0 0 0 < 24 by omega) a3
    have b2 : mp p l ≤ l (fo p l 24 0 0 0) := mp_le (fun b hb hpb => a5 b (Nat.zero_le _) (by omega) hpb)
    omega
/-- the longest chain, the first of the longest each time -/
def sq (M : Nat → Nat → Bool) (p : Nat → Bool) : Nat → Nat
  | 0 => fl p (Ls M)
  | t + 1 => sq M (M (fl p (Ls M))) t
theorem mg_or {K : Ks} (wk : WK K) (m : Nat) : OR (mg K m) := by
  refine ⟨fun a => ?_, fun a b c ha hb hc h1 h2 => ?_⟩
  · unfold mg
    cases cvk K m a a <;> rfl
  · unfold mg at h1 h2 ⊢
    rw [Bool.and_eq_true] at h1 h2 ⊢
    have tr : ∀ x y z, x < 24 → y < 24 → z < 24 → cvk K m x y = true → cvk K m y z = true → cvk K m x z = true := by
      intro x y z hx hy hz e1 e2
      unfold cvk at e1 e2 ⊢
      cases hA : K x with
      | none => rw [hA] at e1; cases e1
      | some A =>
        cases hB : K y with
        | none => rw [hA, hB] at e1; cases e1
        | some B =>
          cases hC : K z with
          | none => rw [hB, hC] at e2; cases e2
          | some C =>
            rw [hA, hB] at e1
            rw [hB, hC] at e2
            exact cv_trans (wk x A (by omega) hA) (wk y B (by omega) hB) (wk z C (by omega) hC) e1 e2
    refine ⟨tr a b c ha hb hc h1.1 h2.1, ?_⟩
    cases hq : cvk K m c a with
    | false => rfl
    | true =>
      have := tr c a b hc ha hb hq h1.1
      rw [this] at h2
      exact absurd h2.2 (by decide)
theorem mg_kk {K : Ks} {m : Nat} : MK (mg K m) (kk K) := by
  intro a b h
  unfold mg at h
  rw [Bool.and_eq_true] at h
  have h := h.1
  unfold cvk at h
  cases hA : K a with
  | none => rw [hA] at h; cases h
  | some A =>
    cases hB : K b with
    | none => rw [hA, hB] at h; cases h
    | some B => exact ⟨kk_s hA, kk_s hB⟩
