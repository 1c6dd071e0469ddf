/-! ===== values grow along covering ===== -/
theorem ct_rm {Q : Nat → Bool} {j : Nat} (hq : Q j = true) : ∀ m, j < m → ct Q m = ct (fun u => Q u && !(Nat.beq u j)) m + 1
  | 0, h => absurd h (Nat.not_lt_zero _)
  | m + 1, h => by
    by_cases z : j = m
    · subst z
      have e : ct (fun u => Q u && !(Nat.beq u j)) (j + 1) = ct (fun u => Q u && !(Nat.beq u j)) j := ct_f (by rw [Nat.beq_refl]; cases Q j <;> rfl)
      rw [ct_t hq, e]
      congr 1
      refine ct_congr j (fun k hk => ?_)
      have : Nat.beq k j = false := by
        cases hb : Nat.beq k j with
        | false => rfl
        | true => have := Nat.eq_of_beq_eq_true hb; omega
      rw [this]
      cases Q k <;> rfl
    · have ih := ct_rm hq m (by omega)
      have : Nat.beq m j = false := by
        cases hb : Nat.beq m j with
        | false => rfl
        | true => have := Nat.eq_of_beq_eq_true hb; omega
      rw [ct_s, ct_s, ih, this]
      cases Q m
      · rfl
      · show ct _ m + 1 + 1 = ct _ m + 1 + 1
        rfl
theorem ct_inj (R : Nat → Nat → Prop) (hR : ∀ p q j, p < q → R p j → R q j → False) {P : Nat → Bool} {m : Nat} : ∀ (n : Nat) (Q : Nat → Bool), (∀ p, p < n → P p = true → ∃ j, j < m ∧ Q j = true ∧ R p j) → ct P n ≤ ct Q m
  | 0, Q, _ => Nat.zero_le _
  | n + 1, Q, h => by
    cases hp : P n with
    | false =>
      rw [ct_f hp]
      exact ct_inj R hR n Q (fun p hp => h p (by omega))
    | true =>
      obtain ⟨j, h1, h2, h3⟩ := h n (Nat.lt_succ_self _) hp
      rw [ct_t hp, ct_rm h2 m h1]
      refine Nat.succ_le_succ (ct_inj R hR n _ (fun p hpn hpp => ?_))
      obtain ⟨j', a1, a2, a3⟩ := h p (by omega) hpp
      refine ⟨j', a1, ?_, a3⟩
      show (Q j' && !(Nat.beq j' j)) = true
      rw [a2, Bool.true_and]
      cases hb : Nat.beq j' j with
      | false => rfl
      | true =>
        have := Nat.eq_of_beq_eq_true hb
        subst this
        exact (hR p n j' hpn a3 h3).elim
theorem ct_one {P : Nat → Bool} : ∀ n, 1 ≤ ct P n ↔ ∃ p, p < n ∧ P p = true
  | 0 => ⟨fun h => absurd h (Nat.not_succ_le_zero _), fun ⟨p, h, _⟩ => absurd h (Nat.not_lt_zero _)⟩
  | n + 1 => by
    cases hp : P n with
    | true =>
      rw [ct_t hp]
      exact ⟨fun _ => ⟨n, Nat.lt_succ_self _, hp⟩, fun _ => Nat.succ_pos _⟩
    | false =>
      rw [ct_f hp, ct_one n]
      constructor
      · rintro ⟨p, h1, h2⟩
        exact ⟨p, by omega, h2⟩
      · rintro ⟨p, h1, h2⟩
        by_cases z : p = n
        · subst z
          rw [hp] at h2
          cases h2
        · exact ⟨p, by omega, h2⟩
def pf (cs : List Nat) (f p : Nat) : Bool := if f < 8 then decide (cd cs p = 100 + f) else decide (cd cs p = (f - 8) / 2 ∧ sgn cs (p + 1) = f % 2)
theorem meas_ct (cs : List Nat) {f : Nat} (hf : f < 24) : ∀ n, meas cs f n = ct (pf cs f) n
  | 0 => rfl
  | n + 1 => by
    have ih := meas_ct cs hf n
    unfold meas
    rw [ct_s, ih]
    unfold pf
    by_cases z : f < 8
    · rw [if_pos z, if_pos z]
      by_cases y : cd cs n = 100 + f
      · rw [if_pos y, decide_eq_true y]
        rfl
      · rw [if_neg y, decide_eq_false y]
        rfl
    · rw [if_neg z, if_neg z, if_pos hf]
      by_cases y : cd cs n = (f - 8) / 2 ∧ sgn cs (n + 1) = f % 2
      · rw [if_pos y, decide_eq_true y]
        rfl
      · rw [if_neg y, decide_eq_false y]
        rfl
theorem meas_s {cs : List Nat} {f : Nat} (hf : 24 ≤ f) (n : Nat) : meas cs f (n + 1) = if cd cs n = (f - 24) / 2 ∧ sgn cs (n + 1) = f % 2 then max (meas cs f n) (dep cs n) else meas cs f n := by
  show (if f < 8 then _ else if f < 24 then _ else _) = _
  rw [if_neg (by omega), if_neg (by omega)]
theorem meas_ge {cs : List Nat} {f : Nat} (hf : 24 ≤ f) : ∀ n p, p < n → cd cs p = (f - 24) / 2 ∧ sgn cs (p + 1) = f % 2 → dep cs p ≤ meas cs f n
  | 0, p, h, _ => absurd h (Nat.not_lt_zero _)
  | n + 1, p, h, hc => by
    rw [meas_s hf]
    by_cases z : p = n
    · subst z
      rw [if_pos hc]
      exact Nat.le_max_right _ _
    · have := meas_ge hf n p (by omega) hc
      split
      · exact Nat.le_trans this (Nat.le_max_left _ _)
      · exact this
theorem meas_max {cs : List Nat} {f x : Nat} (hf : 24 ≤ f) : ∀ n, (∀ p, p < n → cd cs p = (f - 24) / 2 ∧ sgn cs (p + 1) = f % 2 → dep cs p ≤ x) → meas cs f n ≤ x
  | 0, _ => Nat.zero_le _
  | n + 1, h => by
    have ih := meas_max hf n (fun p hp => h p (by omega))
    rw [meas_s hf]
    split
    · rename_i z
      exact Nat.max_le.mpr ⟨ih, h n (Nat.lt_succ_self _) z⟩
    · exact ih
theorem beg_mono {B : List Nat} (w : WF B) (i : Nat) : ∀ k, beg B i ≤ beg B (i + k)
  | 0 => Nat.le_refl _
  | k + 1 => by
    have ih := beg_mono w i k
    by_cases z : i + k < nlit B
    · have := (w.lit z).2.2.2.2.2
      rw [← Nat.add_assoc]
      omega
    · rw [beg_out B (i + (k + 1)) (by omega), ← beg_out B (i + k) (by omega)]
      exact ih
section
variable {A B : List Nat} {m : Nat} {s : Nat → List Nat} {ro : Nat → Nat}
theorem place (c : CV m A B s ro) (wA : WF A) (wB : WF B) {p : Nat} (hp : p < A.length) (hv : iv (cd A p) = false) : ∃ i x, i < nlit A ∧ p = beg A i + x ∧ beg A i + x < beg A (i + 1) ∧ fi A B s ro i x < B.length ∧ cd B (fi A B s ro i x) = cd A p ∧ sgn B (fi A B s ro i x + 1) = sgn A (p + 1) ∧ dep B (fi A B s ro i x) = dep A p := by
  obtain ⟨i, h1, h2, h3⟩ := at_lit wA hp
  have e : p = beg A i + (p - beg A i) := by omega
  obtain ⟨f1, f2, f3⟩ := fi_at c wA wB (x := p - beg A i) h1 (by omega)
  rw [← e] at f3
  have := (wB.lit (c.2.1 i h1).1).2.2.2.2.1
  exact ⟨i, p - beg A i, h1, e, by omega, by omega, f3 hv⟩
theorem vm_mono (c : CV m A B s ro) (wA : WF A) (wB : WF B) (hm : m < 2) {f : Nat} (hf : f < 40) : vm A f m ≤ vm B f m := by
  unfold vm
  by_cases h24 : f < 24
  · rw [meas_ct A h24, meas_ct B h24]
    have pv : ∀ p, pf A f p = true → iv (cd A p) = false := by
      intro p hp
      rw [iv_f]
      unfold pf at hp
      by_cases z : f < 8
      · rw [if_pos z, decide_eq_true_eq] at hp
        omega
      · rw [if_neg z, decide_eq_true_eq] at hp
        omega
    have pq : ∀ p j, pf A f p = true → cd B j = cd A p → sgn B (j + 1) = sgn A (p + 1) → pf B f j = true := by
      intro p j hp h1 h2
      unfold pf at hp ⊢
      rw [h1, h2]
      exact hp
    rcases (show m = 0 ∨ m = 1 by omega) with rfl | rfl
    · have ex : 1 ≤ ct (pf A f) A.length → 1 ≤ ct (pf B f) B.length := by
        rw [ct_one, ct_one]
        rintro ⟨p, h1, h2⟩
        obtain ⟨i, x, -, -, -, g1, g2, g3, -⟩ := place c wA wB h1 (pv p h2)
        exact ⟨_, g1, pq p _ h2 g2 g3⟩
      unfold bm
      by_cases z1 : 1 < ct (pf A f) A.length
      · rw [if_pos ⟨rfl, h24, z1⟩]
        have := ex (by omega)
        split <;> omega
      · rw [if_neg (fun q => z1 q.2.2)]
        by_cases z2 : ct (pf A f) A.length = 0
        · omega
        · have := ex (by omega)
          split <;> omega
    · have e : ∀ v, bm f v 1 = v := fun v => by
        unfold bm
        exact if_neg (fun q => by cases q.1)
      rw [e, e]
      refine ct_inj (fun p j => ∃ i x, i < nlit A ∧ p = beg A i + x ∧ beg A i + x < beg A (i + 1) ∧ j = fi A B s ro i x) ?_ A.length (pf B f) (fun p h1 h2 => ?_)
      · rintro p q j hpq ⟨i, x, a1, rfl, a3, rfl⟩ ⟨i', x', b1, rfl, b3, b4⟩
        by_cases z : i = i'
        · subst z
          have l1 := (ltr_is wA a1).2
          have := fi_mono (A := A) (B := B) (ro := ro) (i := i) c.1 (show x < x' by omega) (by omega)
          omega
        · have n1 : ro i ≠ ro i' := by
            rcases Nat.lt_or_gt_of_ne z with y | y
            · exact c.2.2 rfl i i' y b1
            · exact fun e => c.2.2 rfl i' i y a1 e.symm
          obtain ⟨f1, f2, -⟩ := fi_at c wA wB a1 a3
          obtain ⟨g1, g2, -⟩ := fi_at c wA wB b1 b3
          rcases Nat.lt_or_gt_of_ne n1 with y | y
          · have := beg_mono wB (ro i + 1) (ro i' - (ro i + 1))
            rw [show ro i + 1 + (ro i' - (ro i + 1)) = ro i' by omega] at this
            omega
          · have := beg_mono wB (ro i' + 1) (ro i - (ro i' + 1))
            rw [show ro i' + 1 + (ro i - (ro i' + 1)) = ro i by omega] at this
            omega
      · obtain ⟨i, x, a1, a2, a3, g1, g2, g3, -⟩ := place c wA wB h1 (pv p h2)
        exact ⟨_, g1, pq p _ h2 g2 g3, i, x, a1, a2, a3, rfl⟩
  · have e : ∀ v, bm f v m = v := fun v => by
      unfold bm
      exact if_neg (fun q => h24 q.2.1)
    rw [e, e]
    refine meas_max (by omega) A.length (fun p h1 h2 => ?_)
    obtain ⟨i, x, a1, a2, a3, g1, g2, g3, g4⟩ := place c wA wB h1 (by rw [iv_f, h2.1]; omega)
    rw [← g4]
    exact meas_ge (by omega) B.length _ g1 (by rw [g2, g3]; exact h2)
end
theorem cv_vm {A B : List Nat} (wA : WF A) (wB : WF B) {m f : Nat} (hm : m < 2) (hf : f < 40) (h : cv m A B = true) : vm A f m ≤ vm B f m := by
  obtain ⟨s, ro, c⟩ := (cv_iff wA wB m).mp h
  exact vm_mono c wA wB hm hf
theorem ct_mono {P Q : Nat → Bool} : ∀ n, (∀ k, k < n → P k = true → Q k = true) → ct P n ≤ ct Q n
  | 0, _ => Nat.le_refl _
  | n + 1, h => by
    have ih := ct_mono n (fun k hk => h k (by omega))
    rw [ct_s, ct_s]
    by_cases z : P n = true
    · rw [if_pos z, if_pos (h n (Nat.lt_succ_self _) z)]
      omega
    · rw [if_neg z]
      omega
theorem su_mono {F G : Nat → Nat} : ∀ n, (∀ k, k < n → F k ≤ G k) → su F n ≤ su G n
  | 0, _ => Nat.le_refl _
  | n + 1, h => by
    have ih := su_mono n (fun k hk => h k (by omega))
    have := h n (Nat.lt_succ_self _)
    rw [su_s, su_s]
    omega
theorem rel_prn {K : Ks} (wk : WK K) {m : Nat} (hm : m < 2) {c : Nat → Nat} {a b : Nat} (ha : a < 24) (hb : b < 24) (h : rel K m a b = true) : ∀ n, (∀ i, i < n → c i < 40) → prn K m c n a b = true := by
  unfold rel at h
  rw [Bool.and_eq_true] at h
  obtain ⟨h1, h2⟩ := h
  unfold cvk at h2
  cases hA : K a with
  | none => rw [hA] at h2; cases h2
  | some A =>
    cases hB : K b with
    | none => rw [hA, hB] at h2; cases h2
    | some B =>
      rw [hA, hB] at h2
      have h2 : cv m A B = true := h2
      have wA := wk a A (by omega) hA
      have wB := wk b B (by omega) hB
      have ka : kk K a = true := by unfold kk; rw [hA]; rfl
      have kb : kk K b = true := by unfold kk; rw [hB]; rfl
      intro n
      induction n with
      | zero =>
        intro _
        show (kk K a && (kk K b && !(Nat.beq b a))) = true
        rw [ka, kb, Bool.true_and, Bool.true_and]
        cases hq : Nat.beq b a with
        | false => rfl
        | true =>
          have := Nat.eq_of_beq_eq_true hq
          subst this
          rw [Nat.beq_refl] at h1
          cases h1
      | succ n ih =>
        intro hc
        show (prn K m c n a b && (kk K a && (kk K b && Nat.ble (kn K m (c n) a) (kn K m (c n) b)))) = true
        rw [ih (fun i hi => hc i (by omega)), ka, kb, Bool.true_and, Bool.true_and, Bool.true_and]
        apply Nat.ble_eq_true_of_le
        unfold kn
        rw [hA, hB]
        exact cv_vm wA wB hm (hc n (Nat.lt_succ_self _)) h2
theorem nrl_npr {K : Ks} (wk : WK K) {m : Nat} (hm : m < 2) {c : Nat → Nat} {n : Nat} (hc : ∀ i, i < n → c i < 40) : nrl K m ≤ npr K m c n :=
  su_mono 24 (fun a ha => ct_mono 24 (fun b hb h => rel_prn wk hm ha hb h n hc))
