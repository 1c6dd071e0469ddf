/-! ===== what covering is: terms put for variables ===== -/
def sb (s : Nat → List Nat) : List Nat → List Nat
  | [] => []
  | c :: l => (if iv c = true then s (c - 20) else [c]) ++ sb s l
theorem sb_app (s : Nat → List Nat) : ∀ A B : List Nat, sb s (A ++ B) = sb s A ++ sb s B
  | [], _ => rfl
  | c :: A, B => by
    show (if iv c = true then s (c - 20) else [c]) ++ sb s (A ++ B) = ((if iv c = true then s (c - 20) else [c]) ++ sb s A) ++ sb s B
    rw [sb_app s A B, List.append_assoc]
theorem sb_v (s : Nat → List Nat) {c : Nat} (l : List Nat) (h : iv c = true) : sb s (c :: l) = s (c - 20) ++ sb s l := by
  show (if iv c = true then s (c - 20) else [c]) ++ sb s l = _
  rw [if_pos h]
theorem sb_c (s : Nat → List Nat) {c : Nat} (l : List Nat) (h : iv c = false) : sb s (c :: l) = c :: sb s l := by
  show (if iv c = true then s (c - 20) else [c]) ++ sb s l = _
  rw [if_neg (by rw [h]; decide)]
  rfl
theorem sb_sb (s t : Nat → List Nat) : ∀ l : List Nat, sb t (sb s l) = sb (fun v => sb t (s v)) l
  | [] => rfl
  | c :: l => by
    cases z : iv c with
    | true => rw [sb_v s l z, sb_app, sb_sb s t l, sb_v _ l z]
    | false => rw [sb_c s l z, sb_c t _ z, sb_sb s t l, sb_c _ l z]
theorem iv_ar {c : Nat} (h : iv c = true) : ar c = 0 := by
  rw [iv_t] at h
  unfold ar
  rw [if_pos (by omega), if_neg (by omega), if_neg (by omega), if_neg (by omega)]
theorem tl_sb {s : Nat → List Nat} (hs : ∀ v, tl (s v) 1 = true) : ∀ (l : List Nat) (n : Nat), tl l n = true → tl (sb s l) n = true
  | [], _, h => h
  | c :: l, 0, h => by cases h
  | c :: l, n + 1, h => by
    have h : (tcode c && tl l (n + ar c)) = true := h
    rw [Bool.and_eq_true] at h
    cases z : iv c with
    | true =>
      have h2 := h.2
      rw [iv_ar z, Nat.add_zero] at h2
      rw [sb_v s l z, Nat.add_comm n 1]
      exact tl_app _ 1 n _ (hs _) (tl_sb hs l n h2)
    | false =>
      rw [sb_c s l z]
      show (tcode c && tl (sb s l) (n + ar c)) = true
      rw [h.1, tl_sb hs l _ h.2]
      rfl
theorem tl_len {T r : List Nat} {n : Nat} (h : tl T n = true) : tlen (T ++ r) n = T.length := by
  have := tlen_app T n 0 r h
  rw [tlen_0, Nat.add_zero, Nat.add_zero] at this
  exact this
theorem tl_uniq {T T' r r' : List Nat} {n : Nat} (h : tl T n = true) (h' : tl T' n = true) (e : T ++ r = T' ++ r') : T = T' := by
  have a := tl_len (r := r) h
  have b := tl_len (r := r') h'
  rw [e, b] at a
  exact (List.append_inj e a.symm).1
theorem st_iff {B T r : List Nat} {t q : Nat} (h1 : tl T 1 = true) (hq : B.drop q = T ++ r) : st B t q = true ↔ ∃ r', B.drop t = T ++ r' := by
  have hT : 1 ≤ T.length := by
    cases T with
    | nil => cases h1
    | cons c l => exact Nat.succ_pos _
  have hl : endp B q - q = T.length := by
    unfold endp
    rw [hq, tl_len h1]
    omega
  unfold st
  rw [Bool.and_eq_true, decide_eq_true_eq, al_t, hl]
  constructor
  · rintro ⟨a, b⟩
    have e : (B.drop t).take T.length = (T ++ r).take T.length := take_ag T.length _ _ (fun x hx => by
      have := b x (Nat.zero_le _) (by omega)
      unfold sm at this
      have := Nat.eq_of_beq_eq_true this
      rw [cd_dropk, this, ← cd_dropk, hq]) (by rw [List.length_drop]; omega) (by rw [List.length_append]; omega)
    rw [List.take_append_of_le_length (Nat.le_refl _), List.take_length] at e
    exact ⟨(B.drop t).drop T.length, by rw [← List.take_append_drop T.length (B.drop t)]; rw [e]; rw [List.drop_append_of_le_length (Nat.le_refl _), List.drop_length]; rfl⟩
  · rintro ⟨r', e⟩
    have hlen := congrArg List.length e
    rw [List.length_drop, List.length_append] at hlen
    refine ⟨by omega, fun i _ hi => ?_⟩
    unfold sm
    rw [← cd_dropk, ← cd_dropk, e, hq, cd_appl (by omega), cd_appl (by omega)]
    exact Nat.beq_refl _
/-- places that are put for variables are those of terms -/
def gd (B : List Nat) (b : Bd) : Prop := ∀ v t, b v = some t → ∃ T r, B.drop t = T ++ r ∧ tl T 1 = true
def okb (B : List Nat) (s : Nat → List Nat) (b : Bd) : Prop := ∀ v t, b v = some t → ∃ r, B.drop t = s v ++ r
theorem mt_v {B l : List Nat} {c q : Nat} {b : Bd} (h : iv c = true) : mt false B (c :: l) q b = match b (c - 20) with
      | some t => if st B t q = true then mt false B l (endp B q) b else none
      | none => mt false B l (endp B q) (ub b (c - 20) q) := by
  show (if iv c = true then (match b (c - 20) with
      | some t => if st B t q = true then mt false B l (endp B q) b else none
      | none => if (false && (!(iv (cd B q)) || tk B b (cd B q))) = true then none else mt false B l (endp B q) (ub b (c - 20) q)) else _) = _
  rw [if_pos h]
  cases b (c - 20) with
  | none => exact if_neg (by rw [Bool.false_and]; decide)
  | some t => rfl
theorem mt_c {B l : List Nat} {c q : Nat} {b : Bd} (h : iv c = false) : mt false B (c :: l) q b = if cd B q = c then mt false B l (q + 1) b else none := if_neg (by rw [h]; decide)
theorem tl_cons {c : Nat} {l : List Nat} {n : Nat} (h : tl (c :: l) n = true) : ∃ k, n = k + 1 ∧ tcode c = true ∧ tl l (k + ar c) = true := by
  cases n with
  | zero => cases h
  | succ k =>
    have h : (tcode c && tl l (k + ar c)) = true := h
    rw [Bool.and_eq_true] at h
    exact ⟨k, rfl, h.1, h.2⟩
theorem drop_end {B T r : List Nat} {q : Nat} (h1 : tl T 1 = true) (hq : B.drop q = T ++ r) : endp B q = q + T.length ∧ B.drop (endp B q) = r := by
  have e : endp B q = q + T.length := by
    unfold endp
    rw [hq, tl_len h1]
  refine ⟨e, ?_⟩
  rw [e, ← List.drop_drop, hq, List.drop_append_of_le_length (Nat.le_refl _), List.drop_length]
  rfl
theorem mt_sound (B : List Nat) : ∀ (l : List Nat) (n m q : Nat) (b b' : Bd), tl l n = true → wf (B.drop q) (n + m) = true → mt false B l q b = some b' → gd B b → (∀ v t, b v = some t → b' v = some t) ∧ gd B b' ∧ ∀ s, (∀ v, tl (s v) 1 = true) → okb B s b' → ∃ r, B.drop q = sb s l ++ r
  | [], n, m, q, b, b', h1, h2, h3, g => by
    have h3 : some b = some b' := h3
    injection h3 with h3
    subst h3
    exact ⟨fun v t z => z, g, fun s _ _ => ⟨B.drop q, rfl⟩⟩
  | c :: l, n, m, q, b, b', h1, h2, h3, g => by
    obtain ⟨k, rfl, tc, h1⟩ := tl_cons h1
    cases z : iv c with
    | true =>
      rw [iv_ar z, Nat.add_zero] at h1
      rw [show k + 1 + m = 1 + (k + m) by omega] at h2
      obtain ⟨T, r0, e1, e2, e3, -⟩ := wf_split _ 1 (k + m) h2
      obtain ⟨d1, d2⟩ := drop_end e2 e1
      rw [mt_v z] at h3
      cases hb : b (c - 20) with
      | some t =>
        rw [hb] at h3
        have h3 : (if st B t q = true then mt false B l (endp B q) b else none) = some b' := h3
        by_cases y : st B t q = true
        · rw [if_pos y] at h3
          obtain ⟨i1, i2, i3⟩ := mt_sound B l k m (endp B q) b b' h1 (by rw [d2]; exact e3) h3 g
          refine ⟨i1, i2, fun s hs o => ?_⟩
          obtain ⟨r, e4⟩ := i3 s hs o
          obtain ⟨r1, e5⟩ := (st_iff e2 e1).mp y
          obtain ⟨r2, e6⟩ := o _ _ (i1 _ _ hb)
          have es : s (c - 20) = T := tl_uniq (hs _) e2 (e6.symm.trans e5)
          rw [d2] at e4
          exact ⟨r, by rw [sb_v s l z, es, e1, e4, List.append_assoc]⟩
        · rw [if_neg y] at h3
          cases h3
      | none =>
        rw [hb] at h3
        have h3 : mt false B l (endp B q) (ub b (c - 20) q) = some b' := h3
        have g' : gd B (ub b (c - 20) q) := by
          intro v t hv
          by_cases y : v = c - 20
          · subst y
            rw [ub_v] at hv
            injection hv with hv
            subst hv
            exact ⟨T, r0, e1, e2⟩
          · rw [ub_o b q y] at hv
            exact g v t hv
        obtain ⟨i1, i2, i3⟩ := mt_sound B l k m (endp B q) _ b' h1 (by rw [d2]; exact e3) h3 g'
        refine ⟨fun v t hv => i1 v t ?_, i2, fun s hs o => ?_⟩
        · by_cases y : v = c - 20
          · subst y
            rw [hb] at hv
            cases hv
          · rw [ub_o b q y]
            exact hv
        · obtain ⟨r, e4⟩ := i3 s hs o
          obtain ⟨r2, e6⟩ := o _ _ (i1 _ _ (ub_v b (c - 20) q))
          have es : s (c - 20) = T := tl_uniq (hs _) e2 (e6.symm.trans e1)
          rw [d2] at e4
          exact ⟨r, by rw [sb_v s l z, es, e1, e4, List.append_assoc]⟩
    | false =>
      rw [mt_c z] at h3
      by_cases y : cd B q = c
      · rw [if_pos y] at h3
        cases hd : B.drop q with
        | nil =>
          rw [hd] at h2
          have : k + 1 + m = 0 := Nat.eq_of_beq_eq_true h2
          omega
        | cons x r0 =>
          obtain ⟨a1, a2, a3⟩ := drop_cons hd
          rw [hd, show k + 1 + m = (k + m) + 1 by omega] at h2
          have h2 : (tcode x && wf r0 (k + m + ar x)) = true := h2
          rw [Bool.and_eq_true] at h2
          have hxc : x = c := a2.symm.trans y
          subst hxc
          obtain ⟨i1, i2, i3⟩ := mt_sound B l (k + ar x) m (q + 1) b b' h1 (by rw [a3, show k + ar x + m = k + m + ar x by omega]; exact h2.2) h3 g
          refine ⟨i1, i2, fun s hs o => ?_⟩
          obtain ⟨r, e4⟩ := i3 s hs o
          rw [a3] at e4
          exact ⟨r, by rw [sb_c s l z, e4]; rfl⟩
      · rw [if_neg y] at h3
        cases h3
theorem mt_comp (B : List Nat) {s : Nat → List Nat} (hs : ∀ v, tl (s v) 1 = true) : ∀ (l : List Nat) (q : Nat) (b : Bd), (∃ r, B.drop q = sb s l ++ r) → okb B s b → ∃ b', mt false B l q b = some b' ∧ okb B s b'
  | [], q, b, _, o => ⟨b, rfl, o⟩
  | c :: l, q, b, ⟨r, e⟩, o => by
    cases z : iv c with
    | true =>
      rw [sb_v s l z, List.append_assoc] at e
      obtain ⟨d1, d2⟩ := drop_end (hs _) e
      rw [mt_v z]
      cases hb : b (c - 20) with
      | some t =>
        obtain ⟨r1, e1⟩ := o _ _ hb
        have y := (st_iff (hs _) e).mpr ⟨r1, e1⟩
        show ∃ b', (if st B t q = true then mt false B l (endp B q) b else none) = some b' ∧ okb B s b'
        rw [if_pos y]
        exact mt_comp B hs l (endp B q) b ⟨r, d2⟩ o
      | none =>
        refine mt_comp B hs l (endp B q) (ub b (c - 20) q) ⟨r, d2⟩ (fun v t hv => ?_)
        by_cases y : v = c - 20
        · subst y
          rw [ub_v] at hv
          injection hv with hv
          subst hv
          exact ⟨_, e⟩
        · rw [ub_o b q y] at hv
          exact o v t hv
    | false =>
      rw [sb_c s l z] at e
      have e : B.drop q = c :: (sb s l ++ r) := e
      obtain ⟨a1, a2, a3⟩ := drop_cons e
      rw [mt_c z, if_pos a2]
      exact mt_comp B hs l (q + 1) b ⟨r, a3⟩ o
