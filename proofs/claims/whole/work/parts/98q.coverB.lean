/-! ===== covering: a row of literals and what is put ===== -/
theorem ne_mem {X : Type} {L : List X} : ne L = true ↔ ∃ x, x ∈ L := by
  cases L with
  | nil => exact ⟨fun h => (by cases h), fun ⟨x, h⟩ => (by cases h)⟩
  | cons a l => exact ⟨fun _ => ⟨a, List.mem_cons_self ..⟩, fun _ => rfl⟩
theorem wkx_mem {ap : Bool} {A B : List Nat} {n i j : Nat} {fr : Nat → Bool} {b : Bd} : (∃ x, x ∈ wk false ap A B n i fr b j) ↔ fr j = true ∧ ∃ b', mt false B (ltr A i) (beg B j) b = some b' ∧ ∃ x, x ∈ ws false ap A B n (i + 1) (nxf ap fr j) b' := by
  unfold wk
  by_cases z : fr j = true
  · rw [if_pos z]
    cases hm : mt false B (ltr A i) (beg B j) b with
    | none => exact ⟨fun ⟨x, h⟩ => (by cases h), fun ⟨_, b', h, _⟩ => (by cases h)⟩
    | some b1 =>
      constructor
      · rintro ⟨x, h⟩
        have h : x ∈ (ws false ap A B n (i + 1) (nxf ap fr j) b1).map (fun w => (j :: w.1, w.2)) := h
        obtain ⟨y, hy, -⟩ := List.mem_map.mp h
        exact ⟨z, b1, rfl, y, hy⟩
      · rintro ⟨-, b', h, y, hy⟩
        injection h with h
        subst h
        exact ⟨_, List.mem_map.mpr ⟨y, hy, rfl⟩⟩
  · rw [if_neg z]
    exact ⟨fun ⟨x, h⟩ => (by cases h), fun ⟨h, _⟩ => absurd h z⟩
theorem ws_mem {ap : Bool} {A B : List Nat} {n i : Nat} {fr : Nat → Bool} {b : Bd} : (∃ x, x ∈ ws false ap A B (n + 1) i fr b) ↔ ∃ j, j < nlit B ∧ fr j = true ∧ ∃ b', mt false B (ltr A i) (beg B j) b = some b' ∧ ∃ x, x ∈ ws false ap A B n (i + 1) (nxf ap fr j) b' := by
  rw [ws_s]
  constructor
  · rintro ⟨x, h⟩
    obtain ⟨j, -, h1, h2⟩ := wj_mem.mp h
    obtain ⟨h3, h4⟩ := wkx_mem.mp ⟨x, h2⟩
    exact ⟨j, by omega, h3, h4⟩
  · rintro ⟨j, h1, h2, h3⟩
    obtain ⟨x, hx⟩ := wkx_mem.mpr ⟨h2, h3⟩
    exact ⟨x, wj_mem.mpr ⟨j, Nat.zero_le _, by omega, hx⟩⟩
theorem iv_pred {c : Nat} (h : 100 ≤ c) : iv c = false := by
  rw [iv_f]
  omega
section
variable {A B : List Nat}
theorem lit_sound (wA : WF A) (wB : WF B) {i j : Nat} (hi : i < nlit A) (hj : j < nlit B) {b b' : Bd} (h : mt false B (ltr A i) (beg B j) b = some b') (g : gd B b) : (∀ v t, b v = some t → b' v = some t) ∧ gd B b' ∧ ∀ s, (∀ v, tl (s v) 1 = true) → okb B s b' → ltr B j = sb s (ltr A i) := by
  obtain ⟨c, l, e1, e2, e3, -⟩ := wA.litc hi
  obtain ⟨c', l', f1, f2, f3, f4⟩ := wB.litc hj
  obtain ⟨x, r, b1, b2, b3, b4, b5⟩ := beg_at B 0 j wB.1 hj
  obtain ⟨a1, a2, a3⟩ := drop_cons b1
  have hc : 100 ≤ c := by rw [e2]; exact (wA.lit hi).2.1
  rw [e1, mt_c (iv_pred hc)] at h
  by_cases y : cd B (beg B j) = c
  · rw [if_pos y] at h
    have hxc : x = c := a2.symm.trans y
    subst hxc
    obtain ⟨i1, i2, i3⟩ := mt_sound B l (ar x) 0 (beg B j + 1) b b' e3 (by rw [a3, Nat.add_zero]; exact b4) h g
    refine ⟨i1, i2, fun s hs o => ?_⟩
    obtain ⟨r1, e4⟩ := i3 s hs o
    have hcc : c' = x := f2.trans a2
    subst hcc
    rw [e1, sb_c s l (iv_pred hc), f1]
    congr 1
    refine tl_uniq (r := (B.drop (beg B j + 1)).drop (beg B (j + 1) - beg B j - 1)) (r' := r1) f3 (tl_sb hs l _ e3) ?_
    rw [f4, List.take_append_drop, e4]
  · rw [if_neg y] at h
    cases h
theorem lit_comp (wA : WF A) (wB : WF B) {i j : Nat} (hi : i < nlit A) (hj : j < nlit B) {s : Nat → List Nat} (hs : ∀ v, tl (s v) 1 = true) (e : ltr B j = sb s (ltr A i)) {b : Bd} (o : okb B s b) : ∃ b', mt false B (ltr A i) (beg B j) b = some b' ∧ okb B s b' := by
  refine mt_comp B hs (ltr A i) (beg B j) b ⟨B.drop (beg B (j + 1)), ?_⟩ o
  have := (wB.lit hj).2.2.2.2.2
  rw [← e]
  unfold ltr
  have h2 : B.drop (beg B (j + 1)) = (B.drop (beg B j)).drop (beg B (j + 1) - beg B j) := by
    rw [List.drop_drop]
    congr 1
    omega
  rw [h2, List.take_append_drop]
theorem ws_sound (wA : WF A) (wB : WF B) (ap : Bool) : ∀ (n i : Nat) (fr : Nat → Bool) (b : Bd), i + n = nlit A → (∃ x, x ∈ ws false ap A B n i fr b) → gd B b → ∃ (ro : Nat → Nat) (b' : Bd), (∀ v t, b v = some t → b' v = some t) ∧ gd B b' ∧ (∀ u, i ≤ u → u < nlit A → ro u < nlit B ∧ fr (ro u) = true ∧ ∀ s, (∀ v, tl (s v) 1 = true) → okb B s b' → ltr B (ro u) = sb s (ltr A u)) ∧ (ap = true → ∀ u v, i ≤ u → u < v → v < nlit A → ro u ≠ ro v)
  | 0, i, fr, b, h, _, g => ⟨fun _ => 0, b, fun v t z => z, g, fun u h1 h2 => absurd h2 (by omega), fun _ u v h1 h2 h3 => absurd h3 (by omega)⟩
  | n + 1, i, fr, b, h, hx, g => by
    obtain ⟨j, hj, hf, b1, hm, hx⟩ := ws_mem.mp hx
    obtain ⟨l1, l2, l3⟩ := lit_sound wA wB (show i < nlit A by omega) hj hm g
    obtain ⟨ro', b', k1, k2, k3, k4⟩ := ws_sound wA wB ap n (i + 1) (nxf ap fr j) b1 (by omega) hx l2
    have hn : ∀ u, nxf ap fr j u = true → fr u = true ∧ (ap = true → u ≠ j) := by
      intro u hu
      unfold nxf at hu
      cases ap with
      | true =>
        rw [if_pos rfl] at hu
        have hu : (fr u && !(Nat.beq u j)) = true := hu
        rw [Bool.and_eq_true] at hu
        refine ⟨hu.1, fun _ z => ?_⟩
        have h2 := hu.2
        rw [z, Nat.beq_refl] at h2
        cases h2
      | false =>
        rw [if_neg (by decide)] at hu
        exact ⟨hu, fun z => by cases z⟩
    refine ⟨fun u => if u = i then j else ro' u, b', fun v t z => k1 v t (l1 v t z), k2, fun u h1 h2 => ?_, fun hap u v h1 h2 h3 => ?_⟩
    · by_cases z : u = i
      · subst z
        show (if u = u then j else ro' u) < _ ∧ fr (if u = u then j else ro' u) = true ∧ ∀ s, _ → _ → ltr B (if u = u then j else ro' u) = _
        rw [if_pos rfl]
        exact ⟨hj, hf, fun s hs o => l3 s hs (fun v t z => o v t (k1 v t z))⟩
      · show (if u = i then j else ro' u) < _ ∧ fr (if u = i then j else ro' u) = true ∧ ∀ s, _ → _ → ltr B (if u = i then j else ro' u) = _
        rw [if_neg z]
        obtain ⟨q1, q2, q3⟩ := k3 u (by omega) h2
        exact ⟨q1, (hn _ q2).1, q3⟩
    · show (if u = i then j else ro' u) ≠ (if v = i then j else ro' v)
      rw [if_neg (show ¬ v = i by omega)]
      by_cases z : u = i
      · rw [if_pos z]
        exact fun e => (hn _ (k3 v (by omega) h3).2.1).2 hap e.symm
      · rw [if_neg z]
        exact k4 hap u v (by omega) h2 h3
theorem ws_comp (wA : WF A) (wB : WF B) (ap : Bool) {s : Nat → List Nat} (hs : ∀ v, tl (s v) 1 = true) {ro : Nat → Nat} (hr : ∀ u, u < nlit A → ro u < nlit B ∧ ltr B (ro u) = sb s (ltr A u)) (hi : ap = true → ∀ u v, u < v → v < nlit A → ro u ≠ ro v) : ∀ (n i : Nat) (fr : Nat → Bool) (b : Bd), i + n = nlit A → okb B s b → (∀ u, i ≤ u → u < nlit A → fr (ro u) = true) → ∃ x, x ∈ ws false ap A B n i fr b
  | 0, i, fr, b, _, _, _ => ⟨([], b), List.mem_singleton.mpr rfl⟩
  | n + 1, i, fr, b, h, o, f => by
    obtain ⟨r1, r2⟩ := hr i (by omega)
    obtain ⟨b', m1, m2⟩ := lit_comp wA wB (show i < nlit A by omega) r1 hs r2 o
    refine ws_mem.mpr ⟨ro i, r1, f i (Nat.le_refl _) (by omega), b', m1, ?_⟩
    refine ws_comp wA wB ap hs hr hi n (i + 1) _ b' (by omega) m2 (fun u h1 h2 => ?_)
    unfold nxf
    cases ap with
    | true =>
      rw [if_pos rfl]
      show (fr (ro u) && !(Nat.beq (ro u) (ro i))) = true
      rw [f u (by omega) h2, Bool.true_and]
      have := hi rfl i u (by omega) h2
      cases hb : Nat.beq (ro u) (ro i) with
      | false => rfl
      | true => exact absurd (Nat.eq_of_beq_eq_true hb).symm this
    | false =>
      rw [if_neg (by decide)]
      exact f u (by omega) h2
/-- what covering is -/
def CV (m : Nat) (A B : List Nat) (s : Nat → List Nat) (ro : Nat → Nat) : Prop := (∀ v, tl (s v) 1 = true) ∧ (∀ u, u < nlit A → ro u < nlit B ∧ ltr B (ro u) = sb s (ltr A u)) ∧ (m = 1 → ∀ u v, u < v → v < nlit A → ro u ≠ ro v)
theorem cv_iff (wA : WF A) (wB : WF B) (m : Nat) : cv m A B = true ↔ ∃ s ro, CV m A B s ro := by
  unfold cv wl
  rw [ne_mem]
  have g0 : gd B b0 := fun v t z => by cases z
  constructor
  · intro hx
    obtain ⟨ro, b', -, g, k3, k4⟩ := ws_sound wA wB (Nat.beq m 1) (nlit A) 0 ft b0 (Nat.zero_add _) hx g0
    have key : ∀ v, ∃ T, tl T 1 = true ∧ ∀ t, b' v = some t → ∃ r, B.drop t = T ++ r := by
      intro v
      cases hb : b' v with
      | none => exact ⟨[3], rfl, fun t z => by cases z⟩
      | some t =>
        obtain ⟨T, r, e1, e2⟩ := g v t hb
        refine ⟨T, e2, fun t' z => ?_⟩
        injection z with z
        subst z
        exact ⟨r, e1⟩
    refine ⟨fun v => Classical.choose (key v), ro, fun v => (Classical.choose_spec (key v)).1, fun u hu => ?_, fun hm u v h1 h2 => k4 (by rw [hm]; rfl) u v (Nat.zero_le _) h1 h2⟩
    obtain ⟨q1, -, q3⟩ := k3 u (Nat.zero_le _) hu
    exact ⟨q1, q3 _ (fun v => (Classical.choose_spec (key v)).1) (fun v t z => (Classical.choose_spec (key v)).2 t z)⟩
  · rintro ⟨s, ro, c1, c2, c3⟩
    exact ws_comp wA wB (Nat.beq m 1) c1 c2 (fun h => c3 (Nat.eq_of_beq_eq_true h)) (nlit A) 0 ft b0 (Nat.zero_add _) (fun v t z => by cases z) (fun _ _ _ => rfl)
end
theorem cv_trans {A B C : List Nat} (wA : WF A) (wB : WF B) (wC : WF C) {m : Nat} (h1 : cv m A B = true) (h2 : cv m B C = true) : cv m A C = true := by
  obtain ⟨s, r, a1, a2, a3⟩ := (cv_iff wA wB m).mp h1
  obtain ⟨t, p, b1, b2, b3⟩ := (cv_iff wB wC m).mp h2
  refine (cv_iff wA wC m).mpr ⟨fun v => sb t (s v), fun u => p (r u), fun v => tl_sb b1 _ _ (a1 v), fun u hu => ?_, fun hm u v x1 x2 => ?_⟩
  · obtain ⟨q1, q2⟩ := a2 u hu
    obtain ⟨q3, q4⟩ := b2 _ q1
    exact ⟨q3, by rw [q4, q2, sb_sb]⟩
  · have n1 := a3 hm u v x1 x2
    have l1 := (a2 u (by omega)).1
    have l2 := (a2 v x2).1
    rcases Nat.lt_or_gt_of_ne n1 with y | y
    · exact b3 hm _ _ y l2
    · exact fun e => b3 hm _ _ y l1 e.symm
