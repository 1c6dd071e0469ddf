/-! ===== looking for renamings alone, or for all ways: the same ===== -/
theorem isr_t {B : List Nat} {b : Bd} : isr B b = true ↔ (∀ v t, v < 6 → b v = some t → iv (cd B t) = true) ∧ ∀ u v s t, u < 6 → v < 6 → b u = some s → b v = some t → cd B s = cd B t → u = v := by
  unfold isr
  rw [al_t]
  have tp : ∀ v c, tkp B b v c = true ↔ ∃ u s, u < v ∧ b u = some s ∧ cd B s = c := by
    intro v c
    unfold tkp
    rw [ex_t]
    constructor
    · rintro ⟨u, -, h2, h3⟩
      cases hb : b u with
      | none => rw [hb] at h3; cases h3
      | some s =>
        rw [hb] at h3
        exact ⟨u, s, by omega, hb, Nat.eq_of_beq_eq_true h3⟩
    · rintro ⟨u, s, h1, h2, h3⟩
      refine ⟨u, by omega, by omega, ?_⟩
      rw [h2]
      show Nat.beq _ _ = true
      rw [beq_t]
      exact h3
  have rt : ∀ v t, b v = some t → (rb B b v = true ↔ iv (cd B t) = true ∧ ¬ ∃ u s, u < v ∧ b u = some s ∧ cd B s = cd B t) := by
    intro v t hb
    unfold rb
    rw [hb]
    dsimp only
    rw [Bool.and_eq_true, ← tp]
    cases tkp B b v (cd B t) <;> simp
  constructor
  · intro h
    constructor
    · intro v t hv hb
      exact ((rt v t hb).mp (h v (by omega) (by omega))).1
    · intro u v s t hu hv hs ht he
      rcases Nat.lt_trichotomy u v with z | z | z
      · exact absurd ⟨u, s, z, hs, he⟩ ((rt v t ht).mp (h v (by omega) (by omega))).2
      · exact z
      · exact absurd ⟨v, t, z, ht, he.symm⟩ ((rt u s hs).mp (h u (by omega) (by omega))).2
  · rintro ⟨h1, h2⟩ v hv1 hv2
    cases hb : b v with
    | none => unfold rb; rw [hb]
    | some t =>
      refine (rt v t hb).mpr ⟨h1 v t (by omega) hb, ?_⟩
      rintro ⟨u, s, hu, hs, he⟩
      have := h2 u v s t (by omega) (by omega) hs hb he
      omega
theorem isr_mono {B : List Nat} {b b' : Bd} (hx : ∀ v t, b v = some t → b' v = some t) (h : isr B b' = true) : isr B b = true := by
  rw [isr_t] at h ⊢
  exact ⟨fun v t hv hb => h.1 v t hv (hx v t hb), fun u v s t hu hv hs ht he => h.2 u v s t hu hv (hx u s hs) (hx v t ht) he⟩
def ofr (B : List Nat) : Option Bd → Option Bd
  | some b => if isr B b = true then some b else none
  | none => none
theorem mt_ren {B : List Nat} : ∀ (l : List Nat) (q : Nat) (b : Bd), isr B b = true → mt true B l q b = ofr B (mt false B l q b)
  | [], q, b, h => by
    show some b = if isr B b = true then some b else none
    rw [if_pos h]
  | c :: l, q, b, h => by
    unfold mt
    by_cases h1 : iv c = true
    · rw [if_pos h1, if_pos h1]
      cases hb : b (c - 20) with
      | some u =>
        dsimp only
        by_cases h2 : st B u q = true
        · rw [if_pos h2, if_pos h2]
          exact mt_ren l _ b h
        · rw [if_neg h2, if_neg h2]
          rfl
      | none =>
        dsimp only
        rw [Bool.true_and, Bool.false_and]
        have h1' := h1
        rw [iv_t] at h1'
        rw [if_neg (show ¬ false = true by decide)]
        by_cases h2 : (!(iv (cd B q)) || tk B b (cd B q)) = true
        · rw [if_pos h2]
          cases hm : mt false B l (endp B q) (ub b (c - 20) q) with
          | none => rfl
          | some b' =>
            show none = if isr B b' = true then some b' else none
            rw [if_neg]
            intro hr
            have hx := mt_ext _ _ _ _ hm
            have hr2 := isr_mono hx hr
            rw [isr_t] at hr2
            rw [Bool.or_eq_true] at h2
            rcases h2 with h2 | h2
            · have := hr2.1 (c - 20) q (by omega) (ub_v _ _ _)
              rw [this] at h2
              cases h2
            · obtain ⟨v, t, v1, v2, v3⟩ := tk_t.mp h2
              have hne : v ≠ c - 20 := by
                rintro rfl
                rw [hb] at v2
                cases v2
              exact hne (hr2.2 v (c - 20) t q v1 (by omega) (by rw [ub_o _ _ hne]; exact v2) (ub_v _ _ _) v3)
        · rw [if_neg h2]
          refine mt_ren l _ _ ?_
          have h3 : iv (cd B q) = true ∧ tk B b (cd B q) = false := by
            cases hi : iv (cd B q) <;> cases ht : tk B b (cd B q) <;> simp [hi, ht] at h2 ⊢
          rw [isr_t] at h ⊢
          constructor
          · intro v t hv hvb
            by_cases z : v = c - 20
            · subst z
              rw [ub_v] at hvb
              injection hvb with hvb
              subst hvb
              exact h3.1
            · rw [ub_o _ _ z] at hvb
              exact h.1 v t hv hvb
          · have key : ∀ v t, v < 6 → b v = some t → cd B t ≠ cd B q := by
              intro v t hv hvb he
              have := tk_t.mpr ⟨v, t, hv, hvb, he⟩
              rw [h3.2] at this
              cases this
            intro u v s t hu hv hs ht he
            by_cases zu : u = c - 20
            · by_cases zv : v = c - 20
              · omega
              · rw [zu, ub_v] at hs
                injection hs with hs
                subst hs
                rw [ub_o _ _ zv] at ht
                exact absurd he.symm (key v t hv ht)
            · rw [ub_o _ _ zu] at hs
              by_cases zv : v = c - 20
              · rw [zv, ub_v] at ht
                injection ht with ht
                subst ht
                exact absurd he (key u s hu hs)
              · rw [ub_o _ _ zv] at ht
                exact h.2 u v s t hu hv hs ht he
    · rw [if_neg h1, if_neg h1]
      by_cases h2 : cd B q = c
      · rw [if_pos h2, if_pos h2]
        exact mt_ren l _ b h
      · rw [if_neg h2, if_neg h2]
        rfl
theorem wj_mem {X : Type} {F : Nat → List X} {x : X} : ∀ {j k : Nat}, x ∈ wj F j k ↔ ∃ i, k ≤ i ∧ i < k + j ∧ x ∈ F i
  | 0, k => Iff.intro (fun h => by cases h) (fun ⟨i, h1, h2, _⟩ => by omega)
  | j + 1, k => by
    rw [wj_s, List.mem_append, wj_mem]
    constructor
    · rintro (h | ⟨i, h1, h2, h3⟩)
      · exact ⟨k, by omega, by omega, h⟩
      · exact ⟨i, by omega, by omega, h3⟩
    · rintro ⟨i, h1, h2, h3⟩
      by_cases z : i = k
      · subst z
        exact Or.inl h3
      · exact Or.inr ⟨i, by omega, by omega, h3⟩
theorem wk_mem {rn ap : Bool} {A B : List Nat} {n i : Nat} {fr : Nat → Bool} {b : Bd} {j : Nat} {w : Way} : w ∈ wk rn ap A B n i fr b j ↔ fr j = true ∧ ∃ b' w', mt rn B (ltr A i) (beg B j) b = some b' ∧ w' ∈ ws rn ap A B n (i + 1) (nxf ap fr j) b' ∧ w = (j :: w'.1, w'.2) := by
  unfold wk
  by_cases hf : fr j = true
  · rw [if_pos hf]
    cases hm : mt rn B (ltr A i) (beg B j) b with
    | none =>
      constructor
      · intro h; cases h
      · rintro ⟨-, b', w', h1, -⟩
        cases h1
    | some b' =>
      dsimp only
      rw [List.mem_map]
      constructor
      · rintro ⟨w', h1, h2⟩
        exact ⟨hf, b', w', rfl, h1, h2.symm⟩
      · rintro ⟨-, b2, w', h1, h2, h3⟩
        injection h1 with h1
        subst h1
        exact ⟨w', h2, h3.symm⟩
  · rw [if_neg hf]
    constructor
    · intro h; cases h
    · rintro ⟨h, -⟩
      exact absurd h hf
theorem ws_ext {rn ap : Bool} {A B : List Nat} : ∀ n i fr b, ∀ w ∈ ws rn ap A B n i fr b, ∀ v t, b v = some t → w.2 v = some t
  | 0, _, _, b, w, hw, v, t, hb => by
    rw [List.mem_singleton.mp hw]
    exact hb
  | n + 1, i, fr, b, w, hw, v, t, hb => by
    rw [ws_s, wj_mem] at hw
    obtain ⟨j, -, -, hj⟩ := hw
    obtain ⟨-, b', w', h1, h2, h3⟩ := wk_mem.mp hj
    subst h3
    exact ws_ext n _ _ b' w' h2 v t (mt_ext _ _ _ _ h1 v t hb)
theorem wj_filter {X : Type} (F : Nat → List X) (p : X → Bool) : ∀ j k, (wj F j k).filter p = wj (fun i => (F i).filter p) j k
  | 0, _ => rfl
  | j + 1, k => by rw [wj_s, wj_s, List.filter_append, wj_filter F p j (k + 1)]
theorem wj_congr {X : Type} {F G : Nat → List X} (h : ∀ i, F i = G i) : ∀ j k, wj F j k = wj G j k
  | 0, _ => rfl
  | j + 1, k => by rw [wj_s, wj_s, h k, wj_congr h j (k + 1)]
theorem ws_ren {ap : Bool} {A B : List Nat} : ∀ n i fr b, isr B b = true → ws true ap A B n i fr b = (ws false ap A B n i fr b).filter (fun w => isr B w.2)
  | 0, _, _, b, h => by
    show [([], b)] = List.filter _ [([], b)]
    rw [List.filter_cons_of_pos (p := fun w : Way => isr B w.2) h]
    rfl
  | n + 1, i, fr, b, h => by
    rw [ws_s, ws_s, wj_filter]
    apply wj_congr
    intro j
    unfold wk
    by_cases hf : fr j = true
    · rw [if_pos hf, if_pos hf, mt_ren _ _ _ h]
      cases hm : mt false B (ltr A i) (beg B j) b with
      | none => rfl
      | some b' =>
        show (match (if isr B b' = true then some b' else none) with
          | none => []
          | some b' => (ws true ap A B n (i + 1) (nxf ap fr j) b').map (fun w => (j :: w.1, w.2))) = ((ws false ap A B n (i + 1) (nxf ap fr j) b').map (fun w => (j :: w.1, w.2))).filter (fun w => isr B w.2)
        rw [List.filter_map]
        by_cases hr : isr B b' = true
        · rw [if_pos hr]
          dsimp only
          rw [ws_ren n _ _ b' hr]
          rfl
        · rw [if_neg hr]
          dsimp only
          have : List.filter ((fun w : Way => isr B w.2) ∘ fun w : Way => (j :: w.1, w.2)) (ws false ap A B n (i + 1) (nxf ap fr j) b') = [] := by
            rw [List.filter_eq_nil_iff]
            intro w hw hz
            exact hr (isr_mono (ws_ext n _ _ b' w hw) hz)
          rw [this]
          rfl
    · rw [if_neg hf, if_neg hf]
      rfl
theorem ne_filter (B : List Nat) : ∀ L : List Way, ne (L.filter (fun w => isr B w.2)) = Nat.blt 0 (rc B L)
  | [] => rfl
  | w :: L => by
    by_cases h : isr B w.2 = true
    · rw [List.filter_cons_of_pos (p := fun w : Way => isr B w.2) h]
      show true = Nat.blt 0 (r1 B w.2 + rc B L)
      refine (Nat.ble_eq_true_of_le ?_).symm
      unfold r1
      rw [if_pos h]
      omega
    · rw [List.filter_cons_of_neg (p := fun w : Way => isr B w.2) h, ne_filter B L]
      show _ = Nat.blt 0 (r1 B w.2 + rc B L)
      unfold r1
      rw [if_neg h, Nat.zero_add]
theorem lk_eq (A B : List Nat) : lk A B = (Nat.beq (nlit A) (nlit B) && ne (ws true true A B (nlit A) 0 ft b0)) := by
  unfold lk
  rw [ws_ren _ _ _ b0 (by rw [isr_t]; exact ⟨fun v t _ hb => (nomatch hb), fun u v s t _ _ hs _ _ => (nomatch hs)⟩), ne_filter]
  rfl
