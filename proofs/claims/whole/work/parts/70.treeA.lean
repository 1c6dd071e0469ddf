/-! ===== the tree: what it is ===== -/
section
variable (V : Nat → Nat → Nat) (n : Nat)
def agr (a b l : Nat) : Prop := ∀ i, i < l → V a i = V b i
def AH (a b : Nat) : Prop := (∃ i, i < n ∧ agr V a b i ∧ V a i < V b i) ∨ (agr V a b n ∧ a < b)
/-- the first one of j from i on at which two differ -/
def fu (a b : Nat) : Nat → Nat → Nat
  | 0, i => i
  | j + 1, i => if V a i = V b i then fu a b j (i + 1) else i
end
section
variable {V : Nat → Nat → Nat} {n : Nat}
theorem agr.rf {a l : Nat} : agr V a a l := fun _ _ => rfl
theorem agr.sy {a b l : Nat} (h : agr V a b l) : agr V b a l := fun i hi => (h i hi).symm
theorem agr.tr {a b c l : Nat} (h : agr V a b l) (k : agr V b c l) : agr V a c l := fun i hi => (h i hi).trans (k i hi)
theorem agr.mo {a b l m : Nat} (h : agr V a b l) (hm : m ≤ l) : agr V a b m := fun i hi => h i (by omega)
theorem agr.s {a b l : Nat} (h : agr V a b l) (k : V a l = V b l) : agr V a b (l + 1) := fun i hi => by
  by_cases z : i = l
  · rw [z]; exact k
  · exact h i (by omega)
theorem AH.tr {a b c : Nat} (h : AH V n a b) (k : AH V n b c) : AH V n a c := by
  rcases h with ⟨i, h1, h2, h3⟩ | ⟨h1, h2⟩
  · rcases k with ⟨j, k1, k2, k3⟩ | ⟨k1, k2⟩
    · rcases Nat.lt_trichotomy i j with z | z | z
      · exact Or.inl ⟨i, h1, h2.tr (k2.mo (by omega)), by rw [← k2 i z]; exact h3⟩
      · subst z
        exact Or.inl ⟨i, h1, h2.tr k2, by omega⟩
      · exact Or.inl ⟨j, k1, (h2.mo (by omega)).tr k2, by rw [h2 j z]; exact k3⟩
    · exact Or.inl ⟨i, h1, h2.tr (k1.mo (by omega)), by rw [← k1 i h1]; exact h3⟩
  · rcases k with ⟨j, k1, k2, k3⟩ | ⟨k1, k2⟩
    · exact Or.inl ⟨j, k1, (h1.mo (by omega)).tr k2, by rw [h1 j k1]; exact k3⟩
    · exact Or.inr ⟨h1.tr k1, by omega⟩
theorem fu_le (a b : Nat) : ∀ j i, i ≤ fu V a b j i ∧ fu V a b j i ≤ i + j
  | 0, i => ⟨Nat.le_refl _, Nat.le_refl _⟩
  | j + 1, i => by
    unfold fu
    have := fu_le a b j (i + 1)
    split <;> omega
theorem fu_agr (a b : Nat) : ∀ j i, agr V a b i → agr V a b (fu V a b j i)
  | 0, i, h => h
  | j + 1, i, h => by
    unfold fu
    by_cases z : V a i = V b i
    · rw [if_pos z]
      exact fu_agr a b j (i + 1) (h.s z)
    · rw [if_neg z]
      exact h
theorem fu_ne (a b : Nat) : ∀ j i, fu V a b j i < i + j → V a (fu V a b j i) ≠ V b (fu V a b j i)
  | 0, i, h => absurd h (Nat.lt_irrefl _)
  | j + 1, i, h => by
    unfold fu at h ⊢
    by_cases z : V a i = V b i
    · rw [if_pos z] at h ⊢
      exact fu_ne a b j (i + 1) (by omega)
    · rw [if_neg z]
      exact z
/-- the first feature at which two differ -/
theorem fu0 (a b : Nat) : fu V a b n 0 ≤ n ∧ agr V a b (fu V a b n 0) ∧ (fu V a b n 0 < n → V a (fu V a b n 0) ≠ V b (fu V a b n 0)) := ⟨by have := (fu_le (V := V) a b n 0).2; omega, fu_agr a b n 0 (fun i hi => by omega), fun h => fu_ne a b n 0 (by omega)⟩
theorem fu_of {a b l : Nat} (hl : l ≤ n) (h : agr V a b l) : l ≤ fu V a b n 0 := by
  rcases Nat.lt_or_ge (fu V a b n 0) l with z | z
  · obtain ⟨h1, h2, h3⟩ := fu0 (V := V) (n := n) a b
    exact absurd (h _ z) (h3 (by omega))
  · exact z
theorem fu_eq {a b l : Nat} (hl : l < n) (h : agr V a b l) (hn : V a l ≠ V b l) : fu V a b n 0 = l := by
  have h1 := fu_of (n := n) (by omega) h
  rcases Nat.lt_or_ge l (fu V a b n 0) with z | z
  · exact absurd ((fu0 (V := V) (n := n) a b).2.1 l z) hn
  · omega
theorem AH_fu {a b : Nat} : AH V n a b ↔ (if fu V a b n 0 = n then a < b else V a (fu V a b n 0) < V b (fu V a b n 0)) := by
  obtain ⟨h1, h2, h3⟩ := fu0 (V := V) (n := n) a b
  constructor
  · rintro (⟨i, k1, k2, k3⟩ | ⟨k1, k2⟩)
    · have := fu_eq (n := n) k1 k2 (by omega)
      rw [this, if_neg (by omega)]
      exact k3
    · have := fu_of (n := n) (Nat.le_refl _) k1
      rw [if_pos (by omega)]
      exact k2
  · intro k
    by_cases z : fu V a b n 0 = n
    · rw [if_pos z] at k
      rw [z] at h2
      exact Or.inr ⟨h2, k⟩
    · rw [if_neg z] at k
      exact Or.inl ⟨_, by omega, h2, k⟩
theorem AH.to {a b : Nat} (h : ¬ AH V n a b) (hne : a ≠ b) : AH V n b a := by
  obtain ⟨h1, h2, h3⟩ := fu0 (V := V) (n := n) a b
  by_cases z : fu V a b n 0 = n
  · rw [AH_fu, if_pos z] at h
    rw [z] at h2
    exact Or.inr ⟨h2.sy, by omega⟩
  · rw [AH_fu, if_neg z] at h
    have := h3 (by omega)
    exact Or.inl ⟨_, by omega, h2.sy, by omega⟩
theorem AH.ne {a b : Nat} (h : AH V n a b) : a ≠ b := by
  rintro rfl
  rcases h with ⟨i, _, _, h⟩ | ⟨_, h⟩ <;> omega
theorem AH.le {a b l : Nat} (h : AH V n a b) (hl : l < n) (k : agr V a b l) : V a l ≤ V b l := by
  rcases h with ⟨i, h1, h2, h3⟩ | ⟨h1, h2⟩
  · rcases Nat.lt_trichotomy i l with z | z | z
    · have := k i z
      omega
    · subst z
      omega
    · have := h2 l z
      omega
  · exact Nat.le_of_eq (h1 l hl)
/-- what lies between two that agree agrees with them -/
theorem AH.mid {a b c l : Nat} (h : AH V n a b) (k : AH V n b c) (hl : l ≤ n) (e : agr V a c l) : agr V b c l := by
  have : ∀ m, m ≤ l → agr V b c m := by
    intro m
    induction m with
    | zero => exact fun _ i hi => by omega
    | succ m ih =>
      intro hm
      have im := ih (by omega)
      have em : V a m = V c m := e m (by omega)
      have h1 := h.le (show m < n by omega) ((e.mo (by omega)).tr im.sy)
      have h2 := k.le (show m < n by omega) im
      exact im.s (by omega)
  exact this l (Nat.le_refl _)
end
/-- a node: its level, the value above it, one of its clauses -/
abbrev Nd : Type := Nat × Nat × Nat
section
variable (V : Nat → Nat → Nat) (n : Nat)
def pn (k : Nat) : Nat → Nat → List Nd
  | 0, _ => []
  | m + 1, i => (i + 1, V k i, k) :: pn k m (i + 1)
/-- the nodes laid for a sorted row of clauses, the first one's from a level on -/
def rfn : Nat → List Nat → List Nd
  | _, [] => []
  | st, [k] => pn V k (n - st) st
  | st, k :: k' :: L => pn V k (n - st) st ++ rfn (fu V k' k n 0) (k' :: L)
def lv (N : List Nd) : List Nat := N.map (fun x => x.1)
end
/-- how many of a row of levels are just below one that is ahead of them -/
def cc (l : Nat) : List Nat → Nat
  | [] => 0
  | m :: R => if m ≤ l then 0 else if m = l + 1 then cc l R + 1 else cc l R
theorem lv_app (A B : List Nd) : lv (A ++ B) = lv A ++ lv B := List.map_append
theorem lv_cons (x : Nd) (B : List Nd) : lv (x :: B) = x.1 :: lv B := rfl
theorem pn_len (V : Nat → Nat → Nat) (k : Nat) : ∀ m i, (pn V k m i).length = m
  | 0, _ => rfl
  | m + 1, i => by
    show (pn V k m (i + 1)).length + 1 = m + 1
    rw [pn_len V k m]
theorem rfn_len (V : Nat → Nat → Nat) (n : Nat) : ∀ L st, (rfn V n st L).length ≤ n * L.length
  | [], _ => Nat.zero_le _
  | [k], st => by
    show (pn V k (n - st) st).length ≤ n * 1
    rw [pn_len]
    omega
  | k :: k' :: L, st => by
    show (pn V k (n - st) st ++ rfn V n (fu V k' k n 0) (k' :: L)).length ≤ n * ((k' :: L).length + 1)
    have := rfn_len V n (k' :: L) (fu V k' k n 0)
    rw [List.length_append, pn_len, Nat.mul_add, Nat.mul_one]
    omega
/-- two rows, one behind the other -/
theorem rfn_app (V : Nat → Nat → Nat) (n : Nat) : ∀ G st, G ≠ [] → ∀ r R, rfn V n st (G ++ r :: R) = rfn V n st G ++ rfn V n (fu V r (G.getLast?.getD 0) n 0) (r :: R)
  | [], _, h, _, _ => absurd rfl h
  | [k], st, _, r, R => rfl
  | k :: k' :: L, st, _, r, R => by
    have e := rfn_app V n (k' :: L) (fu V k' k n 0) (by simp) r R
    show pn V k (n - st) st ++ rfn V n (fu V k' k n 0) ((k' :: L) ++ r :: R) = (pn V k (n - st) st ++ rfn V n (fu V k' k n 0) (k' :: L)) ++ _
    rw [e, List.append_assoc]
    congr 2
theorem rfn_step (V : Nat → Nat → Nat) {n st : Nat} (h : st < n) (k : Nat) (L : List Nat) : rfn V n st (k :: L) = (st + 1, V k st, k) :: rfn V n (st + 1) (k :: L) := by
  have e : pn V k (n - st) st = (st + 1, V k st, k) :: pn V k (n - (st + 1)) (st + 1) := by
    rw [show n - st = (n - (st + 1)) + 1 by omega]
    rfl
  cases L with
  | nil => exact e
  | cons k' L =>
    show pn V k (n - st) st ++ _ = _ :: (pn V k (n - (st + 1)) (st + 1) ++ _)
    rw [e]
    rfl
theorem rfn_n (V : Nat → Nat → Nat) (n : Nat) : ∀ L, (∀ x ∈ L, ∀ y ∈ L, agr V x y n) → rfn V n n L = []
  | [], _ => rfl
  | [k], _ => by
    show pn V k (n - n) n = []
    rw [Nat.sub_self]
    rfl
  | k :: k' :: L, h => by
    show pn V k (n - n) n ++ rfn V n (fu V k' k n 0) (k' :: L) = []
    have e : fu V k' k n 0 = n := by
      have := fu_of (n := n) (Nat.le_refl n) (h k' (by simp) k (by simp))
      have := (fu0 (V := V) (n := n) k' k).1
      omega
    rw [Nat.sub_self, e, rfn_n V n (k' :: L) (fun x hx y hy => h x (List.mem_cons_of_mem _ hx) y (List.mem_cons_of_mem _ hy))]
    rfl
theorem pn_lv (V : Nat → Nat → Nat) (k : Nat) : ∀ m i x, x ∈ lv (pn V k m i) → i < x
  | 0, _, x, h => by cases h
  | m + 1, i, x, h => by
    have h : x ∈ (i + 1) :: lv (pn V k m (i + 1)) := h
    rcases List.mem_cons.mp h with rfl | h
    · omega
    · have := pn_lv V k m (i + 1) x h
      omega
theorem rfn_lv (V : Nat → Nat → Nat) (n l : Nat) : ∀ L st, l ≤ st → (∀ x ∈ L, ∀ y ∈ L, agr V x y l) → l ≤ n → ∀ x ∈ lv (rfn V n st L), l < x
  | [], _, _, _, _, x, hx => by cases hx
  | [k], st, h1, _, _, x, hx => by
    have := pn_lv V k (n - st) st x hx
    omega
  | k :: k' :: L, st, h1, h2, h3, x, hx => by
    have hx : x ∈ lv (pn V k (n - st) st ++ rfn V n (fu V k' k n 0) (k' :: L)) := hx
    rw [lv_app] at hx
    rcases List.mem_append.mp hx with hx | hx
    · have := pn_lv V k (n - st) st x hx
      omega
    · exact rfn_lv V n l (k' :: L) _ (fu_of h3 (h2 k' (by simp) k (by simp))) (fun x hx y hy => h2 x (List.mem_cons_of_mem _ hx) y (List.mem_cons_of_mem _ hy)) h3 x hx
-- the class's way to it
def mn (p : Nat → Bool) (g : Nat → Nat) : Nat → Nat
  | 0 => 1000000
  | k + 1 => if p k = true then min (mn p g k) (g k) else mn p g k
theorem mn_le {p : Nat → Bool} {g : Nat → Nat} : ∀ {m k : Nat}, k < m → p k = true → mn p g m ≤ g k
  | 0, k, h, _ => by omega
  | m + 1, k, h, hp => by
    unfold mn
    by_cases z : k = m
    · subst z
      rw [if_pos hp]
      exact Nat.min_le_right _ _
    · have := mn_le (g := g) (show k < m by omega) hp
      split
      · exact Nat.le_trans (Nat.min_le_left _ _) this
      · exact this
theorem mn_at {p : Nat → Bool} {g : Nat → Nat} : ∀ {m : Nat}, (∀ k, k < m → g k < 1000000) → mn p g m = 1000000 ∨ ∃ k, k < m ∧ p k = true ∧ mn p g m = g k
  | 0, _ => Or.inl rfl
  | m + 1, hg => by
    unfold mn
    by_cases z : p m = true
    · rw [if_pos z]
      rcases mn_at (p := p) (g := g) (m := m) (fun k hk => hg k (by omega)) with e | ⟨k, h1, h2, h3⟩
      · refine Or.inr ⟨m, by omega, z, ?_⟩
        rw [e]
        have := hg m (by omega)
        omega
      · by_cases y : mn p g m ≤ g m
        · exact Or.inr ⟨k, by omega, h2, by rw [Nat.min_eq_left y]; exact h3⟩
        · exact Or.inr ⟨m, by omega, z, by rw [Nat.min_eq_right (by omega)]⟩
    · rw [if_neg z]
      rcases mn_at (p := p) (g := g) (m := m) (fun k hk => hg k (by omega)) with e | ⟨k, h1, h2, h3⟩
      · exact Or.inl e
      · exact Or.inr ⟨k, by omega, h2, h3⟩
def hvp (p : Nat → Bool) (g : Nat → Nat) (w k : Nat) : Bool := p k && Nat.beq (g k) w
def rmp (p q : Nat → Bool) (k : Nat) : Bool := p k && !q k
/-- what a node is for the class: level, value, clauses, how many below -/
abbrev Ne : Type := Nat × Nat × Int32 × Nat
def tg (V : Nat → Nat → Nat) (F : (Nat → Bool) → List Ne × Nat) (l : Nat) : Nat → (Nat → Bool) → List Ne × Nat
  | 0, _ => ([], 0)
  | j + 1, p => if xn p 24 = false then ([], 0) else
      let w := mn p (fun k => V k l) 24
      let q := hvp p (fun k => V k l) w
      let f := F q
      let r := tg V F l j (rmp p q)
      ((l + 1, w, bs q 24, f.2) :: (f.1 ++ r.1), r.2 + 1)
def tn (V : Nat → Nat → Nat) : Nat → Nat → (Nat → Bool) → List Ne × Nat
  | 0, _, _ => ([], 0)
  | m + 1, l, p => tg V (tn V m (l + 1)) l 24 p
/-- the clauses of a node -/
def agb (V : Nat → Nat → Nat) (a b : Nat) : Nat → Bool
  | 0 => true
  | l + 1 => agb V a b l && Nat.beq (V a l) (V b l)
theorem agb_t {V : Nat → Nat → Nat} {a b : Nat} : ∀ {l : Nat}, agb V a b l = true ↔ agr V a b l
  | 0 => ⟨fun _ i hi => by omega, fun _ => rfl⟩
  | l + 1 => by
    unfold agb
    rw [Bool.and_eq_true, agb_t, beq_t]
    exact ⟨fun h => h.1.s h.2, fun h => ⟨h.mo (by omega), h l (by omega)⟩⟩
def mem (V : Nat → Nat → Nat) (kp : Nat → Bool) (x : Nd) (k : Nat) : Bool := kp k && agb V k x.2.2 x.1
/-- the nodes as the class holds them, levels behind them known -/
def dx (V : Nat → Nat → Nat) (kp : Nat → Bool) (X : List Nat) : List Nd → List Ne
  | [] => []
  | x :: R => (x.1, x.2.1, bs (mem V kp x) 24, cc x.1 (lv R ++ X)) :: dx V kp X R
theorem dx_app (V : Nat → Nat → Nat) (kp : Nat → Bool) (X : List Nat) : ∀ A B, dx V kp X (A ++ B) = dx V kp (lv B ++ X) A ++ dx V kp X B
  | [], B => rfl
  | x :: A, B => by
    show (x.1, x.2.1, bs (mem V kp x) 24, cc x.1 (lv (A ++ B) ++ X)) :: dx V kp X (A ++ B) = (x.1, x.2.1, bs (mem V kp x) 24, cc x.1 (lv A ++ (lv B ++ X))) :: (dx V kp (lv B ++ X) A ++ dx V kp X B)
    rw [dx_app V kp X A B, lv_app, List.append_assoc]
theorem dx_len (V : Nat → Nat → Nat) (kp : Nat → Bool) (X : List Nat) : ∀ A, (dx V kp X A).length = A.length
  | [] => rfl
  | x :: A => by
    show (dx V kp X A).length + 1 = A.length + 1
    rw [dx_len V kp X A]
/-- a row of levels begins not deeper than l -/
def hd (l : Nat) : List Nat → Prop
  | [] => True
  | m :: _ => m ≤ l
theorem cc_hd {l : Nat} : ∀ {X : List Nat}, hd l X → cc l X = 0
  | [], _ => rfl
  | m :: R, h => if_pos h
theorem cc_deep {l : Nat} : ∀ {A X : List Nat}, (∀ x ∈ A, l + 1 < x) → cc l (A ++ X) = cc l X
  | [], _, _ => rfl
  | a :: A, X, h => by
    have h1 := h a (List.mem_cons_self ..)
    show (if a ≤ l then 0 else if a = l + 1 then cc l (A ++ X) + 1 else cc l (A ++ X)) = _
    rw [if_neg (by omega), if_neg (by omega), cc_deep (fun x hx => h x (List.mem_cons_of_mem _ hx))]
theorem cc_one {l : Nat} (X : List Nat) : cc l ((l + 1) :: X) = cc l X + 1 := by
  show (if l + 1 ≤ l then 0 else if l + 1 = l + 1 then cc l X + 1 else cc l X) = _
  rw [if_neg (by omega), if_pos rfl]
/-- a sorted row parts where a set ends that holds of all ahead of its own -/
theorem split_f {R : Nat → Nat → Prop} {q : Nat → Bool} : ∀ {L : List Nat}, L.Pairwise R → (∀ x ∈ L, ∀ y ∈ L, R x y → q y = true → q x = true) → L = L.filter q ++ L.filter (fun k => !q k)
  | [], _, _ => rfl
  | a :: L, h, hq => by
    rw [List.pairwise_cons] at h
    have ih := split_f (q := q) h.2 (fun x hx y hy => hq x (List.mem_cons_of_mem _ hx) y (List.mem_cons_of_mem _ hy))
    cases ha : q a with
    | true =>
      rw [List.filter_cons_of_pos ha, List.filter_cons_of_neg (by rw [ha]; decide)]
      show a :: L = a :: (L.filter q ++ _)
      rw [← ih]
    | false =>
      have : L.filter q = [] := by
        rw [List.filter_eq_nil_iff]
        intro x hx hqx
        have := hq a (List.mem_cons_self ..) x (List.mem_cons_of_mem _ hx) (h.1 x hx) hqx
        rw [ha] at this
        cases this
      rw [this, List.nil_append] at ih
      rw [List.filter_cons_of_neg (by rw [ha]; decide), List.filter_cons_of_pos (by rw [ha]; rfl), this, List.nil_append, ← ih]
theorem filter_ff (q r : Nat → Bool) : ∀ L : List Nat, (L.filter q).filter r = L.filter (fun k => q k && r k)
  | [] => rfl
  | a :: L => by
    cases ha : q a with
    | true =>
      rw [List.filter_cons_of_pos ha]
      cases hr : r a with
      | true => rw [List.filter_cons_of_pos hr, List.filter_cons_of_pos (by rw [ha, hr]; rfl), filter_ff q r L]
      | false => rw [List.filter_cons_of_neg (by rw [hr]; decide), List.filter_cons_of_neg (by rw [ha, hr]; decide), filter_ff q r L]
    | false => rw [List.filter_cons_of_neg (by rw [ha]; decide), List.filter_cons_of_neg (by rw [ha]; simp), filter_ff q r L]
theorem lst_mem : ∀ (G : List Nat) (g : Nat), (g :: G).getLast?.getD 0 ∈ g :: G
  | [], g => by simp
  | a :: G, g => by
    have := lst_mem G a
    rw [List.getLast?_cons_cons]
    exact List.mem_cons_of_mem _ this
theorem filter_le (q r : Nat → Bool) (h : ∀ k, q k = true → r k = true) : ∀ L : List Nat, (L.filter q).length ≤ (L.filter r).length
  | [] => Nat.le_refl _
  | a :: L => by
    have ih := filter_le q r h L
    cases ha : q a with
    | true =>
      rw [List.filter_cons_of_pos ha, List.filter_cons_of_pos (h a ha)]
      exact Nat.succ_le_succ ih
    | false =>
      rw [List.filter_cons_of_neg (by rw [ha]; decide)]
      cases hr : r a with
      | true =>
        rw [List.filter_cons_of_pos hr]
        exact Nat.le_succ_of_le ih
      | false =>
        rw [List.filter_cons_of_neg (by rw [hr]; decide)]
        exact ih
section
variable {V : Nat → Nat → Nat} {n : Nat} {kp : Nat → Bool} {S : List Nat}
/-- the two ways lead to the same nodes -/
theorem tg_rfn (hV : ∀ k i, k < 24 → V k i < 1000000) (hS : S.Pairwise (AH V n)) (hm : ∀ k, k ∈ S ↔ k < 24 ∧ kp k = true) {m l : Nat} (hml : m + 1 + l = n) (F : (Nat → Bool) → List Ne × Nat)
    (hF : ∀ q, (∀ x, q x = true → kp x = true) → (∀ x ∈ S.filter q, ∀ y ∈ S.filter q, agr V x y (l + 1)) → (∀ j x, kp j = true → q x = true → agr V j x (l + 1) → q j = true) → ∀ X, hd (l + 1) X → (F q).1 = dx V kp X (rfn V n (l + 1) (S.filter q)) ∧ (F q).2 = cc (l + 1) (lv (rfn V n (l + 1) (S.filter q)) ++ X)) :
    ∀ j p, (S.filter p).length ≤ j → (∀ x, p x = true → kp x = true) → (∀ x ∈ S.filter p, ∀ y ∈ S.filter p, agr V x y l) → (∀ j x, kp j = true → p x = true → agr V j x (l + 1) → p j = true) → ∀ X, hd l X → (tg V F l j p).1 = dx V kp X (rfn V n l (S.filter p)) ∧ (tg V F l j p).2 = cc l (lv (rfn V n l (S.filter p)) ++ X) := by
  intro j
  induction j with
  | zero =>
    intro p hj h1 h2 h3 X hX
    have : S.filter p = [] := List.eq_nil_of_length_eq_zero (by omega)
    rw [this]
    exact ⟨rfl, (cc_hd hX).symm⟩
  | succ j ih =>
    intro p hj h1 h2 h3 X hX
    unfold tg
    by_cases he : xn p 24 = false
    · rw [if_pos he]
      have : S.filter p = [] := by
        rw [List.filter_eq_nil_iff]
        intro x hx hpx
        rw [xn_f] at he
        rw [he x ((hm x).mp hx).1] at hpx
        cases hpx
      rw [this]
      exact ⟨rfl, (cc_hd hX).symm⟩
    · rw [if_neg he]
      obtain ⟨w, hw⟩ : ∃ w, w = mn p (fun k => V k l) 24 := ⟨_, rfl⟩
      obtain ⟨q, hq⟩ : ∃ q, q = hvp p (fun k => V k l) w := ⟨_, rfl⟩
      have hqt : ∀ k, q k = true ↔ p k = true ∧ V k l = w := by
        intro k
        rw [hq]
        unfold hvp
        rw [Bool.and_eq_true, beq_t]
      obtain ⟨i0, hi0, hp0⟩ : ∃ i, i < 24 ∧ p i = true := by
        rw [← xn_t]
        cases hx : xn p 24 with
        | true => rfl
        | false => exact absurd hx he
      have hmin : ∀ k, k < 24 → p k = true → w ≤ V k l := fun k hk hpk => by rw [hw]; exact mn_le hk hpk
      obtain ⟨k0, hk0, hpk0, hwk⟩ : ∃ k, k < 24 ∧ p k = true ∧ w = V k l := by
        rcases mn_at (p := p) (g := fun k => V k l) (m := 24) (fun k hk => hV k l hk) with e | ⟨k, z1, z2, z3⟩
        · have := hmin i0 hi0 hp0
          have := hV i0 l hi0
          omega
        · exact ⟨k, z1, z2, by rw [hw]; exact z3⟩
      have hrt : ∀ k, rmp p q k = true ↔ p k = true ∧ V k l ≠ w := by
        intro k
        unfold rmp
        rw [Bool.and_eq_true]
        constructor
        · rintro ⟨a, b⟩
          refine ⟨a, fun z => ?_⟩
          rw [(hqt k).mpr ⟨a, z⟩] at b
          cases b
        · rintro ⟨a, b⟩
          refine ⟨a, ?_⟩
          cases hk : q k with
          | false => rfl
          | true => exact absurd ((hqt k).mp hk).2 b
      have hmS : ∀ {r : Nat → Bool} {x : Nat}, x ∈ S.filter r ↔ x ∈ S ∧ r x = true := List.mem_filter
      -- the row parts
      have e1 : S.filter p = S.filter q ++ S.filter (rmp p q) := by
        have z := split_f (q := q) (hS.filter p) (fun x hx y hy hr hqy => by
          have hx' := hmS.mp hx
          have hy' := hmS.mp hy
          refine (hqt x).mpr ⟨hx'.2, ?_⟩
          have a1 := hr.le (show l < n by omega) (h2 x hx y hy)
          have a2 := hmin x ((hm x).mp hx'.1).1 hx'.2
          have a3 := ((hqt y).mp hqy).2
          omega)
        rw [filter_ff, filter_ff] at z
        have z1 : (fun k => p k && q k) = q := by
          funext k
          apply bool_iff
          rw [Bool.and_eq_true]
          exact ⟨fun h => h.2, fun h => ⟨((hqt k).mp h).1, h⟩⟩
        rw [z1] at z
        exact z
      have k0S : k0 ∈ S.filter q := hmS.mpr ⟨(hm k0).mpr ⟨hk0, h1 k0 hpk0⟩, (hqt k0).mpr ⟨hpk0, hwk.symm⟩⟩
      obtain ⟨g, G, hG⟩ : ∃ g G, S.filter q = g :: G := by
        cases hc : S.filter q with
        | nil => rw [hc] at k0S; cases k0S
        | cons g G => exact ⟨g, G, rfl⟩
      have gS : g ∈ S.filter q := by rw [hG]; exact List.mem_cons_self ..
      have gq := (hmS.mp gS).2
      have gw := ((hqt g).mp gq).2
      have gp := ((hqt g).mp gq).1
      have sub : ∀ x ∈ S.filter q, x ∈ S.filter p := fun x hx => by
        have := hmS.mp hx
        exact hmS.mpr ⟨this.1, ((hqt x).mp this.2).1⟩
      have q1 : ∀ x, q x = true → kp x = true := fun x hx => h1 x ((hqt x).mp hx).1
      have q2 : ∀ x ∈ S.filter q, ∀ y ∈ S.filter q, agr V x y (l + 1) := fun x hx y hy => (h2 x (sub x hx) y (sub y hy)).s (by
        have a1 := ((hqt x).mp (hmS.mp hx).2).2
        have a2 := ((hqt y).mp (hmS.mp hy).2).2
        omega)
      have q3 : ∀ j x, kp j = true → q x = true → agr V j x (l + 1) → q j = true := fun j x hj hx ha => by
        have a1 := (hqt x).mp hx
        refine (hqt j).mpr ⟨h3 j x hj a1.1 ha, ?_⟩
        have := ha l (by omega)
        omega
      have r1 : ∀ x, rmp p q x = true → kp x = true := fun x hx => h1 x ((hrt x).mp hx).1
      have subr : ∀ x ∈ S.filter (rmp p q), x ∈ S.filter p := fun x hx => by
        have := hmS.mp hx
        exact hmS.mpr ⟨this.1, ((hrt x).mp this.2).1⟩
      have r2 : ∀ x ∈ S.filter (rmp p q), ∀ y ∈ S.filter (rmp p q), agr V x y l := fun x hx y hy => h2 x (subr x hx) y (subr y hy)
      have r3 : ∀ j x, kp j = true → rmp p q x = true → agr V j x (l + 1) → rmp p q j = true := fun j x hj hx ha => by
        have a1 := (hrt x).mp hx
        refine (hrt j).mpr ⟨h3 j x hj a1.1 ha, ?_⟩
        have := ha l (by omega)
        omega
      have rl : (S.filter (rmp p q)).length ≤ j := by
        have := congrArg List.length e1
        rw [List.length_append, hG] at this
        have : (S.filter p).length = G.length + 1 + (S.filter (rmp p q)).length := this
        omega
      obtain ⟨i1, i2⟩ := ih (rmp p q) rl r1 r2 r3 X hX
      have hX' : hd (l + 1) (lv (rfn V n l (S.filter (rmp p q))) ++ X) := by
        cases hR : S.filter (rmp p q) with
        | nil =>
          show hd (l + 1) X
          cases X with
          | nil => trivial
          | cons a X => exact Nat.le_succ_of_le hX
        | cons r R =>
          rw [rfn_step V (show l < n by omega)]
          exact Nat.le_refl _
      obtain ⟨f1, f2⟩ := hF q q1 q2 q3 _ hX'
      have bq : bs q 24 = bs (mem V kp (l + 1, w, g)) 24 := by
        refine bs_congr 24 (fun k hk => bool_iff ?_)
        unfold mem
        rw [Bool.and_eq_true]
        show q k = true ↔ kp k = true ∧ agb V k g (l + 1) = true
        rw [agb_t]
        constructor
        · intro hqk
          exact ⟨q1 k hqk, q2 k (hmS.mpr ⟨(hm k).mpr ⟨hk, q1 k hqk⟩, hqk⟩) g gS⟩
        · rintro ⟨a, b⟩
          exact q3 k g a gq b
      have e2 : rfn V n l (S.filter p) = (l + 1, w, g) :: (rfn V n (l + 1) (S.filter q) ++ rfn V n l (S.filter (rmp p q))) := by
        rw [e1]
        cases hR : S.filter (rmp p q) with
        | nil =>
          rw [List.append_nil, hG, rfn_step V (show l < n by omega), gw]
          show _ = _ :: (_ ++ [])
          rw [List.append_nil]
        | cons r R =>
          rw [rfn_app V n _ l (by rw [hG]; simp)]
          have e3 : fu V r ((S.filter q).getLast?.getD 0) n 0 = l := by
            have hlast : (S.filter q).getLast?.getD 0 ∈ S.filter q := by
              rw [hG]
              exact lst_mem G g
            have hr : r ∈ S.filter (rmp p q) := by rw [hR]; exact List.mem_cons_self ..
            refine fu_eq (show l < n by omega) (h2 r (subr r hr) _ (sub _ hlast)) ?_
            have a1 := ((hqt _).mp (hmS.mp hlast).2).2
            have a2 := ((hrt r).mp (hmS.mp hr).2).2
            omega
          rw [e3, hG, rfn_step V (show l < n by omega) g G, gw]
          rfl
      rw [← hw]
      dsimp only
      rw [← hq]
      rw [e2]
      constructor
      · show _ :: _ = (l + 1, w, bs (mem V kp (l + 1, w, g)) 24, cc (l + 1) (lv (rfn V n (l + 1) (S.filter q) ++ rfn V n l (S.filter (rmp p q))) ++ X)) :: dx V kp X (rfn V n (l + 1) (S.filter q) ++ rfn V n l (S.filter (rmp p q)))
        rw [dx_app, lv_app, List.append_assoc, ← f1, ← f2, ← i1, bq]
      · rw [i2, lv_cons, lv_app, List.cons_append, cc_one, List.append_assoc, cc_deep (A := lv (rfn V n (l + 1) (S.filter q))) (rfn_lv V n (l + 1) _ (l + 1) (Nat.le_refl _) q2 (by omega))]
theorem tn_rfn (hV : ∀ k i, k < 24 → V k i < 1000000) (hS : S.Pairwise (AH V n)) (hm : ∀ k, k ∈ S ↔ k < 24 ∧ kp k = true) (hl24 : S.length ≤ 24) : ∀ m l, m + l = n → ∀ p, (∀ x, p x = true → kp x = true) → (∀ x ∈ S.filter p, ∀ y ∈ S.filter p, agr V x y l) → (∀ j x, kp j = true → p x = true → agr V j x l → p j = true) → ∀ X, hd l X → (tn V m l p).1 = dx V kp X (rfn V n l (S.filter p)) ∧ (tn V m l p).2 = cc l (lv (rfn V n l (S.filter p)) ++ X) := by
  intro m
  induction m with
  | zero =>
    intro l hl p h1 h2 h3 X hX
    obtain rfl : l = n := by omega
    rw [rfn_n V l _ h2]
    exact ⟨rfl, (cc_hd hX).symm⟩
  | succ m ih =>
    intro l hl p h1 h2 h3 X hX
    refine tg_rfn hV hS hm (by omega) (tn V m (l + 1)) (fun q q1 q2 q3 X hX => ih (l + 1) (by omega) q q1 q2 q3 X hX) 24 p ?_ h1 h2 (fun j x a b c => h3 j x a b (c.mo (by omega))) X hX
    exact Nat.le_trans (List.length_filter_le _ _) hl24
end
