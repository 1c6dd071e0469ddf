/-! ===== the words that hold throughout, the surroundings of every method ===== -/
def mgw : List Cond := lw_tbl.filter goodWord
theorem mgw_ok {s U : State} {args a' : Array Value} (hW : s.WarmedH U.vm) (h : ∀ w ∈ mgw, w.before args s = true) : ∀ w ∈ mgw, w.before a' U = true :=
  fun w hw => word_at hW (good_of_word (List.mem_filter.mp hw).2) (h w hw)
theorem mgw_in {w : Cond} (h : w ∈ lw_tbl) (hg : goodWord w = true) : w ∈ mgw := List.mem_filter.mpr ⟨h, hg⟩
/-- the words on nest mates -/
def mnest (w : Cond) : Bool := match w with
  | .methodLinkNest _ _ _ _ => true
  | .fieldLinkNest _ _ _ _ _ _ => true
  | _ => false
def mnw_ : List Cond := lw_tbl.filter mnest
def va_AI (U : State) : Prop := (Cond.arrayOver (.array .int)).before #[] U = true
def mE (g : mG) (U : State) (H : Heap) : Prop := va_K (gD g) vwCl (gty g) U ∧ (∀ w ∈ mnw_, va_Nw w U) ∧ va_AO RX0 U ∧ va_AO RX7 U ∧ va_AI U ∧ va_Z RX9 "PREDICATE_TERMS" "[I" (.ref (gt g)) (gA g) U H ∧ va_T .int (gt g) 4 (fun j => .int (mptv j)) (gA g) U H ∧ (va_X (gb g) (gL g) (gx g) U H ∧ gb g < gB g)
theorem mnest_warm {w : Cond} (hw : mnest w = true) {s U : State} (hW : s.WarmedH U.vm) (h : va_Nw w s) : va_Nw w U := by
  cases w <;> first | exact va_Nw.warmM hW h | exact va_Nw.warmF hW h | exact nomatch hw
theorem mnest_same {w : Cond} (hw : mnest w = true) {s U : State} (hW : s.vm = U.vm) (h : va_Nw w s) : va_Nw w U := by
  cases w <;> first | exact va_Nw.same rfl hW h | exact nomatch hw
theorem va_AI.spec {args : Array Value} {s : State} (h : (Cond.arrayOver (.array .int)).before args s = true) :
    ∃ comp c k, s.vm.findClass (FieldType.array .int).toString = some comp ∧ (s.vm.classes.findIdx? fun (x : Class) => match x.kind with | .array component _ => component == comp | _ => false) = some c ∧ s.vm.classes[c]? = some k ∧ k.kind = .array comp (.array .int) ∧ s.vm.findClass ("[" ++ (FieldType.array .int).toString) = some c := by
  simp only [Cond.before, Cond.holds, Cond.value, beq_iff_eq] at h
  cases hc : s.vm.findClass (FieldType.array .int).toString with
  | none => simp [hc] at h
  | some comp =>
    simp only [hc, Option.bind_some, Option.bind_eq_some_iff, Option.map_eq_some_iff] at h
    obtain ⟨c, hi, k, hk, hb⟩ := h
    obtain ⟨hlt, hp, -⟩ := Array.findIdx?_eq_some_iff_getElem.mp hi
    have e : s.vm.classes[c] = k := by
      have := Array.getElem?_eq_getElem hlt
      rw [hk] at this
      exact (Option.some.inj this).symm
    rw [e] at hp
    cases hkind : k.kind with
    | array c2 t2 =>
      rw [hkind] at hp hb
      simp only [Bool.and_eq_true, decide_eq_true_eq, beq_iff_eq] at hp hb
      exact ⟨comp, c, k, rfl, hi, hk, by rw [hkind, hp, hb.1], hb.2⟩
    | _ => simp [hkind] at hp
theorem va_AI.moved {u U : State} (hvm : u.vm.Alike U.vm) (h : va_AI u) : va_AI U := by
  obtain ⟨comp, c, k, h1, h2, h3, h4, h5⟩ := va_AI.spec h
  obtain ⟨k', hk', he⟩ := hvm.2.2 _ _ h3
  have hi : (U.vm.classes.findIdx? fun (x : Class) => match x.kind with | .array component _ => component == comp | _ => false) = some c := by
    have e1 := va_idx_bare U.vm comp
    have e2 := va_idx_bare u.vm comp
    first | rw [hvm.bare_eq] at e1 | rw [← hvm.bare_eq] at e1
    exact e1.symm.trans (e2.trans h2)
  have hkind : k'.kind = .array comp (.array .int) := by rw [he]; exact h4
  have f1 : U.vm.findClass (FieldType.array .int).toString = some comp := by rw [hvm.findClass]; exact h1
  have f2 : U.vm.findClass ("[" ++ (FieldType.array .int).toString) = some c := by rw [hvm.findClass]; exact h5
  unfold va_AI Cond.before Cond.holds
  simp only [Cond.value]
  rw [f1, Option.bind_some]
  refine (congrArg (fun o : Option Nat => (o.bind (fun c => (U.vm.classes[c]?).map fun (k : Class) => match k.kind with | .array _ ty => decide (ty = FieldType.array .int) && decide (U.vm.findClass ("[" ++ (FieldType.array .int).toString) = some c) | _ => false) == some true)) hi).trans ?_
  simp [hk', hkind, f2]
theorem mE.alike {g : mG} {s U : State} {H : Heap} (hvm : s.vm.Alike U.vm) (hn : ∀ w ∈ mnw_, va_Nw w U) (h : mE g s H) : mE g U H := by
  obtain ⟨h1, -, h3, h4, h5, h6, h7, h8, h9⟩ := h
  exact ⟨h1.moved hvm, hn, h3.moved hvm, h4.moved hvm, h5.moved hvm, h6.moved hvm, h7.moved hvm, h8.moved hvm, h9⟩
theorem mE.warm {g : mG} {s U : State} {H : Heap} (hW : s.WarmedH U.vm) (h : mE g s H) : mE g U H :=
  h.alike hW.alike (fun w hw => mnest_warm (List.mem_filter.mp hw).2 hW (h.2.1 w hw))
theorem mE.same {g : mG} {s U : State} {H : Heap} (hW : s.vm = U.vm) (h : mE g s H) : mE g U H :=
  h.alike (by rw [hW]; exact Vm.Alike.refl _) (fun w hw => mnest_same (List.mem_filter.mp hw).2 hW (h.2.1 w hw))
theorem mE.kept {g : mG} {U : State} {H H1 : Heap} (hq : ∀ a : Nat, a < H.size → ¬ gA g a → H1[a]? = H[a]?) (h : mE g U H) : mE g U H1 := by
  obtain ⟨h1, h2, h3, h4, h5, h6, h7, h8, h9⟩ := h
  refine ⟨h1, h2, h3, h4, h5, h6.kept hq, h7.kept hq, h8.kept (hq _ ?_ (Nat.not_le.mpr h9)), h9⟩
  obtain ⟨scr, q, -⟩ := h8
  exact (Array.getElem?_eq_some_iff.mp q).1
-- locals
def mlv (g : mG) : Nat → List (Option mv) → List (Nat × Value)
  | _, [] => []
  | i, none :: r => mlv g (i + 1) r
  | i, some v :: r => (i, mcv g v) :: mlv g (i + 1) r
def mLs (g : mG) (nL : Nat) (nl : Bool) (L : List (Option mv)) (ls : Array Slot) : Prop := lv_has ls nL (mlv g 0 L) ∧ L.length = nL ∧ (nl = true → ∀ x ∈ L, mnolong x = true)
theorem mlv_mem {g : mG} : ∀ (L : List (Option mv)) (i n : Nat) (v : mv), mloc L n = some v → (i + n, mcv g v) ∈ mlv g i L
  | [], _, _, _, h => by cases h
  | none :: r, i, 0, v, h => by cases h
  | some w :: r, i, 0, v, h => by
    cases h
    exact List.mem_cons_self
  | none :: r, i, n + 1, v, h => by
    have := mlv_mem (g := g) r (i + 1) n v h
    rw [show i + (n + 1) = i + 1 + n by omega]
    exact this
  | some w :: r, i, n + 1, v, h => by
    have := mlv_mem (g := g) r (i + 1) n v h
    rw [show i + (n + 1) = i + 1 + n by omega]
    exact List.mem_cons_of_mem _ this
theorem mlv_of {g : mG} : ∀ (L : List (Option mv)) (i : Nat) (q : Nat × Value), q ∈ mlv g i L → ∃ (n : Nat) (v : mv), mloc L n = some v ∧ q = (i + n, mcv g v)
  | [], _, _, h => by cases h
  | none :: r, i, q, h => by
    obtain ⟨n, v, h1, h2⟩ := mlv_of r (i + 1) q h
    exact ⟨n + 1, v, h1, by rw [h2, show i + 1 + n = i + (n + 1) by omega]⟩
  | some w :: r, i, q, h => by
    rcases List.mem_cons.mp h with h | h
    · exact ⟨0, w, rfl, h⟩
    · obtain ⟨n, v, h1, h2⟩ := mlv_of r (i + 1) q h
      exact ⟨n + 1, v, h1, by rw [h2, show i + 1 + n = i + (n + 1) by omega]⟩
theorem mLs.get {g : mG} {nL : Nat} {nl : Bool} {L : List (Option mv)} {ls : Array Slot} (h : mLs g nL nl L ls) {n : Nat} {v : mv} (hv : mloc L n = some v) : ls[n]? = some (.val (mcv g v)) := by
  have := h.1.2.2 _ (mlv_mem L 0 n v hv)
  rw [Nat.zero_add] at this
  exact this
theorem mloc_lt : ∀ (L : List (Option mv)) (n : Nat) (v : mv), mloc L n = some v → n < L.length
  | [], _, _, h => by cases h
  | _ :: r, 0, _, _ => Nat.succ_pos _
  | _ :: r, n + 1, v, h => Nat.succ_lt_succ (mloc_lt r n v h)
theorem mset_len : ∀ (L : List (Option mv)) (n : Nat) (v : mv), (mset L n v).length = L.length
  | [], _, _ => rfl
  | _ :: r, 0, _ => rfl
  | _ :: r, n + 1, v => congrArg Nat.succ (mset_len r n v)
theorem munset_len : ∀ (L : List (Option mv)) (n : Nat), (munset L n).length = L.length
  | [], _ => rfl
  | _ :: r, 0 => rfl
  | _ :: r, n + 1 => congrArg Nat.succ (munset_len r n)
theorem mset_loc : ∀ (L : List (Option mv)) (n j : Nat) (v w : mv), mloc (mset L n v) j = some w → (j = n ∧ w = v) ∨ (j ≠ n ∧ mloc L j = some w)
  | [], _, _, _, _, h => by cases h
  | _ :: r, 0, 0, v, w, h => by
    cases h
    exact Or.inl ⟨rfl, rfl⟩
  | _ :: r, 0, j + 1, v, w, h => Or.inr ⟨by omega, h⟩
  | _ :: r, n + 1, 0, v, w, h => Or.inr ⟨by omega, h⟩
  | _ :: r, n + 1, j + 1, v, w, h => by
    rcases mset_loc r n j v w h with ⟨h1, h2⟩ | ⟨h1, h2⟩
    · exact Or.inl ⟨by omega, h2⟩
    · exact Or.inr ⟨by omega, h2⟩
theorem munset_loc : ∀ (L : List (Option mv)) (n j : Nat) (w : mv), mloc (munset L n) j = some w → j ≠ n ∧ mloc L j = some w
  | [], _, _, _, h => by cases h
  | _ :: r, 0, 0, w, h => by cases h
  | _ :: r, 0, j + 1, w, h => ⟨by omega, h⟩
  | _ :: r, n + 1, 0, w, h => ⟨by omega, h⟩
  | _ :: r, n + 1, j + 1, w, h => by
    obtain ⟨h1, h2⟩ := munset_loc r n j w h
    exact ⟨by omega, h2⟩
theorem mset_nl : ∀ (L : List (Option mv)) (n : Nat) (v : mv), mnolong (some v) = true → (∀ x ∈ L, mnolong x = true) → ∀ x ∈ mset L n v, mnolong x = true
  | [], _, _, _, _, _, hx => by cases hx
  | a :: r, 0, v, hv, hL, x, hx => by
    rcases List.mem_cons.mp hx with rfl | hx
    · exact hv
    · exact hL x (List.mem_cons_of_mem _ hx)
  | a :: r, n + 1, v, hv, hL, x, hx => by
    rcases List.mem_cons.mp hx with rfl | hx
    · exact hL _ List.mem_cons_self
    · exact mset_nl r n v hv (fun y hy => hL y (List.mem_cons_of_mem _ hy)) x hx
theorem mloc_mem : ∀ (L : List (Option mv)) (n : Nat) (v : mv), mloc L n = some v → some v ∈ L
  | [], _, _, h => by cases h
  | a :: r, 0, v, h => by
    have h : a = some v := h
    rw [h]
    exact List.mem_cons_self
  | _ :: r, n + 1, v, h => List.mem_cons_of_mem _ (mloc_mem r n v h)
theorem mcv_cat {g : mG} {v : mv} : (mcv g v).category = 2 ↔ mnolong (some v) = false := by
  rcases v with x | x | a
  · exact ⟨fun h => (by cases h), fun h => (by cases h)⟩
  · exact ⟨fun _ => rfl, fun _ => rfl⟩
  · constructor
    · intro h
      have h : (va_rf (mro g a)).category = 2 := h
      cases hm : mro g a with
      | none => rw [hm] at h; cases h
      | some b => rw [hm] at h; cases h
    · intro h
      cases h
/-- a store of one word: what is held behind it -/
theorem mLs.store {g : mG} {nL : Nat} {nl : Bool} {L : List (Option mv)} {ls' : Array Slot} {n : Nat} {v : mv} (hlen : L.length = nL) (hnl : nl = true → ∀ x ∈ L, mnolong x = true) (hv : mnolong (some v) = true) (hp : nl = true ∨ mnolong (mloc L (n - 1)) = true)
    (h : lv_has ls' nL ((n, mcv g v) :: (mlv g 0 L).filter (fun q => !(q.1 == n) && !(q.1 + 1 == n && q.2.category == 2)))) : mLs g nL nl (mset L n v) ls' := by
  refine ⟨⟨h.1, h.2.1, fun q hq => h.2.2 q ?_⟩, (mset_len L n v).trans hlen, fun e => mset_nl L n v hv (hnl e)⟩
  obtain ⟨j, w, h1, h2⟩ := mlv_of _ _ _ hq
  rw [Nat.zero_add] at h2
  rcases mset_loc L n j v w h1 with ⟨e1, e2⟩ | ⟨e1, e2⟩
  · rw [h2, e1, e2]
    exact List.mem_cons_self
  · refine List.mem_cons_of_mem _ (List.mem_filter.mpr ⟨?_, ?_⟩)
    · rw [h2]
      have := mlv_mem (g := g) L 0 j w e2
      rw [Nat.zero_add] at this
      exact this
    · rw [h2]
      have z : ¬ (j + 1 = n ∧ (mcv g w).category = 2) := by
        rintro ⟨z1, z2⟩
        have z3 := mcv_cat.mp z2
        rcases hp with hp | hp
        · have := hnl hp _ (mloc_mem L j w e2)
          rw [z3] at this
          cases this
        · rw [show n - 1 = j by omega, e2, z3] at hp
          cases hp
      simp only [Bool.and_eq_true, Bool.not_eq_true', beq_eq_false_iff_ne, ne_eq, Bool.and_eq_false_iff]
      refine ⟨e1, ?_⟩
      by_cases z1 : j + 1 = n
      · exact Or.inr (fun z2 => z ⟨z1, z2⟩)
      · exact Or.inl z1
theorem mLs.storeL {g : mG} {nL : Nat} {nl : Bool} {L : List (Option mv)} {ls' : Array Slot} {n : Nat} {v : mv} (hlen : L.length = nL) (hnl : nl = false) (hp : mnolong (mloc L (n - 1)) = true)
    (h : lv_has ls' nL ((n, mcv g v) :: (mlv g 0 L).filter (fun q => !(q.1 == n) && (!(q.1 == n + 1) && !(q.1 + 1 == n && q.2.category == 2))))) : mLs g nL nl (munset (mset L n v) (n + 1)) ls' := by
  refine ⟨⟨h.1, h.2.1, fun q hq => h.2.2 q ?_⟩, (munset_len _ _).trans ((mset_len L n v).trans hlen), fun e => by rw [hnl] at e; cases e⟩
  obtain ⟨j, w, h1, h2⟩ := mlv_of _ _ _ hq
  rw [Nat.zero_add] at h2
  obtain ⟨e0, h1⟩ := munset_loc _ _ _ _ h1
  rcases mset_loc L n j v w h1 with ⟨e1, e2⟩ | ⟨e1, e2⟩
  · rw [h2, e1, e2]
    exact List.mem_cons_self
  · refine List.mem_cons_of_mem _ (List.mem_filter.mpr ⟨?_, ?_⟩)
    · rw [h2]
      have := mlv_mem (g := g) L 0 j w e2
      rw [Nat.zero_add] at this
      exact this
    · rw [h2]
      have z : ¬ (j + 1 = n ∧ (mcv g w).category = 2) := by
        rintro ⟨z1, z2⟩
        have z3 := mcv_cat.mp z2
        rw [show n - 1 = j by omega, e2, z3] at hp
        cases hp
      simp only [Bool.and_eq_true, Bool.not_eq_true', beq_eq_false_iff_ne, ne_eq, Bool.and_eq_false_iff]
      refine ⟨e1, e0, ?_⟩
      by_cases z1 : j + 1 = n
      · exact Or.inr (fun z2 => z ⟨z1, z2⟩)
      · exact Or.inl z1
