/-! ===== what the small machine's heap and values are in the large one ===== -/
/-- numbers of the classes; of the array classes (int, boolean, Clause, State, int[]); the first cell of ours, the script's, the table's; the script -/
abbrev mG : Type := va_G × (ClassId × ClassId × ClassId × ClassId × ClassId) × (Nat × Nat × Nat) × Nat × (Nat → Int32)
def gD (g : mG) : va_G := g.1
def gty (g : mG) : List (ClassId × FieldType) := [(g.2.1.1, .int), (g.2.1.2.1, .boolean), (g.2.1.2.2.1, .object RX0), (g.2.1.2.2.2.1, .object RX7), (g.2.1.2.2.2.2, .array .int)]
def gB (g : mG) : Nat := g.2.2.1.1
def gb (g : mG) : Nat := g.2.2.1.2.1
def gt (g : mG) : Nat := g.2.2.1.2.2
def gL (g : mG) : Nat := g.2.2.2.1
def gx (g : mG) : Nat → Int32 := g.2.2.2.2
def gA (g : mG) : Nat → Prop := fun q => gB g ≤ q
def mad (g : mG) (a : Nat) : Nat := if a = 1 then gb g else if a = 2 then gt g else gB g + (a - 3)
def mro (g : mG) (a : Nat) : Option Nat := if a = 0 then none else some (mad g a)
def mrf (g : mG) (a : Nat) : Value := va_rf (mro g a)
def mcv (g : mG) : mv → Value
  | .inl x => .int x
  | .inr (.inl x) => .long x
  | .inr (.inr a) => mrf g a
def mty : Nat → Nat → FieldType
  | 1 => tyX0
  | 2 => tyX1
  | 3 => tyX2
  | 4 => tyX3
  | 5 => tyX4
  | 6 => tyX5
  | 7 => tyX6
  | 8 => tyX7
  | 9 => tyX8
  | 10 => tyX9
  | 11 => tyX10
  | _ => fun _ => .int
def mnf : Nat → Nat
  | 1 => 5
  | 2 => 3
  | 3 => 3
  | 4 => 9
  | 5 => 7
  | 6 => 7
  | 7 => 6
  | 8 => 3
  | 9 => 6
  | 10 => 14
  | 11 => 48
  | _ => 0
def misr : FieldType → Bool
  | .array _ => true
  | .object _ => true
  | _ => false
def mfv (g : mG) (h : mh) (a K j : Nat) : Value := bif misr (mty K j) then mrf g (mP h a j) else .int (mI h a j)
def mce (g : mG) (h : mh) (a : Nat) : va_E := match mK h a with
  | 21 => .inl (g.2.1.1, mN h a, .inl (mI h a))
  | 22 => .inl (g.2.1.2.1, mN h a, .inl (mI h a))
  | 23 => .inl (g.2.1.2.2.1, mN h a, .inr (.inr (.inr (.inr (fun j => mro g (mP h a j))))))
  | 24 => .inl (g.2.1.2.2.2.1, mN h a, .inr (.inr (.inr (.inr (fun j => mro g (mP h a j))))))
  | 25 => .inl (g.2.1.2.2.2.2, mN h a, .inr (.inr (.inr (.inr (fun j => mro g (mP h a j))))))
  | K => .inr (K - 1, (List.range (mN h a)).map (mfv g h a K))
def mws (g : mG) (h : mh) : va_W := (List.range (mT h - 3)).map (fun k => (gB g + k, mce g h (k + 3)))
def mptv (j : Nat) : Int32 := match j with
  | 0 => 1
  | 1 => 2
  | 2 => 0
  | _ => 1
def mHp (g : mG) (h : mh) : Prop := 3 ≤ mT h ∧ mK h 0 = 0 ∧ (mK h 1 = 31 ∧ mN h 1 = gL g ∧ ∀ j, mI h 1 j = gx g j) ∧ (mK h 2 = 32 ∧ mN h 2 = 4 ∧ ∀ j, j < 4 → mI h 2 j = mptv j) ∧ (∀ a, mT h ≤ a → mK h a = 0) ∧ (∀ a, 1 ≤ mK h a → mK h a ≤ 11 → mN h a = mnf (mK h a)) ∧ (∀ a, mK h a = 31 → a = 1) ∧ (∀ a, mK h a = 32 → a = 2)
def mRp (g : mG) (h : mh) (H : Heap) : Prop := va_P (gD g) vwCl (mws g h) H ∧ va_D (gA g) (mws g h) ∧ mHp g h
theorem mws_at {g : mG} {h : mh} {a : Nat} (h3 : 3 ≤ a) (ha : a < mT h) : (mws g h)[a - 3]? = some (mad g a, mce g h a) := by
  unfold mws
  rw [List.getElem?_map, List.getElem?_range (by omega)]
  have e1 : mad g a = gB g + (a - 3) := by
    unfold mad
    rw [if_neg (by omega), if_neg (by omega)]
  rw [e1, Option.map_some, show a - 3 + 3 = a by omega]
theorem mHp.in {g : mG} {h : mh} (H : mHp g h) {a K : Nat} (hK : mK h a = K) (h1 : 1 ≤ K) (h2 : K ≤ 25) : 3 ≤ a ∧ a < mT h := by
  obtain ⟨q1, q2, ⟨q3, -, -⟩, ⟨q4, -, -⟩, q5, -⟩ := H
  constructor
  · rcases Nat.lt_or_ge a 3 with z | z
    · have : a = 0 ∨ a = 1 ∨ a = 2 := by omega
      rcases this with rfl | rfl | rfl <;> omega
    · exact z
  · rcases Nat.lt_or_ge a (mT h) with z | z
    · exact z
    · have := q5 a z
      omega
theorem mrf_ref {g : mG} {a : Nat} (h : a ≠ 0) : mrf g a = .ref (mad g a) := by
  unfold mrf mro
  rw [if_neg h]
  rfl
theorem mrf_null {g : mG} : mrf g 0 = .null := rfl
theorem mws_set {g : mG} {h h' : mh} {a : Nat} (h3 : 3 ≤ a) (ht : mT h' = mT h) (ho : ∀ b, b ≠ a → mce g h' b = mce g h b) : mws g h' = (mws g h).set (a - 3) (mad g a, mce g h' a) := by
  apply List.ext_getElem?
  intro i
  unfold mws
  rw [List.getElem?_set, ht, List.getElem?_map, List.getElem?_map, List.length_map, List.length_range]
  by_cases hi : i < mT h - 3
  · rw [List.getElem?_range hi]
    by_cases e : a - 3 = i
    · subst e
      rw [if_pos rfl, if_pos hi]
      have e1 : mad g a = gB g + (a - 3) := by
        unfold mad
        rw [if_neg (by omega), if_neg (by omega)]
      rw [e1, Option.map_some, show a - 3 + 3 = a by omega]
    · rw [if_neg e, Option.map_some, Option.map_some, ho (i + 3) (by omega)]
  · have : (List.range (mT h - 3))[i]? = none := List.getElem?_eq_none (by rw [List.length_range]; omega)
    rw [this]
    by_cases e : a - 3 = i
    · rw [if_pos e, if_neg (by omega)]
      rfl
    · rw [if_neg e]
      rfl
theorem mws_push {g : mG} {h h' : mh} (h3 : 3 ≤ mT h) (ht : mT h' = mT h + 1) (ho : ∀ b, b < mT h → mce g h' b = mce g h b) : mws g h' = mws g h ++ [(gB g + (mT h - 3), mce g h' (mT h))] := by
  unfold mws
  rw [ht, show mT h + 1 - 3 = (mT h - 3) + 1 by omega, List.range_succ, List.map_append]
  congr 1
  · apply List.map_congr_left
    intro k hk
    rw [ho (k + 3) (by have := List.mem_range.mp hk; omega)]
  · show [(gB g + (mT h - 3), mce g h' (mT h - 3 + 3))] = _
    rw [show mT h - 3 + 3 = mT h by omega]
-- stores and reads
theorem mK_si {h : mh} {a k b : Nat} {x : Int32} : mK (msi h a k x) b = mK h b := rfl
theorem mN_si {h : mh} {a k b : Nat} {x : Int32} : mN (msi h a k x) b = mN h b := rfl
theorem mP_si {h : mh} {a k b j : Nat} {x : Int32} : mP (msi h a k x) b j = mP h b j := rfl
theorem mT_si {h : mh} {a k : Nat} {x : Int32} : mT (msi h a k x) = mT h := rfl
theorem mU_si {h : mh} {a k : Nat} {x : Int32} : mU (msi h a k x) = mU h := rfl
theorem mI_si {h : mh} {a k b j : Nat} {x : Int32} : mI (msi h a k x) b j = if b = a ∧ j = k then x else mI h b j := rfl
theorem mK_sp {h : mh} {a k b x : Nat} : mK (msp h a k x) b = mK h b := rfl
theorem mN_sp {h : mh} {a k b x : Nat} : mN (msp h a k x) b = mN h b := rfl
theorem mI_sp {h : mh} {a k b j x : Nat} : mI (msp h a k x) b j = mI h b j := rfl
theorem mT_sp {h : mh} {a k x : Nat} : mT (msp h a k x) = mT h := rfl
theorem mU_sp {h : mh} {a k x : Nat} : mU (msp h a k x) = mU h := rfl
theorem mP_sp {h : mh} {a k b j x : Nat} : mP (msp h a k x) b j = if b = a ∧ j = k then x else mP h b j := rfl
theorem mK_nw {h : mh} {K n b : Nat} : mK (mnw h K n) b = if b = mT h then K else mK h b := by
  show (if b = mT h then (K, n) else h.2.2.1 b).1 = _
  split <;> rfl
theorem mN_nw {h : mh} {K n b : Nat} : mN (mnw h K n) b = if b = mT h then n else mN h b := by
  show (if b = mT h then (K, n) else h.2.2.1 b).2 = _
  split <;> rfl
theorem mI_nw {h : mh} {K n b j : Nat} : mI (mnw h K n) b j = if b = mT h then 0 else mI h b j := rfl
theorem mP_nw {h : mh} {K n b j : Nat} : mP (mnw h K n) b j = if b = mT h then 0 else mP h b j := rfl
theorem mT_nw {h : mh} {K n : Nat} : mT (mnw h K n) = mT h + 1 := rfl
theorem mU_nw {h : mh} {K n : Nat} : mU (mnw h K n) = mU h + n := rfl
theorem mce_eq {g : mG} {h h' : mh} {b : Nat} (hk : mK h' b = mK h b) (hn : mN h' b = mN h b) (hi : mI h' b = mI h b) (hp : mP h' b = mP h b) : mce g h' b = mce g h b := by
  have e : mfv g h' b = mfv g h b := by
    funext K j
    unfold mfv
    rw [hi, hp]
  unfold mce
  rw [hk, hn, hi, hp, e]
theorem mce_obj {g : mG} {h : mh} {a K : Nat} (hK : mK h a = K) (h2 : K ≤ 11) : mce g h a = .inr (K - 1, (List.range (mN h a)).map (mfv g h a K)) := by
  unfold mce
  rw [hK]
  split <;> first | omega | rfl
theorem mce_int {g : mG} {h : mh} {a : Nat} (hK : mK h a = 21) : mce g h a = .inl (g.2.1.1, mN h a, .inl (mI h a)) := by
  unfold mce
  rw [hK]
  rfl
theorem mce_bool {g : mG} {h : mh} {a : Nat} (hK : mK h a = 22) : mce g h a = .inl (g.2.1.2.1, mN h a, .inl (mI h a)) := by
  unfold mce
  rw [hK]
  rfl
theorem mce_cl {g : mG} {h : mh} {a : Nat} (hK : mK h a = 23) : mce g h a = .inl (g.2.1.2.2.1, mN h a, .inr (.inr (.inr (.inr (fun j => mro g (mP h a j)))))) := by
  unfold mce
  rw [hK]
  rfl
theorem mce_st {g : mG} {h : mh} {a : Nat} (hK : mK h a = 24) : mce g h a = .inl (g.2.1.2.2.2.1, mN h a, .inr (.inr (.inr (.inr (fun j => mro g (mP h a j)))))) := by
  unfold mce
  rw [hK]
  rfl
theorem mce_ii {g : mG} {h : mh} {a : Nat} (hK : mK h a = 25) : mce g h a = .inl (g.2.1.2.2.2.2, mN h a, .inr (.inr (.inr (.inr (fun j => mro g (mP h a j)))))) := by
  unfold mce
  rw [hK]
  rfl
