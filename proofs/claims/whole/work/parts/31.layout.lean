/-! ===== where the class (3 ..) and the reference (128 ..) lie (made by wip/whole/gen_lay.py) ===== -/
def layK : List Nat := [0, 31, 32, 10, 6, 21, 2, 21, 21, 4, 21, 21, 9, 21, 21, 21, 21, 5, 25, 21, 21, 21, 21, 21, 21, 21, 21, 21, 21, 21, 21, 21, 21, 21, 21, 21, 21, 21, 21, 21, 21, 21, 21, 21, 21, 21, 21, 21, 21, 21, 21, 21, 21, 21, 21, 21, 21, 21, 21, 21, 21, 21, 3, 24, 8, 23, 21, 8, 23, 21, 8, 23, 21, 8, 23, 21, 8, 23, 21, 8, 23, 21, 8, 23, 21, 8, 23, 21, 8, 23, 21, 8, 23, 21, 7, 21, 21, 21, 21, 7, 21, 21, 21, 21, 8, 23, 21, 24, 23, 21, 2, 21, 21, 2, 21, 21, 1, 21, 21, 21, 21, 21, 8, 23, 21, 8, 23, 21, 11, 21, 21, 22, 21, 21, 21, 21, 21, 21, 21, 21, 21, 21, 21, 21, 21, 21, 21, 21, 21, 21, 21, 21, 22, 22, 21]
def layN : List Nat := [0, 0, 4, 14, 7, 100, 3, 30, 30, 9, 5, 6, 6, 193, 193, 193, 193, 7, 40, 24, 24, 24, 24, 24, 24, 24, 24, 24, 24, 24, 24, 24, 24, 24, 24, 24, 24, 24, 24, 24, 24, 24, 24, 24, 24, 24, 24, 24, 24, 24, 24, 24, 24, 24, 24, 24, 24, 24, 24, 24, 24, 40, 3, 10, 3, 24, 8, 3, 24, 8, 3, 24, 8, 3, 24, 8, 3, 24, 8, 3, 24, 8, 3, 24, 8, 3, 24, 8, 3, 24, 8, 3, 24, 8, 6, 24, 24, 24, 24, 6, 24, 24, 24, 24, 3, 24, 8, 2, 2, 8, 3, 30, 30, 3, 30, 30, 5, 40, 0, 0, 0, 1, 3, 24, 8, 3, 24, 8, 48, 2427, 8090, 2, 100, 30, 30, 36, 5, 5, 6, 30, 30, 1000, 40, 8, 24, 193, 193, 193, 193, 193, 24, 9, 193, 576, 24]
def layP : List (Nat × Nat × Nat) := [(3, 0, 4), (3, 1, 9), (3, 2, 12), (3, 3, 17), (3, 4, 62), (3, 5, 94), (3, 6, 99), (3, 7, 104), (3, 8, 107), (3, 9, 108), (3, 10, 109), (4, 0, 5), (4, 1, 6), (6, 0, 7), (6, 1, 8), (9, 0, 10), (9, 1, 11), (12, 0, 13), (12, 1, 14), (12, 2, 15), (12, 3, 16), (17, 0, 18), (17, 1, 59), (17, 2, 60), (17, 3, 61), (18, 0, 19), (18, 1, 20), (18, 2, 21), (18, 3, 22), (18, 4, 23), (18, 5, 24), (18, 6, 25), (18, 7, 26), (18, 8, 27), (18, 9, 28), (18, 10, 29), (18, 11, 30), (18, 12, 31), (18, 13, 32), (18, 14, 33), (18, 15, 34), (18, 16, 35), (18, 17, 36), (18, 18, 37), (18, 19, 38), (18, 20, 39), (18, 21, 40), (18, 22, 41), (18, 23, 42), (18, 24, 43), (18, 25, 44), (18, 26, 45), (18, 27, 46), (18, 28, 47), (18, 29, 48), (18, 30, 49), (18, 31, 50), (18, 32, 51), (18, 33, 52), (18, 34, 53), (18, 35, 54), (18, 36, 55), (18, 37, 56), (18, 38, 57), (18, 39, 58), (62, 0, 63), (63, 0, 64), (63, 1, 67), (63, 2, 70), (63, 3, 73), (63, 4, 76), (63, 5, 79), (63, 6, 82), (63, 7, 85), (63, 8, 88), (63, 9, 91), (64, 0, 65), (64, 1, 66), (67, 0, 68), (67, 1, 69), (70, 0, 71), (70, 1, 72), (73, 0, 74), (73, 1, 75), (76, 0, 77), (76, 1, 78), (79, 0, 80), (79, 1, 81), (82, 0, 83), (82, 1, 84), (85, 0, 86), (85, 1, 87), (88, 0, 89), (88, 1, 90), (91, 0, 92), (91, 1, 93), (94, 0, 95), (94, 1, 96), (94, 2, 97), (94, 3, 98), (99, 0, 100), (99, 1, 101), (99, 2, 102), (99, 3, 103), (104, 0, 105), (104, 1, 106), (107, 0, 122), (107, 1, 125), (110, 0, 111), (110, 1, 112), (113, 0, 114), (113, 1, 115), (116, 0, 118), (116, 1, 119), (116, 2, 120), (116, 3, 121), (116, 4, 117), (122, 0, 123), (122, 1, 124), (125, 0, 126), (125, 1, 127), (128, 1, 129), (128, 2, 130), (128, 4, 131), (128, 5, 132), (128, 6, 133), (128, 16, 134), (128, 19, 135), (128, 20, 136), (128, 21, 137), (128, 22, 138), (128, 31, 139), (128, 32, 140), (128, 33, 141), (128, 34, 142), (128, 35, 143), (128, 36, 144), (128, 37, 145), (128, 38, 146), (128, 39, 147), (128, 40, 148), (128, 41, 149), (128, 42, 150), (128, 43, 151), (128, 44, 152), (128, 46, 153), (128, 47, 154)]
def Lay (h : mh) : Prop := (∀ a, 3 ≤ a → a < 155 → mK h a = mnat layK a ∧ mN h a = mnat layN a) ∧ (∀ q ∈ layP, mP h q.1 q.2.1 = q.2.2) ∧ 155 ≤ mT h
theorem Lay.si {h : mh} {a k : Nat} {x : Int32} (hL : Lay h) : Lay (msi h a k x) := hL
theorem Lay.sp {h : mh} {a k x : Nat} (hL : Lay h) (hn : layP.all (fun q => !(Nat.beq q.1 a && Nat.beq q.2.1 k)) = true) : Lay (msp h a k x) := by
  refine ⟨hL.1, fun q hq => ?_, hL.2.2⟩
  rw [mP_sp, if_neg]
  · exact hL.2.1 q hq
  · rintro ⟨e1, e2⟩
    have := List.all_eq_true.mp hn q hq
    rw [e1, e2, Nat.beq_refl, Nat.beq_refl] at this
    cases this
theorem Lay.nw {h : mh} {K n : Nat} (hL : Lay h) : Lay (mnw h K n) := by
  have h3 := hL.2.2
  refine ⟨fun a h1 h2 => ?_, fun q hq => ?_, by rw [mT_nw]; omega⟩
  · rw [mK_nw, mN_nw, if_neg (by omega), if_neg (by omega)]
    exact hL.1 a h1 h2
  · have hq1 : q.1 < 155 := by
      have : layP.all (fun q => Nat.blt q.1 155) = true := by decide +kernel
      exact Nat.le_of_ble_eq_true (List.all_eq_true.mp this q hq)
    rw [mP_nw, if_neg (by omega)]
    exact hL.2.1 q hq
theorem lk_3 {h : mh} (hL : Lay h) : mK h 3 = 10 := (hL.1 3 (by decide) (by decide)).1
theorem ln_3 {h : mh} (hL : Lay h) : mN h 3 = 14 := (hL.1 3 (by decide) (by decide)).2
theorem lk_4 {h : mh} (hL : Lay h) : mK h 4 = 6 := (hL.1 4 (by decide) (by decide)).1
theorem ln_4 {h : mh} (hL : Lay h) : mN h 4 = 7 := (hL.1 4 (by decide) (by decide)).2
theorem lk_5 {h : mh} (hL : Lay h) : mK h 5 = 21 := (hL.1 5 (by decide) (by decide)).1
theorem ln_5 {h : mh} (hL : Lay h) : mN h 5 = 100 := (hL.1 5 (by decide) (by decide)).2
theorem lk_6 {h : mh} (hL : Lay h) : mK h 6 = 2 := (hL.1 6 (by decide) (by decide)).1
theorem ln_6 {h : mh} (hL : Lay h) : mN h 6 = 3 := (hL.1 6 (by decide) (by decide)).2
theorem lk_7 {h : mh} (hL : Lay h) : mK h 7 = 21 := (hL.1 7 (by decide) (by decide)).1
theorem ln_7 {h : mh} (hL : Lay h) : mN h 7 = 30 := (hL.1 7 (by decide) (by decide)).2
theorem lk_8 {h : mh} (hL : Lay h) : mK h 8 = 21 := (hL.1 8 (by decide) (by decide)).1
theorem ln_8 {h : mh} (hL : Lay h) : mN h 8 = 30 := (hL.1 8 (by decide) (by decide)).2
theorem lk_9 {h : mh} (hL : Lay h) : mK h 9 = 4 := (hL.1 9 (by decide) (by decide)).1
theorem ln_9 {h : mh} (hL : Lay h) : mN h 9 = 9 := (hL.1 9 (by decide) (by decide)).2
theorem lk_10 {h : mh} (hL : Lay h) : mK h 10 = 21 := (hL.1 10 (by decide) (by decide)).1
theorem ln_10 {h : mh} (hL : Lay h) : mN h 10 = 5 := (hL.1 10 (by decide) (by decide)).2
theorem lk_11 {h : mh} (hL : Lay h) : mK h 11 = 21 := (hL.1 11 (by decide) (by decide)).1
theorem ln_11 {h : mh} (hL : Lay h) : mN h 11 = 6 := (hL.1 11 (by decide) (by decide)).2
theorem lk_12 {h : mh} (hL : Lay h) : mK h 12 = 9 := (hL.1 12 (by decide) (by decide)).1
theorem ln_12 {h : mh} (hL : Lay h) : mN h 12 = 6 := (hL.1 12 (by decide) (by decide)).2
theorem lk_13 {h : mh} (hL : Lay h) : mK h 13 = 21 := (hL.1 13 (by decide) (by decide)).1
theorem ln_13 {h : mh} (hL : Lay h) : mN h 13 = 193 := (hL.1 13 (by decide) (by decide)).2
theorem lk_14 {h : mh} (hL : Lay h) : mK h 14 = 21 := (hL.1 14 (by decide) (by decide)).1
theorem ln_14 {h : mh} (hL : Lay h) : mN h 14 = 193 := (hL.1 14 (by decide) (by decide)).2
theorem lk_15 {h : mh} (hL : Lay h) : mK h 15 = 21 := (hL.1 15 (by decide) (by decide)).1
theorem ln_15 {h : mh} (hL : Lay h) : mN h 15 = 193 := (hL.1 15 (by decide) (by decide)).2
theorem lk_16 {h : mh} (hL : Lay h) : mK h 16 = 21 := (hL.1 16 (by decide) (by decide)).1
theorem ln_16 {h : mh} (hL : Lay h) : mN h 16 = 193 := (hL.1 16 (by decide) (by decide)).2
theorem lk_17 {h : mh} (hL : Lay h) : mK h 17 = 5 := (hL.1 17 (by decide) (by decide)).1
theorem ln_17 {h : mh} (hL : Lay h) : mN h 17 = 7 := (hL.1 17 (by decide) (by decide)).2
theorem lk_18 {h : mh} (hL : Lay h) : mK h 18 = 25 := (hL.1 18 (by decide) (by decide)).1
theorem ln_18 {h : mh} (hL : Lay h) : mN h 18 = 40 := (hL.1 18 (by decide) (by decide)).2
theorem lk_19 {h : mh} (hL : Lay h) : mK h 19 = 21 := (hL.1 19 (by decide) (by decide)).1
theorem ln_19 {h : mh} (hL : Lay h) : mN h 19 = 24 := (hL.1 19 (by decide) (by decide)).2
theorem lk_20 {h : mh} (hL : Lay h) : mK h 20 = 21 := (hL.1 20 (by decide) (by decide)).1
theorem ln_20 {h : mh} (hL : Lay h) : mN h 20 = 24 := (hL.1 20 (by decide) (by decide)).2
theorem lk_21 {h : mh} (hL : Lay h) : mK h 21 = 21 := (hL.1 21 (by decide) (by decide)).1
theorem ln_21 {h : mh} (hL : Lay h) : mN h 21 = 24 := (hL.1 21 (by decide) (by decide)).2
theorem lk_22 {h : mh} (hL : Lay h) : mK h 22 = 21 := (hL.1 22 (by decide) (by decide)).1
theorem ln_22 {h : mh} (hL : Lay h) : mN h 22 = 24 := (hL.1 22 (by decide) (by decide)).2
theorem lk_23 {h : mh} (hL : Lay h) : mK h 23 = 21 := (hL.1 23 (by decide) (by decide)).1
theorem ln_23 {h : mh} (hL : Lay h) : mN h 23 = 24 := (hL.1 23 (by decide) (by decide)).2
theorem lk_24 {h : mh} (hL : Lay h) : mK h 24 = 21 := (hL.1 24 (by decide) (by decide)).1
theorem ln_24 {h : mh} (hL : Lay h) : mN h 24 = 24 := (hL.1 24 (by decide) (by decide)).2
theorem lk_25 {h : mh} (hL : Lay h) : mK h 25 = 21 := (hL.1 25 (by decide) (by decide)).1
theorem ln_25 {h : mh} (hL : Lay h) : mN h 25 = 24 := (hL.1 25 (by decide) (by decide)).2
theorem lk_26 {h : mh} (hL : Lay h) : mK h 26 = 21 := (hL.1 26 (by decide) (by decide)).1
theorem ln_26 {h : mh} (hL : Lay h) : mN h 26 = 24 := (hL.1 26 (by decide) (by decide)).2
theorem lk_27 {h : mh} (hL : Lay h) : mK h 27 = 21 := (hL.1 27 (by decide) (by decide)).1
theorem ln_27 {h : mh} (hL : Lay h) : mN h 27 = 24 := (hL.1 27 (by decide) (by decide)).2
theorem lk_28 {h : mh} (hL : Lay h) : mK h 28 = 21 := (hL.1 28 (by decide) (by decide)).1
theorem ln_28 {h : mh} (hL : Lay h) : mN h 28 = 24 := (hL.1 28 (by decide) (by decide)).2
theorem lk_29 {h : mh} (hL : Lay h) : mK h 29 = 21 := (hL.1 29 (by decide) (by decide)).1
theorem ln_29 {h : mh} (hL : Lay h) : mN h 29 = 24 := (hL.1 29 (by decide) (by decide)).2
theorem lk_30 {h : mh} (hL : Lay h) : mK h 30 = 21 := (hL.1 30 (by decide) (by decide)).1
theorem ln_30 {h : mh} (hL : Lay h) : mN h 30 = 24 := (hL.1 30 (by decide) (by decide)).2
theorem lk_31 {h : mh} (hL : Lay h) : mK h 31 = 21 := (hL.1 31 (by decide) (by decide)).1
theorem ln_31 {h : mh} (hL : Lay h) : mN h 31 = 24 := (hL.1 31 (by decide) (by decide)).2
theorem lk_32 {h : mh} (hL : Lay h) : mK h 32 = 21 := (hL.1 32 (by decide) (by decide)).1
theorem ln_32 {h : mh} (hL : Lay h) : mN h 32 = 24 := (hL.1 32 (by decide) (by decide)).2
theorem lk_33 {h : mh} (hL : Lay h) : mK h 33 = 21 := (hL.1 33 (by decide) (by decide)).1
theorem ln_33 {h : mh} (hL : Lay h) : mN h 33 = 24 := (hL.1 33 (by decide) (by decide)).2
theorem lk_34 {h : mh} (hL : Lay h) : mK h 34 = 21 := (hL.1 34 (by decide) (by decide)).1
theorem ln_34 {h : mh} (hL : Lay h) : mN h 34 = 24 := (hL.1 34 (by decide) (by decide)).2
theorem lk_35 {h : mh} (hL : Lay h) : mK h 35 = 21 := (hL.1 35 (by decide) (by decide)).1
theorem ln_35 {h : mh} (hL : Lay h) : mN h 35 = 24 := (hL.1 35 (by decide) (by decide)).2
theorem lk_36 {h : mh} (hL : Lay h) : mK h 36 = 21 := (hL.1 36 (by decide) (by decide)).1
theorem ln_36 {h : mh} (hL : Lay h) : mN h 36 = 24 := (hL.1 36 (by decide) (by decide)).2
theorem lk_37 {h : mh} (hL : Lay h) : mK h 37 = 21 := (hL.1 37 (by decide) (by decide)).1
theorem ln_37 {h : mh} (hL : Lay h) : mN h 37 = 24 := (hL.1 37 (by decide) (by decide)).2
theorem lk_38 {h : mh} (hL : Lay h) : mK h 38 = 21 := (hL.1 38 (by decide) (by decide)).1
theorem ln_38 {h : mh} (hL : Lay h) : mN h 38 = 24 := (hL.1 38 (by decide) (by decide)).2
theorem lk_39 {h : mh} (hL : Lay h) : mK h 39 = 21 := (hL.1 39 (by decide) (by decide)).1
theorem ln_39 {h : mh} (hL : Lay h) : mN h 39 = 24 := (hL.1 39 (by decide) (by decide)).2
theorem lk_40 {h : mh} (hL : Lay h) : mK h 40 = 21 := (hL.1 40 (by decide) (by decide)).1
theorem ln_40 {h : mh} (hL : Lay h) : mN h 40 = 24 := (hL.1 40 (by decide) (by decide)).2
theorem lk_41 {h : mh} (hL : Lay h) : mK h 41 = 21 := (hL.1 41 (by decide) (by decide)).1
theorem ln_41 {h : mh} (hL : Lay h) : mN h 41 = 24 := (hL.1 41 (by decide) (by decide)).2
theorem lk_42 {h : mh} (hL : Lay h) : mK h 42 = 21 := (hL.1 42 (by decide) (by decide)).1
theorem ln_42 {h : mh} (hL : Lay h) : mN h 42 = 24 := (hL.1 42 (by decide) (by decide)).2
theorem lk_43 {h : mh} (hL : Lay h) : mK h 43 = 21 := (hL.1 43 (by decide) (by decide)).1
theorem ln_43 {h : mh} (hL : Lay h) : mN h 43 = 24 := (hL.1 43 (by decide) (by decide)).2
theorem lk_44 {h : mh} (hL : Lay h) : mK h 44 = 21 := (hL.1 44 (by decide) (by decide)).1
theorem ln_44 {h : mh} (hL : Lay h) : mN h 44 = 24 := (hL.1 44 (by decide) (by decide)).2
theorem lk_45 {h : mh} (hL : Lay h) : mK h 45 = 21 := (hL.1 45 (by decide) (by decide)).1
theorem ln_45 {h : mh} (hL : Lay h) : mN h 45 = 24 := (hL.1 45 (by decide) (by decide)).2
theorem lk_46 {h : mh} (hL : Lay h) : mK h 46 = 21 := (hL.1 46 (by decide) (by decide)).1
theorem ln_46 {h : mh} (hL : Lay h) : mN h 46 = 24 := (hL.1 46 (by decide) (by decide)).2
theorem lk_47 {h : mh} (hL : Lay h) : mK h 47 = 21 := (hL.1 47 (by decide) (by decide)).1
theorem ln_47 {h : mh} (hL : Lay h) : mN h 47 = 24 := (hL.1 47 (by decide) (by decide)).2
theorem lk_48 {h : mh} (hL : Lay h) : mK h 48 = 21 := (hL.1 48 (by decide) (by decide)).1
theorem ln_48 {h : mh} (hL : Lay h) : mN h 48 = 24 := (hL.1 48 (by decide) (by decide)).2
theorem lk_49 {h : mh} (hL : Lay h) : mK h 49 = 21 := (hL.1 49 (by decide) (by decide)).1
theorem ln_49 {h : mh} (hL : Lay h) : mN h 49 = 24 := (hL.1 49 (by decide) (by decide)).2
theorem lk_50 {h : mh} (hL : Lay h) : mK h 50 = 21 := (hL.1 50 (by decide) (by decide)).1
theorem ln_50 {h : mh} (hL : Lay h) : mN h 50 = 24 := (hL.1 50 (by decide) (by decide)).2
theorem lk_51 {h : mh} (hL : Lay h) : mK h 51 = 21 := (hL.1 51 (by decide) (by decide)).1
theorem ln_51 {h : mh} (hL : Lay h) : mN h 51 = 24 := (hL.1 51 (by decide) (by decide)).2
theorem lk_52 {h : mh} (hL : Lay h) : mK h 52 = 21 := (hL.1 52 (by decide) (by decide)).1
theorem ln_52 {h : mh} (hL : Lay h) : mN h 52 = 24 := (hL.1 52 (by decide) (by decide)).2
theorem lk_53 {h : mh} (hL : Lay h) : mK h 53 = 21 := (hL.1 53 (by decide) (by decide)).1
theorem ln_53 {h : mh} (hL : Lay h) : mN h 53 = 24 := (hL.1 53 (by decide) (by decide)).2
theorem lk_54 {h : mh} (hL : Lay h) : mK h 54 = 21 := (hL.1 54 (by decide) (by decide)).1
theorem ln_54 {h : mh} (hL : Lay h) : mN h 54 = 24 := (hL.1 54 (by decide) (by decide)).2
theorem lk_55 {h : mh} (hL : Lay h) : mK h 55 = 21 := (hL.1 55 (by decide) (by decide)).1
theorem ln_55 {h : mh} (hL : Lay h) : mN h 55 = 24 := (hL.1 55 (by decide) (by decide)).2
theorem lk_56 {h : mh} (hL : Lay h) : mK h 56 = 21 := (hL.1 56 (by decide) (by decide)).1
theorem ln_56 {h : mh} (hL : Lay h) : mN h 56 = 24 := (hL.1 56 (by decide) (by decide)).2
theorem lk_57 {h : mh} (hL : Lay h) : mK h 57 = 21 := (hL.1 57 (by decide) (by decide)).1
theorem ln_57 {h : mh} (hL : Lay h) : mN h 57 = 24 := (hL.1 57 (by decide) (by decide)).2
theorem lk_58 {h : mh} (hL : Lay h) : mK h 58 = 21 := (hL.1 58 (by decide) (by decide)).1
theorem ln_58 {h : mh} (hL : Lay h) : mN h 58 = 24 := (hL.1 58 (by decide) (by decide)).2
theorem lk_59 {h : mh} (hL : Lay h) : mK h 59 = 21 := (hL.1 59 (by decide) (by decide)).1
theorem ln_59 {h : mh} (hL : Lay h) : mN h 59 = 24 := (hL.1 59 (by decide) (by decide)).2
theorem lk_60 {h : mh} (hL : Lay h) : mK h 60 = 21 := (hL.1 60 (by decide) (by decide)).1
theorem ln_60 {h : mh} (hL : Lay h) : mN h 60 = 24 := (hL.1 60 (by decide) (by decide)).2
theorem lk_61 {h : mh} (hL : Lay h) : mK h 61 = 21 := (hL.1 61 (by decide) (by decide)).1
theorem ln_61 {h : mh} (hL : Lay h) : mN h 61 = 40 := (hL.1 61 (by decide) (by decide)).2
theorem lk_62 {h : mh} (hL : Lay h) : mK h 62 = 3 := (hL.1 62 (by decide) (by decide)).1
theorem ln_62 {h : mh} (hL : Lay h) : mN h 62 = 3 := (hL.1 62 (by decide) (by decide)).2
theorem lk_63 {h : mh} (hL : Lay h) : mK h 63 = 24 := (hL.1 63 (by decide) (by decide)).1
theorem ln_63 {h : mh} (hL : Lay h) : mN h 63 = 10 := (hL.1 63 (by decide) (by decide)).2
theorem lk_64 {h : mh} (hL : Lay h) : mK h 64 = 8 := (hL.1 64 (by decide) (by decide)).1
theorem ln_64 {h : mh} (hL : Lay h) : mN h 64 = 3 := (hL.1 64 (by decide) (by decide)).2
theorem lk_65 {h : mh} (hL : Lay h) : mK h 65 = 23 := (hL.1 65 (by decide) (by decide)).1
theorem ln_65 {h : mh} (hL : Lay h) : mN h 65 = 24 := (hL.1 65 (by decide) (by decide)).2
theorem lk_66 {h : mh} (hL : Lay h) : mK h 66 = 21 := (hL.1 66 (by decide) (by decide)).1
theorem ln_66 {h : mh} (hL : Lay h) : mN h 66 = 8 := (hL.1 66 (by decide) (by decide)).2
theorem lk_67 {h : mh} (hL : Lay h) : mK h 67 = 8 := (hL.1 67 (by decide) (by decide)).1
theorem ln_67 {h : mh} (hL : Lay h) : mN h 67 = 3 := (hL.1 67 (by decide) (by decide)).2
theorem lk_68 {h : mh} (hL : Lay h) : mK h 68 = 23 := (hL.1 68 (by decide) (by decide)).1
theorem ln_68 {h : mh} (hL : Lay h) : mN h 68 = 24 := (hL.1 68 (by decide) (by decide)).2
theorem lk_69 {h : mh} (hL : Lay h) : mK h 69 = 21 := (hL.1 69 (by decide) (by decide)).1
theorem ln_69 {h : mh} (hL : Lay h) : mN h 69 = 8 := (hL.1 69 (by decide) (by decide)).2
theorem lk_70 {h : mh} (hL : Lay h) : mK h 70 = 8 := (hL.1 70 (by decide) (by decide)).1
theorem ln_70 {h : mh} (hL : Lay h) : mN h 70 = 3 := (hL.1 70 (by decide) (by decide)).2
theorem lk_71 {h : mh} (hL : Lay h) : mK h 71 = 23 := (hL.1 71 (by decide) (by decide)).1
theorem ln_71 {h : mh} (hL : Lay h) : mN h 71 = 24 := (hL.1 71 (by decide) (by decide)).2
theorem lk_72 {h : mh} (hL : Lay h) : mK h 72 = 21 := (hL.1 72 (by decide) (by decide)).1
theorem ln_72 {h : mh} (hL : Lay h) : mN h 72 = 8 := (hL.1 72 (by decide) (by decide)).2
theorem lk_73 {h : mh} (hL : Lay h) : mK h 73 = 8 := (hL.1 73 (by decide) (by decide)).1
theorem ln_73 {h : mh} (hL : Lay h) : mN h 73 = 3 := (hL.1 73 (by decide) (by decide)).2
theorem lk_74 {h : mh} (hL : Lay h) : mK h 74 = 23 := (hL.1 74 (by decide) (by decide)).1
theorem ln_74 {h : mh} (hL : Lay h) : mN h 74 = 24 := (hL.1 74 (by decide) (by decide)).2
theorem lk_75 {h : mh} (hL : Lay h) : mK h 75 = 21 := (hL.1 75 (by decide) (by decide)).1
theorem ln_75 {h : mh} (hL : Lay h) : mN h 75 = 8 := (hL.1 75 (by decide) (by decide)).2
theorem lk_76 {h : mh} (hL : Lay h) : mK h 76 = 8 := (hL.1 76 (by decide) (by decide)).1
theorem ln_76 {h : mh} (hL : Lay h) : mN h 76 = 3 := (hL.1 76 (by decide) (by decide)).2
theorem lk_77 {h : mh} (hL : Lay h) : mK h 77 = 23 := (hL.1 77 (by decide) (by decide)).1
theorem ln_77 {h : mh} (hL : Lay h) : mN h 77 = 24 := (hL.1 77 (by decide) (by decide)).2
theorem lk_78 {h : mh} (hL : Lay h) : mK h 78 = 21 := (hL.1 78 (by decide) (by decide)).1
theorem ln_78 {h : mh} (hL : Lay h) : mN h 78 = 8 := (hL.1 78 (by decide) (by decide)).2
theorem lk_79 {h : mh} (hL : Lay h) : mK h 79 = 8 := (hL.1 79 (by decide) (by decide)).1
theorem ln_79 {h : mh} (hL : Lay h) : mN h 79 = 3 := (hL.1 79 (by decide) (by decide)).2
theorem lk_80 {h : mh} (hL : Lay h) : mK h 80 = 23 := (hL.1 80 (by decide) (by decide)).1
theorem ln_80 {h : mh} (hL : Lay h) : mN h 80 = 24 := (hL.1 80 (by decide) (by decide)).2
theorem lk_81 {h : mh} (hL : Lay h) : mK h 81 = 21 := (hL.1 81 (by decide) (by decide)).1
theorem ln_81 {h : mh} (hL : Lay h) : mN h 81 = 8 := (hL.1 81 (by decide) (by decide)).2
theorem lk_82 {h : mh} (hL : Lay h) : mK h 82 = 8 := (hL.1 82 (by decide) (by decide)).1
theorem ln_82 {h : mh} (hL : Lay h) : mN h 82 = 3 := (hL.1 82 (by decide) (by decide)).2
theorem lk_83 {h : mh} (hL : Lay h) : mK h 83 = 23 := (hL.1 83 (by decide) (by decide)).1
theorem ln_83 {h : mh} (hL : Lay h) : mN h 83 = 24 := (hL.1 83 (by decide) (by decide)).2
theorem lk_84 {h : mh} (hL : Lay h) : mK h 84 = 21 := (hL.1 84 (by decide) (by decide)).1
theorem ln_84 {h : mh} (hL : Lay h) : mN h 84 = 8 := (hL.1 84 (by decide) (by decide)).2
theorem lk_85 {h : mh} (hL : Lay h) : mK h 85 = 8 := (hL.1 85 (by decide) (by decide)).1
theorem ln_85 {h : mh} (hL : Lay h) : mN h 85 = 3 := (hL.1 85 (by decide) (by decide)).2
theorem lk_86 {h : mh} (hL : Lay h) : mK h 86 = 23 := (hL.1 86 (by decide) (by decide)).1
theorem ln_86 {h : mh} (hL : Lay h) : mN h 86 = 24 := (hL.1 86 (by decide) (by decide)).2
theorem lk_87 {h : mh} (hL : Lay h) : mK h 87 = 21 := (hL.1 87 (by decide) (by decide)).1
theorem ln_87 {h : mh} (hL : Lay h) : mN h 87 = 8 := (hL.1 87 (by decide) (by decide)).2
theorem lk_88 {h : mh} (hL : Lay h) : mK h 88 = 8 := (hL.1 88 (by decide) (by decide)).1
theorem ln_88 {h : mh} (hL : Lay h) : mN h 88 = 3 := (hL.1 88 (by decide) (by decide)).2
theorem lk_89 {h : mh} (hL : Lay h) : mK h 89 = 23 := (hL.1 89 (by decide) (by decide)).1
theorem ln_89 {h : mh} (hL : Lay h) : mN h 89 = 24 := (hL.1 89 (by decide) (by decide)).2
theorem lk_90 {h : mh} (hL : Lay h) : mK h 90 = 21 := (hL.1 90 (by decide) (by decide)).1
theorem ln_90 {h : mh} (hL : Lay h) : mN h 90 = 8 := (hL.1 90 (by decide) (by decide)).2
theorem lk_91 {h : mh} (hL : Lay h) : mK h 91 = 8 := (hL.1 91 (by decide) (by decide)).1
theorem ln_91 {h : mh} (hL : Lay h) : mN h 91 = 3 := (hL.1 91 (by decide) (by decide)).2
theorem lk_92 {h : mh} (hL : Lay h) : mK h 92 = 23 := (hL.1 92 (by decide) (by decide)).1
theorem ln_92 {h : mh} (hL : Lay h) : mN h 92 = 24 := (hL.1 92 (by decide) (by decide)).2
theorem lk_93 {h : mh} (hL : Lay h) : mK h 93 = 21 := (hL.1 93 (by decide) (by decide)).1
theorem ln_93 {h : mh} (hL : Lay h) : mN h 93 = 8 := (hL.1 93 (by decide) (by decide)).2
theorem lk_94 {h : mh} (hL : Lay h) : mK h 94 = 7 := (hL.1 94 (by decide) (by decide)).1
theorem ln_94 {h : mh} (hL : Lay h) : mN h 94 = 6 := (hL.1 94 (by decide) (by decide)).2
theorem lk_95 {h : mh} (hL : Lay h) : mK h 95 = 21 := (hL.1 95 (by decide) (by decide)).1
theorem ln_95 {h : mh} (hL : Lay h) : mN h 95 = 24 := (hL.1 95 (by decide) (by decide)).2
theorem lk_96 {h : mh} (hL : Lay h) : mK h 96 = 21 := (hL.1 96 (by decide) (by decide)).1
theorem ln_96 {h : mh} (hL : Lay h) : mN h 96 = 24 := (hL.1 96 (by decide) (by decide)).2
theorem lk_97 {h : mh} (hL : Lay h) : mK h 97 = 21 := (hL.1 97 (by decide) (by decide)).1
theorem ln_97 {h : mh} (hL : Lay h) : mN h 97 = 24 := (hL.1 97 (by decide) (by decide)).2
theorem lk_98 {h : mh} (hL : Lay h) : mK h 98 = 21 := (hL.1 98 (by decide) (by decide)).1
theorem ln_98 {h : mh} (hL : Lay h) : mN h 98 = 24 := (hL.1 98 (by decide) (by decide)).2
theorem lk_99 {h : mh} (hL : Lay h) : mK h 99 = 7 := (hL.1 99 (by decide) (by decide)).1
theorem ln_99 {h : mh} (hL : Lay h) : mN h 99 = 6 := (hL.1 99 (by decide) (by decide)).2
theorem lk_100 {h : mh} (hL : Lay h) : mK h 100 = 21 := (hL.1 100 (by decide) (by decide)).1
theorem ln_100 {h : mh} (hL : Lay h) : mN h 100 = 24 := (hL.1 100 (by decide) (by decide)).2
theorem lk_101 {h : mh} (hL : Lay h) : mK h 101 = 21 := (hL.1 101 (by decide) (by decide)).1
theorem ln_101 {h : mh} (hL : Lay h) : mN h 101 = 24 := (hL.1 101 (by decide) (by decide)).2
theorem lk_102 {h : mh} (hL : Lay h) : mK h 102 = 21 := (hL.1 102 (by decide) (by decide)).1
theorem ln_102 {h : mh} (hL : Lay h) : mN h 102 = 24 := (hL.1 102 (by decide) (by decide)).2
theorem lk_103 {h : mh} (hL : Lay h) : mK h 103 = 21 := (hL.1 103 (by decide) (by decide)).1
theorem ln_103 {h : mh} (hL : Lay h) : mN h 103 = 24 := (hL.1 103 (by decide) (by decide)).2
theorem lk_104 {h : mh} (hL : Lay h) : mK h 104 = 8 := (hL.1 104 (by decide) (by decide)).1
theorem ln_104 {h : mh} (hL : Lay h) : mN h 104 = 3 := (hL.1 104 (by decide) (by decide)).2
theorem lk_105 {h : mh} (hL : Lay h) : mK h 105 = 23 := (hL.1 105 (by decide) (by decide)).1
theorem ln_105 {h : mh} (hL : Lay h) : mN h 105 = 24 := (hL.1 105 (by decide) (by decide)).2
theorem lk_106 {h : mh} (hL : Lay h) : mK h 106 = 21 := (hL.1 106 (by decide) (by decide)).1
theorem ln_106 {h : mh} (hL : Lay h) : mN h 106 = 8 := (hL.1 106 (by decide) (by decide)).2
theorem lk_107 {h : mh} (hL : Lay h) : mK h 107 = 24 := (hL.1 107 (by decide) (by decide)).1
theorem ln_107 {h : mh} (hL : Lay h) : mN h 107 = 2 := (hL.1 107 (by decide) (by decide)).2
theorem lk_108 {h : mh} (hL : Lay h) : mK h 108 = 23 := (hL.1 108 (by decide) (by decide)).1
theorem ln_108 {h : mh} (hL : Lay h) : mN h 108 = 2 := (hL.1 108 (by decide) (by decide)).2
theorem lk_109 {h : mh} (hL : Lay h) : mK h 109 = 21 := (hL.1 109 (by decide) (by decide)).1
theorem ln_109 {h : mh} (hL : Lay h) : mN h 109 = 8 := (hL.1 109 (by decide) (by decide)).2
theorem lk_110 {h : mh} (hL : Lay h) : mK h 110 = 2 := (hL.1 110 (by decide) (by decide)).1
theorem ln_110 {h : mh} (hL : Lay h) : mN h 110 = 3 := (hL.1 110 (by decide) (by decide)).2
theorem lk_111 {h : mh} (hL : Lay h) : mK h 111 = 21 := (hL.1 111 (by decide) (by decide)).1
theorem ln_111 {h : mh} (hL : Lay h) : mN h 111 = 30 := (hL.1 111 (by decide) (by decide)).2
theorem lk_112 {h : mh} (hL : Lay h) : mK h 112 = 21 := (hL.1 112 (by decide) (by decide)).1
theorem ln_112 {h : mh} (hL : Lay h) : mN h 112 = 30 := (hL.1 112 (by decide) (by decide)).2
theorem lk_113 {h : mh} (hL : Lay h) : mK h 113 = 2 := (hL.1 113 (by decide) (by decide)).1
theorem ln_113 {h : mh} (hL : Lay h) : mN h 113 = 3 := (hL.1 113 (by decide) (by decide)).2
theorem lk_114 {h : mh} (hL : Lay h) : mK h 114 = 21 := (hL.1 114 (by decide) (by decide)).1
theorem ln_114 {h : mh} (hL : Lay h) : mN h 114 = 30 := (hL.1 114 (by decide) (by decide)).2
theorem lk_115 {h : mh} (hL : Lay h) : mK h 115 = 21 := (hL.1 115 (by decide) (by decide)).1
theorem ln_115 {h : mh} (hL : Lay h) : mN h 115 = 30 := (hL.1 115 (by decide) (by decide)).2
theorem lk_116 {h : mh} (hL : Lay h) : mK h 116 = 1 := (hL.1 116 (by decide) (by decide)).1
theorem ln_116 {h : mh} (hL : Lay h) : mN h 116 = 5 := (hL.1 116 (by decide) (by decide)).2
theorem lk_117 {h : mh} (hL : Lay h) : mK h 117 = 21 := (hL.1 117 (by decide) (by decide)).1
theorem ln_117 {h : mh} (hL : Lay h) : mN h 117 = 40 := (hL.1 117 (by decide) (by decide)).2
theorem lk_118 {h : mh} (hL : Lay h) : mK h 118 = 21 := (hL.1 118 (by decide) (by decide)).1
theorem ln_118 {h : mh} (hL : Lay h) : mN h 118 = 0 := (hL.1 118 (by decide) (by decide)).2
theorem lk_119 {h : mh} (hL : Lay h) : mK h 119 = 21 := (hL.1 119 (by decide) (by decide)).1
theorem ln_119 {h : mh} (hL : Lay h) : mN h 119 = 0 := (hL.1 119 (by decide) (by decide)).2
theorem lk_120 {h : mh} (hL : Lay h) : mK h 120 = 21 := (hL.1 120 (by decide) (by decide)).1
theorem ln_120 {h : mh} (hL : Lay h) : mN h 120 = 0 := (hL.1 120 (by decide) (by decide)).2
theorem lk_121 {h : mh} (hL : Lay h) : mK h 121 = 21 := (hL.1 121 (by decide) (by decide)).1
theorem ln_121 {h : mh} (hL : Lay h) : mN h 121 = 1 := (hL.1 121 (by decide) (by decide)).2
theorem lk_122 {h : mh} (hL : Lay h) : mK h 122 = 8 := (hL.1 122 (by decide) (by decide)).1
theorem ln_122 {h : mh} (hL : Lay h) : mN h 122 = 3 := (hL.1 122 (by decide) (by decide)).2
theorem lk_123 {h : mh} (hL : Lay h) : mK h 123 = 23 := (hL.1 123 (by decide) (by decide)).1
theorem ln_123 {h : mh} (hL : Lay h) : mN h 123 = 24 := (hL.1 123 (by decide) (by decide)).2
theorem lk_124 {h : mh} (hL : Lay h) : mK h 124 = 21 := (hL.1 124 (by decide) (by decide)).1
theorem ln_124 {h : mh} (hL : Lay h) : mN h 124 = 8 := (hL.1 124 (by decide) (by decide)).2
theorem lk_125 {h : mh} (hL : Lay h) : mK h 125 = 8 := (hL.1 125 (by decide) (by decide)).1
theorem ln_125 {h : mh} (hL : Lay h) : mN h 125 = 3 := (hL.1 125 (by decide) (by decide)).2
theorem lk_126 {h : mh} (hL : Lay h) : mK h 126 = 23 := (hL.1 126 (by decide) (by decide)).1
theorem ln_126 {h : mh} (hL : Lay h) : mN h 126 = 24 := (hL.1 126 (by decide) (by decide)).2
theorem lk_127 {h : mh} (hL : Lay h) : mK h 127 = 21 := (hL.1 127 (by decide) (by decide)).1
theorem ln_127 {h : mh} (hL : Lay h) : mN h 127 = 8 := (hL.1 127 (by decide) (by decide)).2
theorem lk_128 {h : mh} (hL : Lay h) : mK h 128 = 11 := (hL.1 128 (by decide) (by decide)).1
theorem ln_128 {h : mh} (hL : Lay h) : mN h 128 = 48 := (hL.1 128 (by decide) (by decide)).2
theorem lk_129 {h : mh} (hL : Lay h) : mK h 129 = 21 := (hL.1 129 (by decide) (by decide)).1
theorem ln_129 {h : mh} (hL : Lay h) : mN h 129 = 2427 := (hL.1 129 (by decide) (by decide)).2
theorem lk_130 {h : mh} (hL : Lay h) : mK h 130 = 21 := (hL.1 130 (by decide) (by decide)).1
theorem ln_130 {h : mh} (hL : Lay h) : mN h 130 = 8090 := (hL.1 130 (by decide) (by decide)).2
theorem lk_131 {h : mh} (hL : Lay h) : mK h 131 = 22 := (hL.1 131 (by decide) (by decide)).1
theorem ln_131 {h : mh} (hL : Lay h) : mN h 131 = 2 := (hL.1 131 (by decide) (by decide)).2
theorem lk_132 {h : mh} (hL : Lay h) : mK h 132 = 21 := (hL.1 132 (by decide) (by decide)).1
theorem ln_132 {h : mh} (hL : Lay h) : mN h 132 = 100 := (hL.1 132 (by decide) (by decide)).2
theorem lk_133 {h : mh} (hL : Lay h) : mK h 133 = 21 := (hL.1 133 (by decide) (by decide)).1
theorem ln_133 {h : mh} (hL : Lay h) : mN h 133 = 30 := (hL.1 133 (by decide) (by decide)).2
theorem lk_134 {h : mh} (hL : Lay h) : mK h 134 = 21 := (hL.1 134 (by decide) (by decide)).1
theorem ln_134 {h : mh} (hL : Lay h) : mN h 134 = 30 := (hL.1 134 (by decide) (by decide)).2
theorem lk_135 {h : mh} (hL : Lay h) : mK h 135 = 21 := (hL.1 135 (by decide) (by decide)).1
theorem ln_135 {h : mh} (hL : Lay h) : mN h 135 = 36 := (hL.1 135 (by decide) (by decide)).2
theorem lk_136 {h : mh} (hL : Lay h) : mK h 136 = 21 := (hL.1 136 (by decide) (by decide)).1
theorem ln_136 {h : mh} (hL : Lay h) : mN h 136 = 5 := (hL.1 136 (by decide) (by decide)).2
theorem lk_137 {h : mh} (hL : Lay h) : mK h 137 = 21 := (hL.1 137 (by decide) (by decide)).1
theorem ln_137 {h : mh} (hL : Lay h) : mN h 137 = 5 := (hL.1 137 (by decide) (by decide)).2
theorem lk_138 {h : mh} (hL : Lay h) : mK h 138 = 21 := (hL.1 138 (by decide) (by decide)).1
theorem ln_138 {h : mh} (hL : Lay h) : mN h 138 = 6 := (hL.1 138 (by decide) (by decide)).2
theorem lk_139 {h : mh} (hL : Lay h) : mK h 139 = 21 := (hL.1 139 (by decide) (by decide)).1
theorem ln_139 {h : mh} (hL : Lay h) : mN h 139 = 30 := (hL.1 139 (by decide) (by decide)).2
theorem lk_140 {h : mh} (hL : Lay h) : mK h 140 = 21 := (hL.1 140 (by decide) (by decide)).1
theorem ln_140 {h : mh} (hL : Lay h) : mN h 140 = 30 := (hL.1 140 (by decide) (by decide)).2
theorem lk_141 {h : mh} (hL : Lay h) : mK h 141 = 21 := (hL.1 141 (by decide) (by decide)).1
theorem ln_141 {h : mh} (hL : Lay h) : mN h 141 = 1000 := (hL.1 141 (by decide) (by decide)).2
theorem lk_142 {h : mh} (hL : Lay h) : mK h 142 = 21 := (hL.1 142 (by decide) (by decide)).1
theorem ln_142 {h : mh} (hL : Lay h) : mN h 142 = 40 := (hL.1 142 (by decide) (by decide)).2
theorem lk_143 {h : mh} (hL : Lay h) : mK h 143 = 21 := (hL.1 143 (by decide) (by decide)).1
theorem ln_143 {h : mh} (hL : Lay h) : mN h 143 = 8 := (hL.1 143 (by decide) (by decide)).2
theorem lk_144 {h : mh} (hL : Lay h) : mK h 144 = 21 := (hL.1 144 (by decide) (by decide)).1
theorem ln_144 {h : mh} (hL : Lay h) : mN h 144 = 24 := (hL.1 144 (by decide) (by decide)).2
theorem lk_145 {h : mh} (hL : Lay h) : mK h 145 = 21 := (hL.1 145 (by decide) (by decide)).1
theorem ln_145 {h : mh} (hL : Lay h) : mN h 145 = 193 := (hL.1 145 (by decide) (by decide)).2
theorem lk_146 {h : mh} (hL : Lay h) : mK h 146 = 21 := (hL.1 146 (by decide) (by decide)).1
theorem ln_146 {h : mh} (hL : Lay h) : mN h 146 = 193 := (hL.1 146 (by decide) (by decide)).2
theorem lk_147 {h : mh} (hL : Lay h) : mK h 147 = 21 := (hL.1 147 (by decide) (by decide)).1
theorem ln_147 {h : mh} (hL : Lay h) : mN h 147 = 193 := (hL.1 147 (by decide) (by decide)).2
theorem lk_148 {h : mh} (hL : Lay h) : mK h 148 = 21 := (hL.1 148 (by decide) (by decide)).1
theorem ln_148 {h : mh} (hL : Lay h) : mN h 148 = 193 := (hL.1 148 (by decide) (by decide)).2
theorem lk_149 {h : mh} (hL : Lay h) : mK h 149 = 21 := (hL.1 149 (by decide) (by decide)).1
theorem ln_149 {h : mh} (hL : Lay h) : mN h 149 = 193 := (hL.1 149 (by decide) (by decide)).2
theorem lk_150 {h : mh} (hL : Lay h) : mK h 150 = 21 := (hL.1 150 (by decide) (by decide)).1
theorem ln_150 {h : mh} (hL : Lay h) : mN h 150 = 24 := (hL.1 150 (by decide) (by decide)).2
theorem lk_151 {h : mh} (hL : Lay h) : mK h 151 = 21 := (hL.1 151 (by decide) (by decide)).1
theorem ln_151 {h : mh} (hL : Lay h) : mN h 151 = 9 := (hL.1 151 (by decide) (by decide)).2
theorem lk_152 {h : mh} (hL : Lay h) : mK h 152 = 22 := (hL.1 152 (by decide) (by decide)).1
theorem ln_152 {h : mh} (hL : Lay h) : mN h 152 = 193 := (hL.1 152 (by decide) (by decide)).2
theorem lk_153 {h : mh} (hL : Lay h) : mK h 153 = 22 := (hL.1 153 (by decide) (by decide)).1
theorem ln_153 {h : mh} (hL : Lay h) : mN h 153 = 576 := (hL.1 153 (by decide) (by decide)).2
theorem lk_154 {h : mh} (hL : Lay h) : mK h 154 = 21 := (hL.1 154 (by decide) (by decide)).1
theorem ln_154 {h : mh} (hL : Lay h) : mN h 154 = 24 := (hL.1 154 (by decide) (by decide)).2
theorem lp_3_0 {h : mh} (hL : Lay h) : mP h 3 0 = 4 := hL.2.1 (3, 0, 4) (List.mem_of_getElem? (i := 0) rfl)
theorem lp_3_1 {h : mh} (hL : Lay h) : mP h 3 1 = 9 := hL.2.1 (3, 1, 9) (List.mem_of_getElem? (i := 1) rfl)
theorem lp_3_2 {h : mh} (hL : Lay h) : mP h 3 2 = 12 := hL.2.1 (3, 2, 12) (List.mem_of_getElem? (i := 2) rfl)
theorem lp_3_3 {h : mh} (hL : Lay h) : mP h 3 3 = 17 := hL.2.1 (3, 3, 17) (List.mem_of_getElem? (i := 3) rfl)
theorem lp_3_4 {h : mh} (hL : Lay h) : mP h 3 4 = 62 := hL.2.1 (3, 4, 62) (List.mem_of_getElem? (i := 4) rfl)
theorem lp_3_5 {h : mh} (hL : Lay h) : mP h 3 5 = 94 := hL.2.1 (3, 5, 94) (List.mem_of_getElem? (i := 5) rfl)
theorem lp_3_6 {h : mh} (hL : Lay h) : mP h 3 6 = 99 := hL.2.1 (3, 6, 99) (List.mem_of_getElem? (i := 6) rfl)
theorem lp_3_7 {h : mh} (hL : Lay h) : mP h 3 7 = 104 := hL.2.1 (3, 7, 104) (List.mem_of_getElem? (i := 7) rfl)
theorem lp_3_8 {h : mh} (hL : Lay h) : mP h 3 8 = 107 := hL.2.1 (3, 8, 107) (List.mem_of_getElem? (i := 8) rfl)
theorem lp_3_9 {h : mh} (hL : Lay h) : mP h 3 9 = 108 := hL.2.1 (3, 9, 108) (List.mem_of_getElem? (i := 9) rfl)
theorem lp_3_10 {h : mh} (hL : Lay h) : mP h 3 10 = 109 := hL.2.1 (3, 10, 109) (List.mem_of_getElem? (i := 10) rfl)
theorem lp_4_0 {h : mh} (hL : Lay h) : mP h 4 0 = 5 := hL.2.1 (4, 0, 5) (List.mem_of_getElem? (i := 11) rfl)
theorem lp_4_1 {h : mh} (hL : Lay h) : mP h 4 1 = 6 := hL.2.1 (4, 1, 6) (List.mem_of_getElem? (i := 12) rfl)
theorem lp_6_0 {h : mh} (hL : Lay h) : mP h 6 0 = 7 := hL.2.1 (6, 0, 7) (List.mem_of_getElem? (i := 13) rfl)
theorem lp_6_1 {h : mh} (hL : Lay h) : mP h 6 1 = 8 := hL.2.1 (6, 1, 8) (List.mem_of_getElem? (i := 14) rfl)
theorem lp_9_0 {h : mh} (hL : Lay h) : mP h 9 0 = 10 := hL.2.1 (9, 0, 10) (List.mem_of_getElem? (i := 15) rfl)
theorem lp_9_1 {h : mh} (hL : Lay h) : mP h 9 1 = 11 := hL.2.1 (9, 1, 11) (List.mem_of_getElem? (i := 16) rfl)
theorem lp_12_0 {h : mh} (hL : Lay h) : mP h 12 0 = 13 := hL.2.1 (12, 0, 13) (List.mem_of_getElem? (i := 17) rfl)
theorem lp_12_1 {h : mh} (hL : Lay h) : mP h 12 1 = 14 := hL.2.1 (12, 1, 14) (List.mem_of_getElem? (i := 18) rfl)
theorem lp_12_2 {h : mh} (hL : Lay h) : mP h 12 2 = 15 := hL.2.1 (12, 2, 15) (List.mem_of_getElem? (i := 19) rfl)
theorem lp_12_3 {h : mh} (hL : Lay h) : mP h 12 3 = 16 := hL.2.1 (12, 3, 16) (List.mem_of_getElem? (i := 20) rfl)
theorem lp_17_0 {h : mh} (hL : Lay h) : mP h 17 0 = 18 := hL.2.1 (17, 0, 18) (List.mem_of_getElem? (i := 21) rfl)
theorem lp_17_1 {h : mh} (hL : Lay h) : mP h 17 1 = 59 := hL.2.1 (17, 1, 59) (List.mem_of_getElem? (i := 22) rfl)
theorem lp_17_2 {h : mh} (hL : Lay h) : mP h 17 2 = 60 := hL.2.1 (17, 2, 60) (List.mem_of_getElem? (i := 23) rfl)
theorem lp_17_3 {h : mh} (hL : Lay h) : mP h 17 3 = 61 := hL.2.1 (17, 3, 61) (List.mem_of_getElem? (i := 24) rfl)
theorem lp_18_0 {h : mh} (hL : Lay h) : mP h 18 0 = 19 := hL.2.1 (18, 0, 19) (List.mem_of_getElem? (i := 25) rfl)
theorem lp_18_1 {h : mh} (hL : Lay h) : mP h 18 1 = 20 := hL.2.1 (18, 1, 20) (List.mem_of_getElem? (i := 26) rfl)
theorem lp_18_2 {h : mh} (hL : Lay h) : mP h 18 2 = 21 := hL.2.1 (18, 2, 21) (List.mem_of_getElem? (i := 27) rfl)
theorem lp_18_3 {h : mh} (hL : Lay h) : mP h 18 3 = 22 := hL.2.1 (18, 3, 22) (List.mem_of_getElem? (i := 28) rfl)
theorem lp_18_4 {h : mh} (hL : Lay h) : mP h 18 4 = 23 := hL.2.1 (18, 4, 23) (List.mem_of_getElem? (i := 29) rfl)
theorem lp_18_5 {h : mh} (hL : Lay h) : mP h 18 5 = 24 := hL.2.1 (18, 5, 24) (List.mem_of_getElem? (i := 30) rfl)
theorem lp_18_6 {h : mh} (hL : Lay h) : mP h 18 6 = 25 := hL.2.1 (18, 6, 25) (List.mem_of_getElem? (i := 31) rfl)
theorem lp_18_7 {h : mh} (hL : Lay h) : mP h 18 7 = 26 := hL.2.1 (18, 7, 26) (List.mem_of_getElem? (i := 32) rfl)
theorem lp_18_8 {h : mh} (hL : Lay h) : mP h 18 8 = 27 := hL.2.1 (18, 8, 27) (List.mem_of_getElem? (i := 33) rfl)
theorem lp_18_9 {h : mh} (hL : Lay h) : mP h 18 9 = 28 := hL.2.1 (18, 9, 28) (List.mem_of_getElem? (i := 34) rfl)
theorem lp_18_10 {h : mh} (hL : Lay h) : mP h 18 10 = 29 := hL.2.1 (18, 10, 29) (List.mem_of_getElem? (i := 35) rfl)
theorem lp_18_11 {h : mh} (hL : Lay h) : mP h 18 11 = 30 := hL.2.1 (18, 11, 30) (List.mem_of_getElem? (i := 36) rfl)
theorem lp_18_12 {h : mh} (hL : Lay h) : mP h 18 12 = 31 := hL.2.1 (18, 12, 31) (List.mem_of_getElem? (i := 37) rfl)
theorem lp_18_13 {h : mh} (hL : Lay h) : mP h 18 13 = 32 := hL.2.1 (18, 13, 32) (List.mem_of_getElem? (i := 38) rfl)
theorem lp_18_14 {h : mh} (hL : Lay h) : mP h 18 14 = 33 := hL.2.1 (18, 14, 33) (List.mem_of_getElem? (i := 39) rfl)
theorem lp_18_15 {h : mh} (hL : Lay h) : mP h 18 15 = 34 := hL.2.1 (18, 15, 34) (List.mem_of_getElem? (i := 40) rfl)
theorem lp_18_16 {h : mh} (hL : Lay h) : mP h 18 16 = 35 := hL.2.1 (18, 16, 35) (List.mem_of_getElem? (i := 41) rfl)
theorem lp_18_17 {h : mh} (hL : Lay h) : mP h 18 17 = 36 := hL.2.1 (18, 17, 36) (List.mem_of_getElem? (i := 42) rfl)
theorem lp_18_18 {h : mh} (hL : Lay h) : mP h 18 18 = 37 := hL.2.1 (18, 18, 37) (List.mem_of_getElem? (i := 43) rfl)
theorem lp_18_19 {h : mh} (hL : Lay h) : mP h 18 19 = 38 := hL.2.1 (18, 19, 38) (List.mem_of_getElem? (i := 44) rfl)
theorem lp_18_20 {h : mh} (hL : Lay h) : mP h 18 20 = 39 := hL.2.1 (18, 20, 39) (List.mem_of_getElem? (i := 45) rfl)
theorem lp_18_21 {h : mh} (hL : Lay h) : mP h 18 21 = 40 := hL.2.1 (18, 21, 40) (List.mem_of_getElem? (i := 46) rfl)
theorem lp_18_22 {h : mh} (hL : Lay h) : mP h 18 22 = 41 := hL.2.1 (18, 22, 41) (List.mem_of_getElem? (i := 47) rfl)
theorem lp_18_23 {h : mh} (hL : Lay h) : mP h 18 23 = 42 := hL.2.1 (18, 23, 42) (List.mem_of_getElem? (i := 48) rfl)
theorem lp_18_24 {h : mh} (hL : Lay h) : mP h 18 24 = 43 := hL.2.1 (18, 24, 43) (List.mem_of_getElem? (i := 49) rfl)
theorem lp_18_25 {h : mh} (hL : Lay h) : mP h 18 25 = 44 := hL.2.1 (18, 25, 44) (List.mem_of_getElem? (i := 50) rfl)
theorem lp_18_26 {h : mh} (hL : Lay h) : mP h 18 26 = 45 := hL.2.1 (18, 26, 45) (List.mem_of_getElem? (i := 51) rfl)
theorem lp_18_27 {h : mh} (hL : Lay h) : mP h 18 27 = 46 := hL.2.1 (18, 27, 46) (List.mem_of_getElem? (i := 52) rfl)
theorem lp_18_28 {h : mh} (hL : Lay h) : mP h 18 28 = 47 := hL.2.1 (18, 28, 47) (List.mem_of_getElem? (i := 53) rfl)
theorem lp_18_29 {h : mh} (hL : Lay h) : mP h 18 29 = 48 := hL.2.1 (18, 29, 48) (List.mem_of_getElem? (i := 54) rfl)
theorem lp_18_30 {h : mh} (hL : Lay h) : mP h 18 30 = 49 := hL.2.1 (18, 30, 49) (List.mem_of_getElem? (i := 55) rfl)
theorem lp_18_31 {h : mh} (hL : Lay h) : mP h 18 31 = 50 := hL.2.1 (18, 31, 50) (List.mem_of_getElem? (i := 56) rfl)
theorem lp_18_32 {h : mh} (hL : Lay h) : mP h 18 32 = 51 := hL.2.1 (18, 32, 51) (List.mem_of_getElem? (i := 57) rfl)
theorem lp_18_33 {h : mh} (hL : Lay h) : mP h 18 33 = 52 := hL.2.1 (18, 33, 52) (List.mem_of_getElem? (i := 58) rfl)
theorem lp_18_34 {h : mh} (hL : Lay h) : mP h 18 34 = 53 := hL.2.1 (18, 34, 53) (List.mem_of_getElem? (i := 59) rfl)
theorem lp_18_35 {h : mh} (hL : Lay h) : mP h 18 35 = 54 := hL.2.1 (18, 35, 54) (List.mem_of_getElem? (i := 60) rfl)
theorem lp_18_36 {h : mh} (hL : Lay h) : mP h 18 36 = 55 := hL.2.1 (18, 36, 55) (List.mem_of_getElem? (i := 61) rfl)
theorem lp_18_37 {h : mh} (hL : Lay h) : mP h 18 37 = 56 := hL.2.1 (18, 37, 56) (List.mem_of_getElem? (i := 62) rfl)
theorem lp_18_38 {h : mh} (hL : Lay h) : mP h 18 38 = 57 := hL.2.1 (18, 38, 57) (List.mem_of_getElem? (i := 63) rfl)
theorem lp_18_39 {h : mh} (hL : Lay h) : mP h 18 39 = 58 := hL.2.1 (18, 39, 58) (List.mem_of_getElem? (i := 64) rfl)
theorem lp_62_0 {h : mh} (hL : Lay h) : mP h 62 0 = 63 := hL.2.1 (62, 0, 63) (List.mem_of_getElem? (i := 65) rfl)
theorem lp_63_0 {h : mh} (hL : Lay h) : mP h 63 0 = 64 := hL.2.1 (63, 0, 64) (List.mem_of_getElem? (i := 66) rfl)
theorem lp_63_1 {h : mh} (hL : Lay h) : mP h 63 1 = 67 := hL.2.1 (63, 1, 67) (List.mem_of_getElem? (i := 67) rfl)
theorem lp_63_2 {h : mh} (hL : Lay h) : mP h 63 2 = 70 := hL.2.1 (63, 2, 70) (List.mem_of_getElem? (i := 68) rfl)
theorem lp_63_3 {h : mh} (hL : Lay h) : mP h 63 3 = 73 := hL.2.1 (63, 3, 73) (List.mem_of_getElem? (i := 69) rfl)
theorem lp_63_4 {h : mh} (hL : Lay h) : mP h 63 4 = 76 := hL.2.1 (63, 4, 76) (List.mem_of_getElem? (i := 70) rfl)
theorem lp_63_5 {h : mh} (hL : Lay h) : mP h 63 5 = 79 := hL.2.1 (63, 5, 79) (List.mem_of_getElem? (i := 71) rfl)
theorem lp_63_6 {h : mh} (hL : Lay h) : mP h 63 6 = 82 := hL.2.1 (63, 6, 82) (List.mem_of_getElem? (i := 72) rfl)
theorem lp_63_7 {h : mh} (hL : Lay h) : mP h 63 7 = 85 := hL.2.1 (63, 7, 85) (List.mem_of_getElem? (i := 73) rfl)
theorem lp_63_8 {h : mh} (hL : Lay h) : mP h 63 8 = 88 := hL.2.1 (63, 8, 88) (List.mem_of_getElem? (i := 74) rfl)
theorem lp_63_9 {h : mh} (hL : Lay h) : mP h 63 9 = 91 := hL.2.1 (63, 9, 91) (List.mem_of_getElem? (i := 75) rfl)
theorem lp_64_0 {h : mh} (hL : Lay h) : mP h 64 0 = 65 := hL.2.1 (64, 0, 65) (List.mem_of_getElem? (i := 76) rfl)
theorem lp_64_1 {h : mh} (hL : Lay h) : mP h 64 1 = 66 := hL.2.1 (64, 1, 66) (List.mem_of_getElem? (i := 77) rfl)
theorem lp_67_0 {h : mh} (hL : Lay h) : mP h 67 0 = 68 := hL.2.1 (67, 0, 68) (List.mem_of_getElem? (i := 78) rfl)
theorem lp_67_1 {h : mh} (hL : Lay h) : mP h 67 1 = 69 := hL.2.1 (67, 1, 69) (List.mem_of_getElem? (i := 79) rfl)
theorem lp_70_0 {h : mh} (hL : Lay h) : mP h 70 0 = 71 := hL.2.1 (70, 0, 71) (List.mem_of_getElem? (i := 80) rfl)
theorem lp_70_1 {h : mh} (hL : Lay h) : mP h 70 1 = 72 := hL.2.1 (70, 1, 72) (List.mem_of_getElem? (i := 81) rfl)
theorem lp_73_0 {h : mh} (hL : Lay h) : mP h 73 0 = 74 := hL.2.1 (73, 0, 74) (List.mem_of_getElem? (i := 82) rfl)
theorem lp_73_1 {h : mh} (hL : Lay h) : mP h 73 1 = 75 := hL.2.1 (73, 1, 75) (List.mem_of_getElem? (i := 83) rfl)
theorem lp_76_0 {h : mh} (hL : Lay h) : mP h 76 0 = 77 := hL.2.1 (76, 0, 77) (List.mem_of_getElem? (i := 84) rfl)
theorem lp_76_1 {h : mh} (hL : Lay h) : mP h 76 1 = 78 := hL.2.1 (76, 1, 78) (List.mem_of_getElem? (i := 85) rfl)
theorem lp_79_0 {h : mh} (hL : Lay h) : mP h 79 0 = 80 := hL.2.1 (79, 0, 80) (List.mem_of_getElem? (i := 86) rfl)
theorem lp_79_1 {h : mh} (hL : Lay h) : mP h 79 1 = 81 := hL.2.1 (79, 1, 81) (List.mem_of_getElem? (i := 87) rfl)
theorem lp_82_0 {h : mh} (hL : Lay h) : mP h 82 0 = 83 := hL.2.1 (82, 0, 83) (List.mem_of_getElem? (i := 88) rfl)
theorem lp_82_1 {h : mh} (hL : Lay h) : mP h 82 1 = 84 := hL.2.1 (82, 1, 84) (List.mem_of_getElem? (i := 89) rfl)
theorem lp_85_0 {h : mh} (hL : Lay h) : mP h 85 0 = 86 := hL.2.1 (85, 0, 86) (List.mem_of_getElem? (i := 90) rfl)
theorem lp_85_1 {h : mh} (hL : Lay h) : mP h 85 1 = 87 := hL.2.1 (85, 1, 87) (List.mem_of_getElem? (i := 91) rfl)
theorem lp_88_0 {h : mh} (hL : Lay h) : mP h 88 0 = 89 := hL.2.1 (88, 0, 89) (List.mem_of_getElem? (i := 92) rfl)
theorem lp_88_1 {h : mh} (hL : Lay h) : mP h 88 1 = 90 := hL.2.1 (88, 1, 90) (List.mem_of_getElem? (i := 93) rfl)
theorem lp_91_0 {h : mh} (hL : Lay h) : mP h 91 0 = 92 := hL.2.1 (91, 0, 92) (List.mem_of_getElem? (i := 94) rfl)
theorem lp_91_1 {h : mh} (hL : Lay h) : mP h 91 1 = 93 := hL.2.1 (91, 1, 93) (List.mem_of_getElem? (i := 95) rfl)
theorem lp_94_0 {h : mh} (hL : Lay h) : mP h 94 0 = 95 := hL.2.1 (94, 0, 95) (List.mem_of_getElem? (i := 96) rfl)
theorem lp_94_1 {h : mh} (hL : Lay h) : mP h 94 1 = 96 := hL.2.1 (94, 1, 96) (List.mem_of_getElem? (i := 97) rfl)
theorem lp_94_2 {h : mh} (hL : Lay h) : mP h 94 2 = 97 := hL.2.1 (94, 2, 97) (List.mem_of_getElem? (i := 98) rfl)
theorem lp_94_3 {h : mh} (hL : Lay h) : mP h 94 3 = 98 := hL.2.1 (94, 3, 98) (List.mem_of_getElem? (i := 99) rfl)
theorem lp_99_0 {h : mh} (hL : Lay h) : mP h 99 0 = 100 := hL.2.1 (99, 0, 100) (List.mem_of_getElem? (i := 100) rfl)
theorem lp_99_1 {h : mh} (hL : Lay h) : mP h 99 1 = 101 := hL.2.1 (99, 1, 101) (List.mem_of_getElem? (i := 101) rfl)
theorem lp_99_2 {h : mh} (hL : Lay h) : mP h 99 2 = 102 := hL.2.1 (99, 2, 102) (List.mem_of_getElem? (i := 102) rfl)
theorem lp_99_3 {h : mh} (hL : Lay h) : mP h 99 3 = 103 := hL.2.1 (99, 3, 103) (List.mem_of_getElem? (i := 103) rfl)
theorem lp_104_0 {h : mh} (hL : Lay h) : mP h 104 0 = 105 := hL.2.1 (104, 0, 105) (List.mem_of_getElem? (i := 104) rfl)
theorem lp_104_1 {h : mh} (hL : Lay h) : mP h 104 1 = 106 := hL.2.1 (104, 1, 106) (List.mem_of_getElem? (i := 105) rfl)
theorem lp_107_0 {h : mh} (hL : Lay h) : mP h 107 0 = 122 := hL.2.1 (107, 0, 122) (List.mem_of_getElem? (i := 106) rfl)
theorem lp_107_1 {h : mh} (hL : Lay h) : mP h 107 1 = 125 := hL.2.1 (107, 1, 125) (List.mem_of_getElem? (i := 107) rfl)
theorem lp_110_0 {h : mh} (hL : Lay h) : mP h 110 0 = 111 := hL.2.1 (110, 0, 111) (List.mem_of_getElem? (i := 108) rfl)
theorem lp_110_1 {h : mh} (hL : Lay h) : mP h 110 1 = 112 := hL.2.1 (110, 1, 112) (List.mem_of_getElem? (i := 109) rfl)
theorem lp_113_0 {h : mh} (hL : Lay h) : mP h 113 0 = 114 := hL.2.1 (113, 0, 114) (List.mem_of_getElem? (i := 110) rfl)
theorem lp_113_1 {h : mh} (hL : Lay h) : mP h 113 1 = 115 := hL.2.1 (113, 1, 115) (List.mem_of_getElem? (i := 111) rfl)
theorem lp_116_0 {h : mh} (hL : Lay h) : mP h 116 0 = 118 := hL.2.1 (116, 0, 118) (List.mem_of_getElem? (i := 112) rfl)
theorem lp_116_1 {h : mh} (hL : Lay h) : mP h 116 1 = 119 := hL.2.1 (116, 1, 119) (List.mem_of_getElem? (i := 113) rfl)
theorem lp_116_2 {h : mh} (hL : Lay h) : mP h 116 2 = 120 := hL.2.1 (116, 2, 120) (List.mem_of_getElem? (i := 114) rfl)
theorem lp_116_3 {h : mh} (hL : Lay h) : mP h 116 3 = 121 := hL.2.1 (116, 3, 121) (List.mem_of_getElem? (i := 115) rfl)
theorem lp_116_4 {h : mh} (hL : Lay h) : mP h 116 4 = 117 := hL.2.1 (116, 4, 117) (List.mem_of_getElem? (i := 116) rfl)
theorem lp_122_0 {h : mh} (hL : Lay h) : mP h 122 0 = 123 := hL.2.1 (122, 0, 123) (List.mem_of_getElem? (i := 117) rfl)
theorem lp_122_1 {h : mh} (hL : Lay h) : mP h 122 1 = 124 := hL.2.1 (122, 1, 124) (List.mem_of_getElem? (i := 118) rfl)
theorem lp_125_0 {h : mh} (hL : Lay h) : mP h 125 0 = 126 := hL.2.1 (125, 0, 126) (List.mem_of_getElem? (i := 119) rfl)
theorem lp_125_1 {h : mh} (hL : Lay h) : mP h 125 1 = 127 := hL.2.1 (125, 1, 127) (List.mem_of_getElem? (i := 120) rfl)
theorem lp_128_1 {h : mh} (hL : Lay h) : mP h 128 1 = 129 := hL.2.1 (128, 1, 129) (List.mem_of_getElem? (i := 121) rfl)
theorem lp_128_2 {h : mh} (hL : Lay h) : mP h 128 2 = 130 := hL.2.1 (128, 2, 130) (List.mem_of_getElem? (i := 122) rfl)
theorem lp_128_4 {h : mh} (hL : Lay h) : mP h 128 4 = 131 := hL.2.1 (128, 4, 131) (List.mem_of_getElem? (i := 123) rfl)
theorem lp_128_5 {h : mh} (hL : Lay h) : mP h 128 5 = 132 := hL.2.1 (128, 5, 132) (List.mem_of_getElem? (i := 124) rfl)
theorem lp_128_6 {h : mh} (hL : Lay h) : mP h 128 6 = 133 := hL.2.1 (128, 6, 133) (List.mem_of_getElem? (i := 125) rfl)
theorem lp_128_16 {h : mh} (hL : Lay h) : mP h 128 16 = 134 := hL.2.1 (128, 16, 134) (List.mem_of_getElem? (i := 126) rfl)
theorem lp_128_19 {h : mh} (hL : Lay h) : mP h 128 19 = 135 := hL.2.1 (128, 19, 135) (List.mem_of_getElem? (i := 127) rfl)
theorem lp_128_20 {h : mh} (hL : Lay h) : mP h 128 20 = 136 := hL.2.1 (128, 20, 136) (List.mem_of_getElem? (i := 128) rfl)
theorem lp_128_21 {h : mh} (hL : Lay h) : mP h 128 21 = 137 := hL.2.1 (128, 21, 137) (List.mem_of_getElem? (i := 129) rfl)
theorem lp_128_22 {h : mh} (hL : Lay h) : mP h 128 22 = 138 := hL.2.1 (128, 22, 138) (List.mem_of_getElem? (i := 130) rfl)
theorem lp_128_31 {h : mh} (hL : Lay h) : mP h 128 31 = 139 := hL.2.1 (128, 31, 139) (List.mem_of_getElem? (i := 131) rfl)
theorem lp_128_32 {h : mh} (hL : Lay h) : mP h 128 32 = 140 := hL.2.1 (128, 32, 140) (List.mem_of_getElem? (i := 132) rfl)
theorem lp_128_33 {h : mh} (hL : Lay h) : mP h 128 33 = 141 := hL.2.1 (128, 33, 141) (List.mem_of_getElem? (i := 133) rfl)
theorem lp_128_34 {h : mh} (hL : Lay h) : mP h 128 34 = 142 := hL.2.1 (128, 34, 142) (List.mem_of_getElem? (i := 134) rfl)
theorem lp_128_35 {h : mh} (hL : Lay h) : mP h 128 35 = 143 := hL.2.1 (128, 35, 143) (List.mem_of_getElem? (i := 135) rfl)
theorem lp_128_36 {h : mh} (hL : Lay h) : mP h 128 36 = 144 := hL.2.1 (128, 36, 144) (List.mem_of_getElem? (i := 136) rfl)
theorem lp_128_37 {h : mh} (hL : Lay h) : mP h 128 37 = 145 := hL.2.1 (128, 37, 145) (List.mem_of_getElem? (i := 137) rfl)
theorem lp_128_38 {h : mh} (hL : Lay h) : mP h 128 38 = 146 := hL.2.1 (128, 38, 146) (List.mem_of_getElem? (i := 138) rfl)
theorem lp_128_39 {h : mh} (hL : Lay h) : mP h 128 39 = 147 := hL.2.1 (128, 39, 147) (List.mem_of_getElem? (i := 139) rfl)
theorem lp_128_40 {h : mh} (hL : Lay h) : mP h 128 40 = 148 := hL.2.1 (128, 40, 148) (List.mem_of_getElem? (i := 140) rfl)
theorem lp_128_41 {h : mh} (hL : Lay h) : mP h 128 41 = 149 := hL.2.1 (128, 41, 149) (List.mem_of_getElem? (i := 141) rfl)
theorem lp_128_42 {h : mh} (hL : Lay h) : mP h 128 42 = 150 := hL.2.1 (128, 42, 150) (List.mem_of_getElem? (i := 142) rfl)
theorem lp_128_43 {h : mh} (hL : Lay h) : mP h 128 43 = 151 := hL.2.1 (128, 43, 151) (List.mem_of_getElem? (i := 143) rfl)
theorem lp_128_44 {h : mh} (hL : Lay h) : mP h 128 44 = 152 := hL.2.1 (128, 44, 152) (List.mem_of_getElem? (i := 144) rfl)
theorem lp_128_46 {h : mh} (hL : Lay h) : mP h 128 46 = 153 := hL.2.1 (128, 46, 153) (List.mem_of_getElem? (i := 145) rfl)
theorem lp_128_47 {h : mh} (hL : Lay h) : mP h 128 47 = 154 := hL.2.1 (128, 47, 154) (List.mem_of_getElem? (i := 146) rfl)
