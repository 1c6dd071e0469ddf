/-! ===== depths by a row of terms still due ===== -/
def nz : List Nat → List Nat
  | [] => []
  | 0 :: s => nz s
  | (n + 1) :: s => (n + 1) :: s
def stp (s : List Nat) (c : Nat) : List Nat := if c < 100 then (match nz s with
  | [] => []
  | n :: s' => ar c :: (n - 1) :: s') else [ar c]
/-- the depths of symbols, terms due at each level known -/
def dl : List Nat → List Nat → List Nat
  | _, [] => []
  | s, c :: l => (if c < 100 then (nz s).length else 0) :: dl (stp s c) l
theorem dl_len : ∀ l s, (dl s l).length = l.length
  | [], _ => rfl
  | c :: l, s => by
    show (dl (stp s c) l).length + 1 = l.length + 1
    rw [dl_len l]
theorem dl_nz {s t : List Nat} (h : nz s = nz t) : ∀ l, dl s l = dl t l
  | [] => rfl
  | c :: l => by
    have e : stp s c = stp t c := by
      unfold stp
      rw [h]
    show (if c < 100 then (nz s).length else 0) :: dl (stp s c) l = (if c < 100 then (nz t).length else 0) :: dl (stp t c) l
    rw [e, h]
theorem nz_z : ∀ {u v : List Nat}, u.sum = 0 → nz (u ++ v) = nz v
  | [], _, _ => rfl
  | 0 :: u, v, h => by
    have h : 0 + u.sum = 0 := h
    exact nz_z (u := u) (v := v) (by omega)
  | (n + 1) :: u, v, h => by
    have h : n + 1 + u.sum = 0 := h
    omega
theorem nz_p : ∀ {u v : List Nat}, 0 < u.sum → ∃ a u', nz (u ++ v) = (a + 1) :: (u' ++ v) ∧ u.sum = a + 1 + u'.sum
  | [], _, h => absurd h (Nat.lt_irrefl _)
  | 0 :: u, v, h => by
    have h : 0 < 0 + u.sum := h
    obtain ⟨a, u', e1, e2⟩ := nz_p (u := u) (v := v) (by omega)
    refine ⟨a, u', e1, ?_⟩
    show 0 + u.sum = _
    omega
  | (n + 1) :: u, v, h => ⟨n, u, rfl, rfl⟩
theorem tcode_100 {c : Nat} (h : tcode c = true) : c < 100 := by
  have := tcode_lt h
  omega
/-- whole terms, then the rest -/
theorem dl_gen : ∀ (t : List Nat) (u s r : List Nat) (k x : Nat), tl t (u.sum + k) = true → dl (u ++ (k + x) :: s) (t ++ r) = dl (u ++ (k + x) :: s) t ++ dl (x :: s) r
  | [], u, s, r, k, x, h => by
    have h : u.sum + k = 0 := Nat.eq_of_beq_eq_true h
    show dl (u ++ (k + x) :: s) r = [] ++ dl (x :: s) r
    rw [List.nil_append]
    apply dl_nz
    rw [nz_z (by omega), show k + x = x by omega]
  | c :: t, u, s, r, k, x, h => by
    obtain ⟨m, hm⟩ : ∃ m, u.sum + k = m + 1 := by
      cases hk : u.sum + k with
      | zero => rw [hk] at h; cases h
      | succ m => exact ⟨m, rfl⟩
    rw [hm] at h
    have h : (tcode c && tl t (m + ar c)) = true := h
    rw [Bool.and_eq_true] at h
    have hc := tcode_100 h.1
    show (if c < 100 then (nz (u ++ (k + x) :: s)).length else 0) :: dl (stp (u ++ (k + x) :: s) c) (t ++ r) = ((if c < 100 then (nz (u ++ (k + x) :: s)).length else 0) :: dl (stp (u ++ (k + x) :: s) c) t) ++ dl (x :: s) r
    rw [List.cons_append]
    congr 1
    rcases Nat.eq_zero_or_pos u.sum with z | z
    · obtain ⟨k', hk'⟩ : ∃ k', k = k' + 1 := ⟨k - 1, by omega⟩
      subst hk'
      have e : stp (u ++ (k' + 1 + x) :: s) c = [ar c] ++ (k' + x) :: s := by
        unfold stp
        rw [if_pos hc, nz_z z, show k' + 1 + x = (k' + x) + 1 by omega]
        rfl
      rw [e]
      refine dl_gen t [ar c] s r k' x ?_
      have : [ar c].sum + k' = m + ar c := by
        show ar c + 0 + k' = _
        omega
      rw [this]
      exact h.2
    · obtain ⟨a, u', e1, e2⟩ := nz_p (u := u) (v := (k + x) :: s) z
      have e : stp (u ++ (k + x) :: s) c = (ar c :: a :: u') ++ (k + x) :: s := by
        unfold stp
        rw [if_pos hc, e1]
        rfl
      rw [e]
      refine dl_gen t (ar c :: a :: u') s r k x ?_
      have : (ar c :: a :: u').sum + k = m + ar c := by
        show ar c + (a + u'.sum) + k = _
        omega
      rw [this]
      exact h.2
theorem dl_tl {t : List Nat} {k : Nat} (h : tl t k = true) (x : Nat) (s r : List Nat) : dl ((k + x) :: s) (t ++ r) = dl ((k + x) :: s) t ++ dl (x :: s) r := by
  have := dl_gen t [] s r k x (by
    have : ([] : List Nat).sum + k = k := Nat.zero_add k
    rw [this]
    exact h)
  exact this
/-- entries above the last one that reach beyond x -/
def cof (l : List Nat) (x : Nat) : Nat → List Nat → Nat
  | _, [] => 0
  | _, [_] => 0
  | acc, a :: b :: s => (if x < tlen l (acc + a) then 1 else 0) + cof l x (acc + a) (b :: s)
theorem cof_z (l : List Nat) (x : Nat) : ∀ s, cof l x 0 s = cof l x 0 (nz s)
  | [] => rfl
  | 0 :: [] => rfl
  | 0 :: b :: s => by
    have ih := cof_z l x (b :: s)
    show (if x < tlen l (0 + 0) then 1 else 0) + cof l x (0 + 0) (b :: s) = cof l x 0 (nz (b :: s))
    rw [tlen_0, if_neg (by omega), Nat.zero_add]
    exact ih
  | (n + 1) :: s => rfl
theorem cof_sh (c : Nat) (l : List Nat) (x : Nat) : ∀ s acc, 1 ≤ acc → cof (c :: l) (x + 1) acc s = cof l x (acc - 1 + ar c) s
  | [], _, _ => rfl
  | [_], _, _ => rfl
  | a :: b :: s, acc, h => by
    have ih := cof_sh c l x (b :: s) (acc + a) (by omega)
    show (if x + 1 < tlen (c :: l) (acc + a) then 1 else 0) + cof (c :: l) (x + 1) (acc + a) (b :: s) = (if x < tlen l (acc - 1 + ar c + a) then 1 else 0) + cof l x (acc - 1 + ar c + a) (b :: s)
    rw [ih]
    have e : tlen (c :: l) (acc + a) = tlen l (acc - 1 + ar c + a) + 1 := by
      obtain ⟨m, hm⟩ : ∃ m, acc + a = m + 1 := ⟨acc + a - 1, by omega⟩
      rw [hm]
      show tlen l (m + ar c) + 1 = _
      rw [show m + ar c = acc - 1 + ar c + a by omega]
    rw [e, show acc + a - 1 + ar c = acc - 1 + ar c + a by omega]
    congr 1
    by_cases z : x < tlen l (acc - 1 + ar c + a)
    · rw [if_pos z, if_pos (by omega)]
    · rw [if_neg z, if_neg (by omega)]
theorem cof_all (c : Nat) (l : List Nat) : ∀ s acc, 1 ≤ acc + s.headD 0 → s ≠ [] → cof (c :: l) 0 acc s + 1 = s.length
  | [], _, _, h => absurd rfl h
  | [_], _, _, _ => rfl
  | a :: b :: s, acc, h, _ => by
    have h : 1 ≤ acc + a := h
    have ih := cof_all c l (b :: s) (acc + a) (by omega) (by simp)
    show (if 0 < tlen (c :: l) (acc + a) then 1 else 0) + cof (c :: l) 0 (acc + a) (b :: s) + 1 = (b :: s).length + 1
    have : 0 < tlen (c :: l) (acc + a) := by
      obtain ⟨m, hm⟩ : ∃ m, acc + a = m + 1 := ⟨acc + a - 1, by omega⟩
      rw [hm]
      exact Nat.succ_pos _
    rw [if_pos this]
    omega
theorem nz_ne {s : List Nat} (h : 0 < s.sum) : ∃ a s', nz s = (a + 1) :: s' ∧ s.sum = a + 1 + s'.sum := by
  obtain ⟨a, u', e1, e2⟩ := nz_p (u := s) (v := []) h
  rw [List.append_nil, List.append_nil] at e1
  exact ⟨a, u', e1, e2⟩
theorem cof_sum0 (l : List Nat) (x : Nat) : ∀ s acc, acc + s.sum = 0 → cof l x acc s = 0
  | [], _, _ => rfl
  | [_], _, _ => rfl
  | a :: b :: s, acc, h => by
    have h : acc + (a + (b :: s).sum) = 0 := h
    have ih := cof_sum0 l x (b :: s) (acc + a) (by omega)
    show (if x < tlen l (acc + a) then 1 else 0) + cof l x (acc + a) (b :: s) = 0
    rw [ih, show acc + a = 0 by omega, tlen_0, if_neg (by omega)]
theorem dl_dep (cs : List Nat) : ∀ (l : List Nat) (i : Nat) (s : List Nat), cs.drop i = l → wf l s.sum = true → (∀ x, opn cs (i + x) i = cof l x 0 s) → ∀ j, j < l.length → cd (dl s l) j = dep cs (i + j)
  | [], _, _, _, _, _, j, hj => absurd hj (Nat.not_lt_zero _)
  | c :: l, i, s, hd, hw, ho, j, hj => by
    obtain ⟨a1, a2, a3⟩ := drop_cons hd
    have e0 : cd (dl s (c :: l)) 0 = dep cs i := by
      show (if c < 100 then (nz s).length else 0) = dep cs i
      unfold dep
      rw [a2]
      by_cases hc : c < 100
      · rw [if_pos hc, if_pos hc]
        have hs : 0 < s.sum := by
          rcases Nat.eq_zero_or_pos s.sum with z | z
          · rw [z] at hw
            have hw : ((Nat.ble 100 c && Nat.ble c 107) && wf l (ar c)) = true := hw
            rw [Bool.and_eq_true, Bool.and_eq_true] at hw
            have := Nat.le_of_ble_eq_true hw.1.1
            omega
          · exact z
        obtain ⟨a, s', e1, e2⟩ := nz_ne hs
        have := ho 0
        rw [Nat.add_zero] at this
        rw [this, cof_z, e1]
        have := cof_all c l ((a + 1) :: s') 0 (by show 1 ≤ 0 + (a + 1); omega) (by simp)
        omega
      · rw [if_neg hc, if_neg hc]
    cases j with
    | zero => exact e0
    | succ j =>
      show cd (dl (stp s c) l) j = _
      have key : wf l (stp s c).sum = true ∧ ∀ x, opn cs (i + 1 + x) (i + 1) = cof l x 0 (stp s c) := by
        have os : ∀ x, opn cs (i + 1 + x) (i + 1) = opn cs (i + (x + 1)) i + (if c < 100 ∧ x < tlen l (ar c) then 1 else 0) := by
          intro x
          show opn cs (i + 1 + x) i + (if cd cs i < 100 ∧ i + 1 + x < endp cs i then 1 else 0) = _
          have ee : endp cs i = i + (tlen l (ar c) + 1) := by
            unfold endp
            rw [hd]
            show i + (tlen l (0 + ar c) + 1) = _
            rw [Nat.zero_add]
          rw [a2, ee, show i + 1 + x = i + (x + 1) by omega]
          congr 1
          by_cases z : c < 100 ∧ x < tlen l (ar c)
          · rw [if_pos z, if_pos ⟨z.1, by omega⟩]
          · rw [if_neg z, if_neg (fun y => z ⟨y.1, by omega⟩)]
        rcases Nat.eq_zero_or_pos s.sum with z | z
        · rw [z] at hw
          have hw : ((Nat.ble 100 c && Nat.ble c 107) && wf l (ar c)) = true := hw
          rw [Bool.and_eq_true, Bool.and_eq_true] at hw
          have hc : ¬ c < 100 := by
            have := Nat.le_of_ble_eq_true hw.1.1
            omega
          have e : stp s c = [ar c] := if_neg hc
          rw [e]
          refine ⟨?_, fun x => ?_⟩
          · show wf l (ar c + 0) = true
            exact hw.2
          · rw [os, ho, cof_sum0 _ _ s 0 (by omega), if_neg (fun y => hc y.1)]
            rfl
        · obtain ⟨m, hm⟩ : ∃ m, s.sum = m + 1 := ⟨s.sum - 1, by omega⟩
          rw [hm] at hw
          have hw : (tcode c && wf l (m + ar c)) = true := hw
          rw [Bool.and_eq_true] at hw
          have hc := tcode_100 hw.1
          obtain ⟨a, s', e1, e2⟩ := nz_ne z
          have e : stp s c = ar c :: a :: s' := by
            unfold stp
            rw [if_pos hc, e1]
            rfl
          rw [e]
          refine ⟨?_, fun x => ?_⟩
          · have : (ar c :: a :: s').sum = m + ar c := by
              show ar c + (a + s'.sum) = _
              omega
            rw [this]
            exact hw.2
          · rw [os, ho, cof_z, e1]
            have e3 : cof l x 0 (ar c :: a :: s') = (if x < tlen l (0 + ar c) then 1 else 0) + cof l x (0 + ar c) (a :: s') := rfl
            rw [e3, Nat.zero_add]
            have e4 : cof (c :: l) (x + 1) 0 ((a + 1) :: s') = cof l x (ar c) (a :: s') := by
              cases s' with
              | nil => rfl
              | cons b s' =>
                show (if x + 1 < tlen (c :: l) (0 + (a + 1)) then 1 else 0) + cof (c :: l) (x + 1) (0 + (a + 1)) (b :: s') = (if x < tlen l (ar c + a) then 1 else 0) + cof l x (ar c + a) (b :: s')
                rw [cof_sh c l x (b :: s') (0 + (a + 1)) (by omega), show 0 + (a + 1) - 1 + ar c = ar c + a by omega, show 0 + (a + 1) = a + 1 by omega]
                congr 1
                have e5 : tlen (c :: l) (a + 1) = tlen l (ar c + a) + 1 := by
                  show tlen l (a + ar c) + 1 = _
                  rw [Nat.add_comm a]
                rw [e5]
                by_cases y : x < tlen l (ar c + a)
                · rw [if_pos y, if_pos (by omega)]
                · rw [if_neg y, if_neg (by omega)]
            rw [e4]
            by_cases y : x < tlen l (ar c)
            · rw [if_pos y, if_pos ⟨hc, y⟩]
              omega
            · rw [if_neg y, if_neg (fun w => y w.2)]
              omega
      have ih := dl_dep cs l (i + 1) (stp s c) a3 key.1 key.2 j (Nat.lt_of_succ_lt_succ hj)
      rw [ih, show i + 1 + j = i + (j + 1) by omega]
theorem dep_dl {cs : List Nat} (h : wf cs 0 = true) {j : Nat} (hj : j < cs.length) : cd (dl [] cs) j = dep cs j := by
  have := dl_dep cs cs 0 [] rfl h (fun x => rfl) j hj
  rwa [Nat.zero_add] at this
/-- a literal begins anew -/
theorem dl_pred {c : Nat} (hc : ¬ c < 100) (s : List Nat) (l : List Nat) : dl s (c :: l) = 0 :: dl [ar c] l := by
  show (if c < 100 then (nz s).length else 0) :: dl (stp s c) l = _
  have e : stp s c = [ar c] := if_neg hc
  rw [if_neg hc, e]
theorem tl_wf : ∀ (l : List Nat) (n : Nat), tl l n = true → wf l n = true
  | [], _, h => h
  | c :: l, 0, h => by cases h
  | c :: l, n + 1, h => by
    have h : (tcode c && tl l (n + ar c)) = true := h
    rw [Bool.and_eq_true] at h
    show (tcode c && wf l (n + ar c)) = true
    rw [h.1, tl_wf l _ h.2]
    rfl
theorem wf_app : ∀ (A : List Nat) (n : Nat) (B : List Nat), wf A n = true → wf B 0 = true → wf (A ++ B) n = true
  | [], n, B, h, hB => by
    have : n = 0 := Nat.eq_of_beq_eq_true h
    subst this
    exact hB
  | c :: A, 0, B, h, hB => by
    have h : ((Nat.ble 100 c && Nat.ble c 107) && wf A (ar c)) = true := h
    rw [Bool.and_eq_true] at h
    show ((Nat.ble 100 c && Nat.ble c 107) && wf (A ++ B) (ar c)) = true
    rw [h.1, wf_app A _ B h.2 hB]
    rfl
  | c :: A, n + 1, B, h, hB => by
    have h : (tcode c && wf A (n + ar c)) = true := h
    rw [Bool.and_eq_true] at h
    show (tcode c && wf (A ++ B) (n + ar c)) = true
    rw [h.1, wf_app A _ B h.2 hB]
    rfl
theorem nlit_app : ∀ A B : List Nat, nlit (A ++ B) = nlit A + nlit B
  | [], B => by rw [List.nil_append]; exact (Nat.zero_add _).symm
  | c :: A, B => by
    rw [List.cons_append, nlit_cons, nlit_cons, nlit_app A B]
    split <;> omega
theorem nlit_tl : ∀ (l : List Nat) (n : Nat), tl l n = true → nlit l = 0
  | [], _, _ => rfl
  | c :: l, 0, h => by cases h
  | c :: l, n + 1, h => by
    have h : (tcode c && tl l (n + ar c)) = true := h
    rw [Bool.and_eq_true] at h
    rw [nlit_cons, if_pos (tcode_100 h.1), nlit_tl l _ h.2]
theorem tl_app : ∀ (A : List Nat) (a b : Nat) (B : List Nat), tl A a = true → tl B b = true → tl (A ++ B) (a + b) = true
  | [], a, b, B, h, hB => by
    have : a = 0 := Nat.eq_of_beq_eq_true h
    subst this
    rw [Nat.zero_add]
    exact hB
  | c :: A, 0, b, B, h, hB => by cases h
  | c :: A, a + 1, b, B, h, hB => by
    have h : (tcode c && tl A (a + ar c)) = true := h
    rw [Bool.and_eq_true] at h
    rw [show a + 1 + b = (a + b) + 1 by omega]
    show (tcode c && tl (A ++ B) (a + b + ar c)) = true
    rw [h.1, show a + b + ar c = a + ar c + b by omega, tl_app A _ b B h.2 hB]
    rfl
