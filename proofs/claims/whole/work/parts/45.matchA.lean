/-! ===== matching: what it is ===== -/
abbrev Bd : Type := Nat → Option Nat
def ub (b : Bd) (v q : Nat) : Bd := fun u => if u = v then some q else b u
theorem ub_v (b : Bd) (v q : Nat) : ub b v q v = some q := if_pos rfl
theorem ub_o (b : Bd) {v u : Nat} (q : Nat) (h : u ≠ v) : ub b v q u = b u := if_neg h
/-- the term at t is that at q -/
def st (B : List Nat) (t q : Nat) : Bool := decide (t + (endp B q - q) ≤ B.length) && al (sm B t q) (endp B q - q) 0
/-- a variable's code stands for one of the variables already -/
def tk (B : List Nat) (b : Bd) (c : Nat) : Bool := ex (fun v => match b v with
  | some t => Nat.beq (cd B t) c
  | none => false) 6 0
def mt (rn : Bool) (B : List Nat) : List Nat → Nat → Bd → Option Bd
  | [], _, b => some b
  | c :: l, q, b => if iv c = true then (match b (c - 20) with
      | some t => if st B t q = true then mt rn B l (endp B q) b else none
      | none => if (rn && (!(iv (cd B q)) || tk B b (cd B q))) = true then none else mt rn B l (endp B q) (ub b (c - 20) q))
    else if cd B q = c then mt rn B l (q + 1) b else none
/-- n whole terms and nothing else -/
def tl : List Nat → Nat → Bool
  | [], n => Nat.beq n 0
  | _ :: _, 0 => false
  | c :: l, n + 1 => tcode c && tl l (n + ar c)
theorem tlen_add : ∀ (L : List Nat) (a n : Nat), tlen L (a + n) = tlen L a + tlen (L.drop (tlen L a)) n
  | L, 0, n => by rw [tlen_0, Nat.zero_add, Nat.zero_add]; rfl
  | [], a + 1, n => by
    rw [show a + 1 + n = (a + n) + 1 by omega]
    show 0 = 0 + tlen (List.drop _ []) n
    rw [List.drop_nil]
    cases n <;> rfl
  | c :: L, a + 1, n => by
    rw [show a + 1 + n = (a + n) + 1 by omega]
    show tlen L (a + n + ar c) + 1 = tlen L (a + ar c) + 1 + tlen (L.drop (tlen L (a + ar c))) n
    rw [show a + n + ar c = a + ar c + n by omega, tlen_add L (a + ar c) n]
    omega
theorem tok_add : ∀ (L : List Nat) (a n : Nat), tok L (a + n) = true → tok (L.drop (tlen L a)) n = true
  | L, 0, n, h => by rw [tlen_0]; rw [Nat.zero_add] at h; exact h
  | [], a + 1, n, h => by
    have : a + 1 + n = 0 := Nat.eq_of_beq_eq_true h
    omega
  | c :: L, a + 1, n, h => by
    rw [show a + 1 + n = (a + n) + 1 by omega] at h
    have h : tok L (a + n + ar c) = true := h
    show tok (L.drop (tlen L (a + ar c))) n = true
    rw [show a + n + ar c = a + ar c + n by omega] at h
    exact tok_add L (a + ar c) n h
theorem wf_add : ∀ (L : List Nat) (a n : Nat), wf L (a + n) = true → wf (L.drop (tlen L a)) n = true
  | L, 0, n, h => by rw [tlen_0]; rw [Nat.zero_add] at h; exact h
  | [], a + 1, n, h => by
    have : a + 1 + n = 0 := Nat.eq_of_beq_eq_true h
    omega
  | c :: L, a + 1, n, h => by
    rw [show a + 1 + n = (a + n) + 1 by omega] at h
    have h : (tcode c && wf L (a + n + ar c)) = true := h
    rw [Bool.and_eq_true] at h
    show wf (L.drop (tlen L (a + ar c))) n = true
    have h2 := h.2
    rw [show a + n + ar c = a + ar c + n by omega] at h2
    exact wf_add L (a + ar c) n h2
/-- literals are read side by side -/
def LK (B l : List Nat) (n q e : Nat) : Prop := tl l n = true ∧ wf (B.drop q) n = true ∧ q + tlen (B.drop q) n = e ∧ e ≤ B.length
theorem LK.nil {B : List Nat} {n q e : Nat} (k : LK B [] n q e) : n = 0 ∧ q = e := by
  have : n = 0 := Nat.eq_of_beq_eq_true k.1
  subst this
  have := k.2.2.1
  rw [tlen_0] at this
  exact ⟨rfl, by omega⟩
theorem LK.lt {B l : List Nat} {c n q e : Nat} (k : LK B (c :: l) n q e) : q < e ∧ q < B.length ∧ cd B q < 26 ∧ tcode c = true ∧ ∃ m, n = m + 1 ∧ tl l (m + ar c) = true := by
  obtain ⟨k1, k2, k3, k4⟩ := k
  cases n with
  | zero => cases k1
  | succ m =>
    have k1 : (tcode c && tl l (m + ar c)) = true := k1
    rw [Bool.and_eq_true] at k1
    cases hd : B.drop q with
    | nil =>
      rw [hd] at k2
      have : m + 1 = 0 := Nat.eq_of_beq_eq_true k2
      omega
    | cons x r =>
      obtain ⟨a1, a2, a3⟩ := drop_cons hd
      rw [hd] at k2 k3
      have : tlen (x :: r) (m + 1) = tlen r (m + ar x) + 1 := rfl
      have k2 : (tcode x && wf r (m + ar x)) = true := k2
      rw [Bool.and_eq_true] at k2
      have := tcode_lt k2.1
      exact ⟨by omega, a1, by omega, k1.1, m, rfl, k1.2⟩
theorem LK.var {B l : List Nat} {c n q e : Nat} (k : LK B (c :: l) n q e) (hv : iv c = true) : ∃ m, LK B l m (endp B q) e := by
  obtain ⟨a1, a2, -, a3, m, rfl, a4⟩ := k.lt
  obtain ⟨k1, k2, k3, k4⟩ := k
  have ha : ar c = 0 := by
    rw [iv_t] at hv
    unfold ar
    rw [if_pos (by omega), if_neg (by omega), if_neg (by omega), if_neg (by omega)]
  rw [ha, Nat.add_zero] at a4
  refine ⟨m, a4, ?_, ?_, k4⟩
  · unfold endp
    rw [← List.drop_drop]
    rw [Nat.add_comm m 1] at k2
    exact wf_add _ 1 m k2
  · unfold endp
    rw [Nat.add_comm m 1, tlen_add] at k3
    rw [← List.drop_drop]
    omega
theorem LK.sym {B l : List Nat} {c n q e : Nat} (k : LK B (c :: l) n q e) (hc : cd B q = c) : ∃ m, LK B l m (q + 1) e := by
  obtain ⟨a1, a2, -, a3, m, rfl, a4⟩ := k.lt
  obtain ⟨k1, k2, k3, k4⟩ := k
  rw [drop_at a2, hc] at k2 k3
  have k2 : (tcode c && wf (B.drop (q + 1)) (m + ar c)) = true := k2
  rw [Bool.and_eq_true] at k2
  refine ⟨m + ar c, a4, k2.2, ?_, k4⟩
  have : tlen (c :: B.drop (q + 1)) (m + 1) = tlen (B.drop (q + 1)) (m + ar c) + 1 := rfl
  omega
theorem tl_take : ∀ (l : List Nat) (n : Nat), wf l n = true → tl (l.take (tlen l n)) n = true
  | [], 0, _ => rfl
  | [], _ + 1, h => by cases h
  | c :: l, 0, h => rfl
  | c :: l, n + 1, h => by
    have h : (tcode c && wf l (n + ar c)) = true := h
    rw [Bool.and_eq_true] at h
    show (tcode c && tl (l.take (tlen l (n + ar c))) (n + ar c)) = true
    rw [h.1, tl_take l _ h.2]
    rfl
/-- a literal: its codes -/
def ltr (cs : List Nat) (i : Nat) : List Nat := (cs.drop (beg cs i)).take (beg cs (i + 1) - beg cs i)
theorem WF.litc {cs : List Nat} (w : WF cs) {i : Nat} (hi : i < nlit cs) : ∃ c l, ltr cs i = c :: l ∧ c = cd cs (beg cs i) ∧ tl l (ar c) = true ∧ l = (cs.drop (beg cs i + 1)).take (beg cs (i + 1) - beg cs i - 1) := by
  obtain ⟨c, r, h1, h2, h3, h4, h5⟩ := beg_at cs 0 i w.1 hi
  obtain ⟨a1, a2, a3⟩ := drop_cons h1
  refine ⟨c, r.take (tlen r (ar c)), ?_, a2.symm, tl_take r _ h4, ?_⟩
  · unfold ltr
    rw [h1, h5, show beg cs i + 1 + tlen r (ar c) - beg cs i = tlen r (ar c) + 1 by omega]
    rfl
  · rw [a3, h5]
    congr 1
    omega
/-- where literal j of B is entered behind a head like that -/
theorem WF.lk0 {B : List Nat} (w : WF B) {j : Nat} (hj : j < nlit B) {l : List Nat} (hl : tl l (ar (cd B (beg B j))) = true) : LK B l (ar (cd B (beg B j))) (beg B j + 1) (beg B (j + 1)) := by
  obtain ⟨c, r, h1, h2, h3, h4, h5⟩ := beg_at B 0 j w.1 hj
  obtain ⟨a1, a2, a3⟩ := drop_cons h1
  rw [a2] at hl ⊢
  exact ⟨hl, by rw [a3]; exact h4, by rw [a3]; omega, beg_le _ _⟩
/-! ===== the class's Matcher ===== -/
/-- what the Matcher at 9 holds as put -/
def TB (rn : Bool) (B : List Nat) (h : mh) (b : Bd) : Prop := mI h 9 5 = bs (fun v => (b v).isSome) 6 ∧ (∀ v t, v < 6 → b v = some t → mI h 11 v = nI t ∧ t < B.length ∧ cd B t < 100) ∧ (rn = true → mI h 9 6 = bs (fun n => tk B b (20 + n)) 6) ∧ (rn = true → ∀ v t, v < 6 → b v = some t → iv (cd B t) = true)
theorem TB.put {rn : Bool} {B : List Nat} {h : mh} {b : Bd} (t : TB rn B h b) {v : Nat} (hv : v < 6) : bt (mI h 9 5) v = (b v).isSome := by
  rw [t.1, bt_bs _ 6 v (by decide) (by omega)]
  simp [hv]
theorem s_Ma_isPut {h : mh} (hL : Lay h) {rn : Bool} {B : List Nat} {b : Bd} (t : TB rn B h b) (d : Nat) {v : Nat} (hv : v < 6) : Ma_isPut (d + 1) 9 (nI v) h = some (some (vi (zb (b v).isSome)), h) := by
  rw [e_Ma_isPut]
  have e := bt_test (x := mI h 9 5) (k := v) (by omega)
  rw [t.put hv] at e
  cases hb : (b v).isSome
  · rw [hb] at e
    repeat (first | with_reducible refine hE ?_ | with_reducible refine hLi ?_ | (with_reducible apply hT; · (first | omega | (simp (disch := omega) only [lk_9 hL, e, qadd, qmul, qcl, qle, qlt, qeq, qlt0, q0le, qeq0, qle0, q0lt, true_or, or_true, false_or, or_false, true_and, and_true, false_and, and_false, eq_self, not_true_eq_false, not_false_eq_true, qz0, qz1, q00, q01, q10, q11, zb_z, zb_0, zb_1, zor, Bool.true_eq_false, Bool.false_eq_true, Bool.and_true, Bool.and_false, Bool.true_and, Bool.false_and, Bool.or_true, Bool.or_false, Bool.true_or, Bool.false_or, decide_eq_true_eq, decide_eq_false_iff_not, reduceCtorEq]; done) | (simp (disch := omega) only [lk_9 hL, e, qadd, qmul, qcl, qle, qlt, qeq, qlt0, q0le, qeq0, qle0, q0lt, true_or, or_true, false_or, or_false, true_and, and_true, false_and, and_false, eq_self, not_true_eq_false, not_false_eq_true, qz0, qz1, q00, q01, q10, q11, zb_z, zb_0, zb_1, zor, Bool.true_eq_false, Bool.false_eq_true, Bool.and_true, Bool.and_false, Bool.true_and, Bool.false_and, Bool.or_true, Bool.or_false, Bool.true_or, Bool.false_or, decide_eq_true_eq, decide_eq_false_iff_not, reduceCtorEq]; omega))) | (with_reducible apply hF; · (first | omega | (simp (disch := omega) only [lk_9 hL, e, qadd, qmul, qcl, qle, qlt, qeq, qlt0, q0le, qeq0, qle0, q0lt, true_or, or_true, false_or, or_false, true_and, and_true, false_and, and_false, eq_self, not_true_eq_false, not_false_eq_true, qz0, qz1, q00, q01, q10, q11, zb_z, zb_0, zb_1, zor, Bool.true_eq_false, Bool.false_eq_true, Bool.and_true, Bool.and_false, Bool.true_and, Bool.false_and, Bool.or_true, Bool.or_false, Bool.true_or, Bool.false_or, decide_eq_true_eq, decide_eq_false_iff_not, reduceCtorEq]; done) | (simp (disch := omega) only [lk_9 hL, e, qadd, qmul, qcl, qle, qlt, qeq, qlt0, q0le, qeq0, qle0, q0lt, true_or, or_true, false_or, or_false, true_and, and_true, false_and, and_false, eq_self, not_true_eq_false, not_false_eq_true, qz0, qz1, q00, q01, q10, q11, zb_z, zb_0, zb_1, zor, Bool.true_eq_false, Bool.false_eq_true, Bool.and_true, Bool.and_false, Bool.true_and, Bool.false_and, Bool.or_true, Bool.or_false, Bool.true_or, Bool.false_or, decide_eq_true_eq, decide_eq_false_iff_not, reduceCtorEq]; omega))))
    rfl
  · rw [hb] at e
    repeat (first | with_reducible refine hE ?_ | with_reducible refine hLi ?_ | (with_reducible apply hT; · (first | omega | (simp (disch := omega) only [lk_9 hL, e, qadd, qmul, qcl, qle, qlt, qeq, qlt0, q0le, qeq0, qle0, q0lt, true_or, or_true, false_or, or_false, true_and, and_true, false_and, and_false, eq_self, not_true_eq_false, not_false_eq_true, qz0, qz1, q00, q01, q10, q11, zb_z, zb_0, zb_1, zor, Bool.true_eq_false, Bool.false_eq_true, Bool.and_true, Bool.and_false, Bool.true_and, Bool.false_and, Bool.or_true, Bool.or_false, Bool.true_or, Bool.false_or, decide_eq_true_eq, decide_eq_false_iff_not, reduceCtorEq]; done) | (simp (disch := omega) only [lk_9 hL, e, qadd, qmul, qcl, qle, qlt, qeq, qlt0, q0le, qeq0, qle0, q0lt, true_or, or_true, false_or, or_false, true_and, and_true, false_and, and_false, eq_self, not_true_eq_false, not_false_eq_true, qz0, qz1, q00, q01, q10, q11, zb_z, zb_0, zb_1, zor, Bool.true_eq_false, Bool.false_eq_true, Bool.and_true, Bool.and_false, Bool.true_and, Bool.false_and, Bool.or_true, Bool.or_false, Bool.true_or, Bool.false_or, decide_eq_true_eq, decide_eq_false_iff_not, reduceCtorEq]; omega))) | (with_reducible apply hF; · (first | omega | (simp (disch := omega) only [lk_9 hL, e, qadd, qmul, qcl, qle, qlt, qeq, qlt0, q0le, qeq0, qle0, q0lt, true_or, or_true, false_or, or_false, true_and, and_true, false_and, and_false, eq_self, not_true_eq_false, not_false_eq_true, qz0, qz1, q00, q01, q10, q11, zb_z, zb_0, zb_1, zor, Bool.true_eq_false, Bool.false_eq_true, Bool.and_true, Bool.and_false, Bool.true_and, Bool.false_and, Bool.or_true, Bool.or_false, Bool.true_or, Bool.false_or, decide_eq_true_eq, decide_eq_false_iff_not, reduceCtorEq]; done) | (simp (disch := omega) only [lk_9 hL, e, qadd, qmul, qcl, qle, qlt, qeq, qlt0, q0le, qeq0, qle0, q0lt, true_or, or_true, false_or, or_false, true_and, and_true, false_and, and_false, eq_self, not_true_eq_false, not_false_eq_true, qz0, qz1, q00, q01, q10, q11, zb_z, zb_0, zb_1, zor, Bool.true_eq_false, Bool.false_eq_true, Bool.and_true, Bool.and_false, Bool.true_and, Bool.false_and, Bool.or_true, Bool.or_false, Bool.true_or, Bool.false_or, decide_eq_true_eq, decide_eq_false_iff_not, reduceCtorEq]; omega))))
    rfl
theorem bs_upd (b : Bd) {v : Nat} (q : Nat) (hv : v < 6) : bs (fun u => (b u).isSome) 6 ||| (nI 1 <<< (nI v &&& 31)) = bs (fun u => (ub b v q u).isSome) 6 := by
  apply b_ext
  intro i hi
  rw [b_or, bt_bs _ 6 i (by decide) hi, bt_bs _ 6 i (by decide) hi, bt_one (by omega) hi]
  by_cases h1 : i = v
  · subst h1
    rw [ub_v]
    simp [hv]
  · rw [ub_o b q h1]
    simp [h1]
theorem tk_t {B : List Nat} {b : Bd} {c : Nat} : tk B b c = true ↔ ∃ v t, v < 6 ∧ b v = some t ∧ cd B t = c := by
  unfold tk
  rw [ex_t]
  constructor
  · rintro ⟨v, -, h2, h3⟩
    cases hb : b v with
    | none => rw [hb] at h3; cases h3
    | some t =>
      rw [hb] at h3
      exact ⟨v, t, by omega, hb, Nat.eq_of_beq_eq_true h3⟩
  · rintro ⟨v, t, h1, h2, h3⟩
    refine ⟨v, by omega, by omega, ?_⟩
    rw [h2]
    show Nat.beq _ _ = true
    rw [beq_t]
    exact h3
theorem bool_eq {a b : Bool} (h : a = true ↔ b = true) : a = b := by
  cases a <;> cases b <;> simp at h ⊢
theorem tk_upd {B : List Nat} {b : Bd} {v q n : Nat} (hv : v < 6) (hb : b v = none) : tk B (ub b v q) n = (tk B b n || Nat.beq (cd B q) n) := by
  apply bool_eq
  rw [tk_t, Bool.or_eq_true, tk_t, beq_t]
  constructor
  · rintro ⟨u, t, h1, h2, h3⟩
    by_cases hu : u = v
    · subst hu
      rw [ub_v] at h2
      injection h2 with h2
      subst h2
      exact Or.inr h3
    · rw [ub_o b q hu] at h2
      exact Or.inl ⟨u, t, h1, h2, h3⟩
  · rintro (⟨u, t, h1, h2, h3⟩ | h3)
    · refine ⟨u, t, h1, ?_, h3⟩
      rw [ub_o b q]
      · exact h2
      · rintro rfl
        rw [hb] at h2
        cases h2
    · exact ⟨v, q, hv, ub_v b v q, h3⟩
theorem bs_tk {B : List Nat} {b : Bd} {v q : Nat} (hv : v < 6) (hb : b v = none) (hq : iv (cd B q) = true) : bs (fun n => tk B b (20 + n)) 6 ||| (nI 1 <<< (nI (cd B q - 20) &&& 31)) = bs (fun n => tk B (ub b v q) (20 + n)) 6 := by
  rw [iv_t] at hq
  apply b_ext
  intro i hi
  rw [b_or, bt_bs _ 6 i (by decide) hi, bt_bs _ 6 i (by decide) hi, bt_one (by omega) hi, tk_upd hv hb]
  by_cases h1 : i = cd B q - 20
  · subst h1
    rw [beq_t.mpr (show cd B q = 20 + (cd B q - 20) by omega)]
    simp
    omega
  · rw [beq_f.mpr (show ¬ cd B q = 20 + i by omega)]
    simp [h1]
/-- what binding writes -/
def Wb (a k : Nat) : Prop := a = 11 ∨ (a = 9 ∧ (k = 5 ∨ k = 6))
theorem q_neg {c : Nat} (hc : c < 20) : (nI c - nI 20 < 0) = True := (by decide +kernel : ∀ c, c < 20 → (nI c - nI 20 < 0) = True) c hc
/-- binding: the answer, and what is put then -/
theorem s_Ma_binds {h : mh} (hL : Lay h) {rn : Bool} (hrn : mI h 9 8 = zb rn) {a : Nat} {B : List Nat} (w : WF B) (cw : CW h a B) {b : Bd} (t : TB rn B h b) (d : Nat) {v q : Nat} (hv : v < 6) (hq : q < B.length) (hc : cd B q < 100) :
    (∃ u, b v = some u ∧ Ma_binds (d + 2) 9 a (nI v) (nI q) (nI (endp B q)) h = some (some (vi (zb (st B u q))), h)) ∨
    (b v = none ∧ (rn && (!(iv (cd B q)) || tk B b (cd B q))) = true ∧ Ma_binds (d + 2) 9 a (nI v) (nI q) (nI (endp B q)) h = some (some (vi (nI 0)), h)) ∨
    (b v = none ∧ (rn && (!(iv (cd B q)) || tk B b (cd B q))) = false ∧ ∃ h', Ma_binds (d + 2) 9 a (nI v) (nI q) (nI (endp B q)) h = some (some (vi (nI 1)), h') ∧ Fi Wb h h' ∧ (∀ u, u ≠ v → mI h' 11 u = mI h 11 u) ∧ TB rn B h' (ub b v q)) := by
  have l := w.2.1
  have g1 := endp_gt hq
  have g2 := endp_le hq
  have ip := s_Ma_isPut hL t (d := d) hv
  have lt := w.lt q
  cases hb : b v with
  | some u =>
    left
    refine ⟨u, rfl, ?_⟩
    obtain ⟨t1, t2, -⟩ := t.2.1 v u hv hb
    rw [hb] at ip
    have es := cw.same w d (p := u) (q := q) (n := endp B q - q) (by omega) (by omega)
    rw [e_Ma_binds]
    repeat (first | with_reducible refine hE ?_ | with_reducible refine hLi ?_ | (with_reducible apply hI; · (first | exact ip | exact es | (simp (disch := omega) only [lk_9 hL, lp_9_1 hL, lk_11 hL, ln_11 hL, Option.isSome, cw.k, qsub, t1, qadd, qmul, qcl, qle, qlt, qeq, qlt0, q0le, qeq0, qle0, q0lt, true_or, or_true, false_or, or_false, true_and, and_true, false_and, and_false, eq_self, not_true_eq_false, not_false_eq_true, qz0, qz1, q00, q01, q10, q11, zb_z, zb_0, zb_1, zor, Bool.true_eq_false, Bool.false_eq_true, Bool.and_true, Bool.and_false, Bool.true_and, Bool.false_and, Bool.or_true, Bool.or_false, Bool.true_or, Bool.false_or, decide_eq_true_eq, decide_eq_false_iff_not, reduceCtorEq]; first | exact ip | exact es))) | (with_reducible apply hP; · (first | exact ip | exact es | (simp (disch := omega) only [lk_9 hL, lp_9_1 hL, lk_11 hL, ln_11 hL, Option.isSome, cw.k, qsub, t1, qadd, qmul, qcl, qle, qlt, qeq, qlt0, q0le, qeq0, qle0, q0lt, true_or, or_true, false_or, or_false, true_and, and_true, false_and, and_false, eq_self, not_true_eq_false, not_false_eq_true, qz0, qz1, q00, q01, q10, q11, zb_z, zb_0, zb_1, zor, Bool.true_eq_false, Bool.false_eq_true, Bool.and_true, Bool.and_false, Bool.true_and, Bool.false_and, Bool.or_true, Bool.or_false, Bool.true_or, Bool.false_or, decide_eq_true_eq, decide_eq_false_iff_not, reduceCtorEq]; first | exact ip | exact es))) | (with_reducible apply hV; · (first | exact ip | exact es | (simp (disch := omega) only [lk_9 hL, lp_9_1 hL, lk_11 hL, ln_11 hL, Option.isSome, cw.k, qsub, t1, qadd, qmul, qcl, qle, qlt, qeq, qlt0, q0le, qeq0, qle0, q0lt, true_or, or_true, false_or, or_false, true_and, and_true, false_and, and_false, eq_self, not_true_eq_false, not_false_eq_true, qz0, qz1, q00, q01, q10, q11, zb_z, zb_0, zb_1, zor, Bool.true_eq_false, Bool.false_eq_true, Bool.and_true, Bool.and_false, Bool.true_and, Bool.false_and, Bool.or_true, Bool.or_false, Bool.true_or, Bool.false_or, decide_eq_true_eq, decide_eq_false_iff_not, reduceCtorEq]; first | exact ip | exact es))) | (with_reducible apply hT; · (first | omega | (simp (disch := omega) only [lk_9 hL, lp_9_1 hL, lk_11 hL, ln_11 hL, Option.isSome, cw.k, qsub, t1, qadd, qmul, qcl, qle, qlt, qeq, qlt0, q0le, qeq0, qle0, q0lt, true_or, or_true, false_or, or_false, true_and, and_true, false_and, and_false, eq_self, not_true_eq_false, not_false_eq_true, qz0, qz1, q00, q01, q10, q11, zb_z, zb_0, zb_1, zor, Bool.true_eq_false, Bool.false_eq_true, Bool.and_true, Bool.and_false, Bool.true_and, Bool.false_and, Bool.or_true, Bool.or_false, Bool.true_or, Bool.false_or, decide_eq_true_eq, decide_eq_false_iff_not, reduceCtorEq]; done) | (simp (disch := omega) only [lk_9 hL, lp_9_1 hL, lk_11 hL, ln_11 hL, Option.isSome, cw.k, qsub, t1, qadd, qmul, qcl, qle, qlt, qeq, qlt0, q0le, qeq0, qle0, q0lt, true_or, or_true, false_or, or_false, true_and, and_true, false_and, and_false, eq_self, not_true_eq_false, not_false_eq_true, qz0, qz1, q00, q01, q10, q11, zb_z, zb_0, zb_1, zor, Bool.true_eq_false, Bool.false_eq_true, Bool.and_true, Bool.and_false, Bool.true_and, Bool.false_and, Bool.or_true, Bool.or_false, Bool.true_or, Bool.false_or, decide_eq_true_eq, decide_eq_false_iff_not, reduceCtorEq]; omega))) | (with_reducible apply hF; · (first | omega | (simp (disch := omega) only [lk_9 hL, lp_9_1 hL, lk_11 hL, ln_11 hL, Option.isSome, cw.k, qsub, t1, qadd, qmul, qcl, qle, qlt, qeq, qlt0, q0le, qeq0, qle0, q0lt, true_or, or_true, false_or, or_false, true_and, and_true, false_and, and_false, eq_self, not_true_eq_false, not_false_eq_true, qz0, qz1, q00, q01, q10, q11, zb_z, zb_0, zb_1, zor, Bool.true_eq_false, Bool.false_eq_true, Bool.and_true, Bool.and_false, Bool.true_and, Bool.false_and, Bool.or_true, Bool.or_false, Bool.true_or, Bool.false_or, decide_eq_true_eq, decide_eq_false_iff_not, reduceCtorEq]; done) | (simp (disch := omega) only [lk_9 hL, lp_9_1 hL, lk_11 hL, ln_11 hL, Option.isSome, cw.k, qsub, t1, qadd, qmul, qcl, qle, qlt, qeq, qlt0, q0le, qeq0, qle0, q0lt, true_or, or_true, false_or, or_false, true_and, and_true, false_and, and_false, eq_self, not_true_eq_false, not_false_eq_true, qz0, qz1, q00, q01, q10, q11, zb_z, zb_0, zb_1, zor, Bool.true_eq_false, Bool.false_eq_true, Bool.and_true, Bool.and_false, Bool.true_and, Bool.false_and, Bool.or_true, Bool.or_false, Bool.true_or, Bool.false_or, decide_eq_true_eq, decide_eq_false_iff_not, reduceCtorEq]; omega))))
    rfl
  | none =>
    right
    rw [hb] at ip
    by_cases hr : rn = true
    · subst hr
      have tk6 := t.2.2.1 rfl
      by_cases hn : iv (cd B q) = true
      · have hn' := hn
        rw [iv_t] at hn'
        have et := bt_test (x := mI h 9 6) (k := cd B q - 20) (by omega)
        rw [tk6, bt_bs _ 6 _ (by decide) (by omega), decide_eq_true (show cd B q - 20 < 6 by omega), Bool.true_and, show 20 + (cd B q - 20) = cd B q by omega] at et
        cases ht : tk B b (cd B q)
        · right
          rw [ht] at et
          refine ⟨rfl, by rw [hn]; rfl, ?_⟩
          refine ⟨msi (msi (msi h 11 v (nI q)) 9 5 (bs (fun u => (ub b v q u).isSome) 6)) 9 6 (bs (fun n => tk B (ub b v q) (20 + n)) 6), ?_, ?_, ?_, ?_⟩
          · rw [e_Ma_binds]
            have e5 : mI (msi h 11 v (nI q)) 9 5 = bs (fun v => (b v).isSome) 6 := by rw [mI_si, if_neg (by omega), t.1]
            have e6 : mI (msi (msi h 11 v (nI q)) 9 5 (bs (fun u => (ub b v q u).isSome) 6)) 9 6 = bs (fun n => tk B b (20 + n)) 6 := by rw [mI_si, if_neg (by omega), mI_si, if_neg (by omega), tk6]
            have e8 : mI (msi (msi h 11 v (nI q)) 9 5 (bs (fun u => (ub b v q u).isSome) 6)) 9 8 = nI 1 := by rw [mI_si, if_neg (by omega), mI_si, if_neg (by omega), hrn]; rfl
            have hrn' : mI h 9 8 = nI 1 := hrn
            repeat (first | with_reducible refine hE ?_ | with_reducible refine hLi ?_ | (with_reducible apply hI; · (first | exact ip | exact cw.code w _ hq | (simp (disch := omega) only [lk_9 hL, lp_9_1 hL, lk_11 hL, ln_11 hL, Option.isSome, cw.k, qsub, hrn', tk6, et, mK_si, mN_si, mP_si, mT_si, mU_si, mK_sp, mN_sp, mI_sp, mT_sp, mU_sp, qadd, qmul, qcl, qle, qlt, qeq, qlt0, q0le, qeq0, qle0, q0lt, true_or, or_true, false_or, or_false, true_and, and_true, false_and, and_false, eq_self, not_true_eq_false, not_false_eq_true, qz0, qz1, q00, q01, q10, q11, zb_z, zb_0, zb_1, zor, Bool.true_eq_false, Bool.false_eq_true, Bool.and_true, Bool.and_false, Bool.true_and, Bool.false_and, Bool.or_true, Bool.or_false, Bool.true_or, Bool.false_or, decide_eq_true_eq, decide_eq_false_iff_not, reduceCtorEq]; first | exact ip | exact cw.code w _ hq))) | (with_reducible apply hP; · (first | exact ip | exact cw.code w _ hq | (simp (disch := omega) only [lk_9 hL, lp_9_1 hL, lk_11 hL, ln_11 hL, Option.isSome, cw.k, qsub, hrn', tk6, et, mK_si, mN_si, mP_si, mT_si, mU_si, mK_sp, mN_sp, mI_sp, mT_sp, mU_sp, qadd, qmul, qcl, qle, qlt, qeq, qlt0, q0le, qeq0, qle0, q0lt, true_or, or_true, false_or, or_false, true_and, and_true, false_and, and_false, eq_self, not_true_eq_false, not_false_eq_true, qz0, qz1, q00, q01, q10, q11, zb_z, zb_0, zb_1, zor, Bool.true_eq_false, Bool.false_eq_true, Bool.and_true, Bool.and_false, Bool.true_and, Bool.false_and, Bool.or_true, Bool.or_false, Bool.true_or, Bool.false_or, decide_eq_true_eq, decide_eq_false_iff_not, reduceCtorEq]; first | exact ip | exact cw.code w _ hq))) | (with_reducible apply hV; · (first | exact ip | exact cw.code w _ hq | (simp (disch := omega) only [lk_9 hL, lp_9_1 hL, lk_11 hL, ln_11 hL, Option.isSome, cw.k, qsub, hrn', tk6, et, mK_si, mN_si, mP_si, mT_si, mU_si, mK_sp, mN_sp, mI_sp, mT_sp, mU_sp, qadd, qmul, qcl, qle, qlt, qeq, qlt0, q0le, qeq0, qle0, q0lt, true_or, or_true, false_or, or_false, true_and, and_true, false_and, and_false, eq_self, not_true_eq_false, not_false_eq_true, qz0, qz1, q00, q01, q10, q11, zb_z, zb_0, zb_1, zor, Bool.true_eq_false, Bool.false_eq_true, Bool.and_true, Bool.and_false, Bool.true_and, Bool.false_and, Bool.or_true, Bool.or_false, Bool.true_or, Bool.false_or, decide_eq_true_eq, decide_eq_false_iff_not, reduceCtorEq]; first | exact ip | exact cw.code w _ hq))) | (with_reducible apply hT; · (first | omega | (simp (disch := omega) only [lk_9 hL, lp_9_1 hL, lk_11 hL, ln_11 hL, Option.isSome, cw.k, qsub, hrn', tk6, et, mK_si, mN_si, mP_si, mT_si, mU_si, mK_sp, mN_sp, mI_sp, mT_sp, mU_sp, qadd, qmul, qcl, qle, qlt, qeq, qlt0, q0le, qeq0, qle0, q0lt, true_or, or_true, false_or, or_false, true_and, and_true, false_and, and_false, eq_self, not_true_eq_false, not_false_eq_true, qz0, qz1, q00, q01, q10, q11, zb_z, zb_0, zb_1, zor, Bool.true_eq_false, Bool.false_eq_true, Bool.and_true, Bool.and_false, Bool.true_and, Bool.false_and, Bool.or_true, Bool.or_false, Bool.true_or, Bool.false_or, decide_eq_true_eq, decide_eq_false_iff_not, reduceCtorEq]; done) | (simp (disch := omega) only [lk_9 hL, lp_9_1 hL, lk_11 hL, ln_11 hL, Option.isSome, cw.k, qsub, hrn', tk6, et, mK_si, mN_si, mP_si, mT_si, mU_si, mK_sp, mN_sp, mI_sp, mT_sp, mU_sp, qadd, qmul, qcl, qle, qlt, qeq, qlt0, q0le, qeq0, qle0, q0lt, true_or, or_true, false_or, or_false, true_and, and_true, false_and, and_false, eq_self, not_true_eq_false, not_false_eq_true, qz0, qz1, q00, q01, q10, q11, zb_z, zb_0, zb_1, zor, Bool.true_eq_false, Bool.false_eq_true, Bool.and_true, Bool.and_false, Bool.true_and, Bool.false_and, Bool.or_true, Bool.or_false, Bool.true_or, Bool.false_or, decide_eq_true_eq, decide_eq_false_iff_not, reduceCtorEq]; omega))) | (with_reducible apply hF; · (first | omega | (simp (disch := omega) only [lk_9 hL, lp_9_1 hL, lk_11 hL, ln_11 hL, Option.isSome, cw.k, qsub, hrn', tk6, et, mK_si, mN_si, mP_si, mT_si, mU_si, mK_sp, mN_sp, mI_sp, mT_sp, mU_sp, qadd, qmul, qcl, qle, qlt, qeq, qlt0, q0le, qeq0, qle0, q0lt, true_or, or_true, false_or, or_false, true_and, and_true, false_and, and_false, eq_self, not_true_eq_false, not_false_eq_true, qz0, qz1, q00, q01, q10, q11, zb_z, zb_0, zb_1, zor, Bool.true_eq_false, Bool.false_eq_true, Bool.and_true, Bool.and_false, Bool.true_and, Bool.false_and, Bool.or_true, Bool.or_false, Bool.true_or, Bool.false_or, decide_eq_true_eq, decide_eq_false_iff_not, reduceCtorEq]; done) | (simp (disch := omega) only [lk_9 hL, lp_9_1 hL, lk_11 hL, ln_11 hL, Option.isSome, cw.k, qsub, hrn', tk6, et, mK_si, mN_si, mP_si, mT_si, mU_si, mK_sp, mN_sp, mI_sp, mT_sp, mU_sp, qadd, qmul, qcl, qle, qlt, qeq, qlt0, q0le, qeq0, qle0, q0lt, true_or, or_true, false_or, or_false, true_and, and_true, false_and, and_false, eq_self, not_true_eq_false, not_false_eq_true, qz0, qz1, q00, q01, q10, q11, zb_z, zb_0, zb_1, zor, Bool.true_eq_false, Bool.false_eq_true, Bool.and_true, Bool.and_false, Bool.true_and, Bool.false_and, Bool.or_true, Bool.or_false, Bool.true_or, Bool.false_or, decide_eq_true_eq, decide_eq_false_iff_not, reduceCtorEq]; omega))))
            rw [lp_9_1 hL, qcl (by omega), e5, bs_upd b q hv]
            repeat (first | with_reducible refine hE ?_ | with_reducible refine hLi ?_ | (with_reducible apply hT; · (first | omega | (simp (disch := omega) only [lk_9 hL, lp_9_1 hL, lk_11 hL, ln_11 hL, e8, mK_si, mN_si, mP_si, mT_si, mU_si, mK_sp, mN_sp, mI_sp, mT_sp, mU_sp, qadd, qmul, qcl, qle, qlt, qeq, qlt0, q0le, qeq0, qle0, q0lt, true_or, or_true, false_or, or_false, true_and, and_true, false_and, and_false, eq_self, not_true_eq_false, not_false_eq_true, qz0, qz1, q00, q01, q10, q11, zb_z, zb_0, zb_1, zor, Bool.true_eq_false, Bool.false_eq_true, Bool.and_true, Bool.and_false, Bool.true_and, Bool.false_and, Bool.or_true, Bool.or_false, Bool.true_or, Bool.false_or, decide_eq_true_eq, decide_eq_false_iff_not, reduceCtorEq]; done) | (simp (disch := omega) only [lk_9 hL, lp_9_1 hL, lk_11 hL, ln_11 hL, e8, mK_si, mN_si, mP_si, mT_si, mU_si, mK_sp, mN_sp, mI_sp, mT_sp, mU_sp, qadd, qmul, qcl, qle, qlt, qeq, qlt0, q0le, qeq0, qle0, q0lt, true_or, or_true, false_or, or_false, true_and, and_true, false_and, and_false, eq_self, not_true_eq_false, not_false_eq_true, qz0, qz1, q00, q01, q10, q11, zb_z, zb_0, zb_1, zor, Bool.true_eq_false, Bool.false_eq_true, Bool.and_true, Bool.and_false, Bool.true_and, Bool.false_and, Bool.or_true, Bool.or_false, Bool.true_or, Bool.false_or, decide_eq_true_eq, decide_eq_false_iff_not, reduceCtorEq]; omega))) | (with_reducible apply hF; · (first | omega | (simp (disch := omega) only [lk_9 hL, lp_9_1 hL, lk_11 hL, ln_11 hL, e8, mK_si, mN_si, mP_si, mT_si, mU_si, mK_sp, mN_sp, mI_sp, mT_sp, mU_sp, qadd, qmul, qcl, qle, qlt, qeq, qlt0, q0le, qeq0, qle0, q0lt, true_or, or_true, false_or, or_false, true_and, and_true, false_and, and_false, eq_self, not_true_eq_false, not_false_eq_true, qz0, qz1, q00, q01, q10, q11, zb_z, zb_0, zb_1, zor, Bool.true_eq_false, Bool.false_eq_true, Bool.and_true, Bool.and_false, Bool.true_and, Bool.false_and, Bool.or_true, Bool.or_false, Bool.true_or, Bool.false_or, decide_eq_true_eq, decide_eq_false_iff_not, reduceCtorEq]; done) | (simp (disch := omega) only [lk_9 hL, lp_9_1 hL, lk_11 hL, ln_11 hL, e8, mK_si, mN_si, mP_si, mT_si, mU_si, mK_sp, mN_sp, mI_sp, mT_sp, mU_sp, qadd, qmul, qcl, qle, qlt, qeq, qlt0, q0le, qeq0, qle0, q0lt, true_or, or_true, false_or, or_false, true_and, and_true, false_and, and_false, eq_self, not_true_eq_false, not_false_eq_true, qz0, qz1, q00, q01, q10, q11, zb_z, zb_0, zb_1, zor, Bool.true_eq_false, Bool.false_eq_true, Bool.and_true, Bool.and_false, Bool.true_and, Bool.false_and, Bool.or_true, Bool.or_false, Bool.true_or, Bool.false_or, decide_eq_true_eq, decide_eq_false_iff_not, reduceCtorEq]; omega))))
            rw [e6, qsub (by omega), bs_tk hv hb hn]
          · exact ((Fi.si (Or.inl rfl)).tr (Fi.si (Or.inr ⟨rfl, Or.inl rfl⟩))).tr (Fi.si (Or.inr ⟨rfl, Or.inr rfl⟩))
          · intro u hu
            rw [mI_si, if_neg (by omega), mI_si, if_neg (by omega), mI_si, if_neg (by omega)]
          · refine ⟨by rw [mI_si, if_neg (by omega), mI_si, if_pos ⟨rfl, rfl⟩], fun u t' hu ht' => ?_, fun _ => by rw [mI_si, if_pos ⟨rfl, rfl⟩], fun _ u t' hu ht' => ?_⟩
            · rw [mI_si, if_neg (by omega), mI_si, if_neg (by omega), mI_si]
              by_cases hu' : u = v
              · subst hu'
                rw [ub_v] at ht'
                injection ht' with ht'
                subst ht'
                rw [if_pos ⟨rfl, rfl⟩]
                exact ⟨rfl, hq, hc⟩
              · rw [ub_o b q hu'] at ht'
                rw [if_neg (by omega)]
                exact t.2.1 u t' hu ht'
            · by_cases hu' : u = v
              · subst hu'
                rw [ub_v] at ht'
                injection ht' with ht'
                subst ht'
                exact hn
              · rw [ub_o b q hu'] at ht'
                exact t.2.2.2 rfl u t' hu ht'
        · left
          rw [ht] at et
          refine ⟨rfl, by rw [hn]; rfl, ?_⟩
          rw [e_Ma_binds]
          have hrn' : mI h 9 8 = nI 1 := hrn
          repeat (first | with_reducible refine hE ?_ | with_reducible refine hLi ?_ | (with_reducible apply hI; · (first | exact ip | exact cw.code w _ hq | (simp (disch := omega) only [lk_9 hL, lp_9_1 hL, lk_11 hL, ln_11 hL, Option.isSome, cw.k, qsub, hrn', tk6, et, mK_si, mN_si, mP_si, mT_si, mU_si, mK_sp, mN_sp, mI_sp, mT_sp, mU_sp, qadd, qmul, qcl, qle, qlt, qeq, qlt0, q0le, qeq0, qle0, q0lt, true_or, or_true, false_or, or_false, true_and, and_true, false_and, and_false, eq_self, not_true_eq_false, not_false_eq_true, qz0, qz1, q00, q01, q10, q11, zb_z, zb_0, zb_1, zor, Bool.true_eq_false, Bool.false_eq_true, Bool.and_true, Bool.and_false, Bool.true_and, Bool.false_and, Bool.or_true, Bool.or_false, Bool.true_or, Bool.false_or, decide_eq_true_eq, decide_eq_false_iff_not, reduceCtorEq]; first | exact ip | exact cw.code w _ hq))) | (with_reducible apply hP; · (first | exact ip | exact cw.code w _ hq | (simp (disch := omega) only [lk_9 hL, lp_9_1 hL, lk_11 hL, ln_11 hL, Option.isSome, cw.k, qsub, hrn', tk6, et, mK_si, mN_si, mP_si, mT_si, mU_si, mK_sp, mN_sp, mI_sp, mT_sp, mU_sp, qadd, qmul, qcl, qle, qlt, qeq, qlt0, q0le, qeq0, qle0, q0lt, true_or, or_true, false_or, or_false, true_and, and_true, false_and, and_false, eq_self, not_true_eq_false, not_false_eq_true, qz0, qz1, q00, q01, q10, q11, zb_z, zb_0, zb_1, zor, Bool.true_eq_false, Bool.false_eq_true, Bool.and_true, Bool.and_false, Bool.true_and, Bool.false_and, Bool.or_true, Bool.or_false, Bool.true_or, Bool.false_or, decide_eq_true_eq, decide_eq_false_iff_not, reduceCtorEq]; first | exact ip | exact cw.code w _ hq))) | (with_reducible apply hV; · (first | exact ip | exact cw.code w _ hq | (simp (disch := omega) only [lk_9 hL, lp_9_1 hL, lk_11 hL, ln_11 hL, Option.isSome, cw.k, qsub, hrn', tk6, et, mK_si, mN_si, mP_si, mT_si, mU_si, mK_sp, mN_sp, mI_sp, mT_sp, mU_sp, qadd, qmul, qcl, qle, qlt, qeq, qlt0, q0le, qeq0, qle0, q0lt, true_or, or_true, false_or, or_false, true_and, and_true, false_and, and_false, eq_self, not_true_eq_false, not_false_eq_true, qz0, qz1, q00, q01, q10, q11, zb_z, zb_0, zb_1, zor, Bool.true_eq_false, Bool.false_eq_true, Bool.and_true, Bool.and_false, Bool.true_and, Bool.false_and, Bool.or_true, Bool.or_false, Bool.true_or, Bool.false_or, decide_eq_true_eq, decide_eq_false_iff_not, reduceCtorEq]; first | exact ip | exact cw.code w _ hq))) | (with_reducible apply hT; · (first | omega | (simp (disch := omega) only [lk_9 hL, lp_9_1 hL, lk_11 hL, ln_11 hL, Option.isSome, cw.k, qsub, hrn', tk6, et, mK_si, mN_si, mP_si, mT_si, mU_si, mK_sp, mN_sp, mI_sp, mT_sp, mU_sp, qadd, qmul, qcl, qle, qlt, qeq, qlt0, q0le, qeq0, qle0, q0lt, true_or, or_true, false_or, or_false, true_and, and_true, false_and, and_false, eq_self, not_true_eq_false, not_false_eq_true, qz0, qz1, q00, q01, q10, q11, zb_z, zb_0, zb_1, zor, Bool.true_eq_false, Bool.false_eq_true, Bool.and_true, Bool.and_false, Bool.true_and, Bool.false_and, Bool.or_true, Bool.or_false, Bool.true_or, Bool.false_or, decide_eq_true_eq, decide_eq_false_iff_not, reduceCtorEq]; done) | (simp (disch := omega) only [lk_9 hL, lp_9_1 hL, lk_11 hL, ln_11 hL, Option.isSome, cw.k, qsub, hrn', tk6, et, mK_si, mN_si, mP_si, mT_si, mU_si, mK_sp, mN_sp, mI_sp, mT_sp, mU_sp, qadd, qmul, qcl, qle, qlt, qeq, qlt0, q0le, qeq0, qle0, q0lt, true_or, or_true, false_or, or_false, true_and, and_true, false_and, and_false, eq_self, not_true_eq_false, not_false_eq_true, qz0, qz1, q00, q01, q10, q11, zb_z, zb_0, zb_1, zor, Bool.true_eq_false, Bool.false_eq_true, Bool.and_true, Bool.and_false, Bool.true_and, Bool.false_and, Bool.or_true, Bool.or_false, Bool.true_or, Bool.false_or, decide_eq_true_eq, decide_eq_false_iff_not, reduceCtorEq]; omega))) | (with_reducible apply hF; · (first | omega | (simp (disch := omega) only [lk_9 hL, lp_9_1 hL, lk_11 hL, ln_11 hL, Option.isSome, cw.k, qsub, hrn', tk6, et, mK_si, mN_si, mP_si, mT_si, mU_si, mK_sp, mN_sp, mI_sp, mT_sp, mU_sp, qadd, qmul, qcl, qle, qlt, qeq, qlt0, q0le, qeq0, qle0, q0lt, true_or, or_true, false_or, or_false, true_and, and_true, false_and, and_false, eq_self, not_true_eq_false, not_false_eq_true, qz0, qz1, q00, q01, q10, q11, zb_z, zb_0, zb_1, zor, Bool.true_eq_false, Bool.false_eq_true, Bool.and_true, Bool.and_false, Bool.true_and, Bool.false_and, Bool.or_true, Bool.or_false, Bool.true_or, Bool.false_or, decide_eq_true_eq, decide_eq_false_iff_not, reduceCtorEq]; done) | (simp (disch := omega) only [lk_9 hL, lp_9_1 hL, lk_11 hL, ln_11 hL, Option.isSome, cw.k, qsub, hrn', tk6, et, mK_si, mN_si, mP_si, mT_si, mU_si, mK_sp, mN_sp, mI_sp, mT_sp, mU_sp, qadd, qmul, qcl, qle, qlt, qeq, qlt0, q0le, qeq0, qle0, q0lt, true_or, or_true, false_or, or_false, true_and, and_true, false_and, and_false, eq_self, not_true_eq_false, not_false_eq_true, qz0, qz1, q00, q01, q10, q11, zb_z, zb_0, zb_1, zor, Bool.true_eq_false, Bool.false_eq_true, Bool.and_true, Bool.and_false, Bool.true_and, Bool.false_and, Bool.or_true, Bool.or_false, Bool.true_or, Bool.false_or, decide_eq_true_eq, decide_eq_false_iff_not, reduceCtorEq]; omega))))
          rfl
      · left
        have hn2 : iv (cd B q) = false := by
          cases hz : iv (cd B q) with
          | false => rfl
          | true => exact absurd hz hn
        refine ⟨rfl, by rw [hn2]; rfl, ?_⟩
        rw [iv_t] at hn
        have hlow : cd B q < 20 := by
          rcases Nat.lt_or_ge (cd B q) 20 with z | z
          · exact z
          · exfalso
            obtain ⟨k, hk⟩ := wf_drop B 0 q w.1 (Nat.le_of_lt hq)
            rw [drop_at hq] at hk
            cases k with
            | zero =>
              have hk : ((Nat.ble 100 (cd B q) && Nat.ble (cd B q) 107) && wf (B.drop (q + 1)) (ar (cd B q))) = true := hk
              rw [Bool.and_eq_true, Bool.and_eq_true] at hk
              have := Nat.le_of_ble_eq_true hk.1.1
              omega
            | succ k =>
              have hk : (tcode (cd B q) && wf (B.drop (q + 1)) (k + ar (cd B q))) = true := hk
              rw [Bool.and_eq_true] at hk
              have := tcode_lt hk.1
              omega
        rw [e_Ma_binds]
        have hrn' : mI h 9 8 = nI 1 := hrn
        repeat (first | with_reducible refine hE ?_ | with_reducible refine hLi ?_ | (with_reducible apply hI; · (first | exact ip | exact cw.code w _ hq | (simp (disch := omega) only [lk_9 hL, lp_9_1 hL, lk_11 hL, ln_11 hL, Option.isSome, cw.k, hrn', q_neg, mK_si, mN_si, mP_si, mT_si, mU_si, mK_sp, mN_sp, mI_sp, mT_sp, mU_sp, qadd, qmul, qcl, qle, qlt, qeq, qlt0, q0le, qeq0, qle0, q0lt, true_or, or_true, false_or, or_false, true_and, and_true, false_and, and_false, eq_self, not_true_eq_false, not_false_eq_true, qz0, qz1, q00, q01, q10, q11, zb_z, zb_0, zb_1, zor, Bool.true_eq_false, Bool.false_eq_true, Bool.and_true, Bool.and_false, Bool.true_and, Bool.false_and, Bool.or_true, Bool.or_false, Bool.true_or, Bool.false_or, decide_eq_true_eq, decide_eq_false_iff_not, reduceCtorEq]; first | exact ip | exact cw.code w _ hq))) | (with_reducible apply hP; · (first | exact ip | exact cw.code w _ hq | (simp (disch := omega) only [lk_9 hL, lp_9_1 hL, lk_11 hL, ln_11 hL, Option.isSome, cw.k, hrn', q_neg, mK_si, mN_si, mP_si, mT_si, mU_si, mK_sp, mN_sp, mI_sp, mT_sp, mU_sp, qadd, qmul, qcl, qle, qlt, qeq, qlt0, q0le, qeq0, qle0, q0lt, true_or, or_true, false_or, or_false, true_and, and_true, false_and, and_false, eq_self, not_true_eq_false, not_false_eq_true, qz0, qz1, q00, q01, q10, q11, zb_z, zb_0, zb_1, zor, Bool.true_eq_false, Bool.false_eq_true, Bool.and_true, Bool.and_false, Bool.true_and, Bool.false_and, Bool.or_true, Bool.or_false, Bool.true_or, Bool.false_or, decide_eq_true_eq, decide_eq_false_iff_not, reduceCtorEq]; first | exact ip | exact cw.code w _ hq))) | (with_reducible apply hV; · (first | exact ip | exact cw.code w _ hq | (simp (disch := omega) only [lk_9 hL, lp_9_1 hL, lk_11 hL, ln_11 hL, Option.isSome, cw.k, hrn', q_neg, mK_si, mN_si, mP_si, mT_si, mU_si, mK_sp, mN_sp, mI_sp, mT_sp, mU_sp, qadd, qmul, qcl, qle, qlt, qeq, qlt0, q0le, qeq0, qle0, q0lt, true_or, or_true, false_or, or_false, true_and, and_true, false_and, and_false, eq_self, not_true_eq_false, not_false_eq_true, qz0, qz1, q00, q01, q10, q11, zb_z, zb_0, zb_1, zor, Bool.true_eq_false, Bool.false_eq_true, Bool.and_true, Bool.and_false, Bool.true_and, Bool.false_and, Bool.or_true, Bool.or_false, Bool.true_or, Bool.false_or, decide_eq_true_eq, decide_eq_false_iff_not, reduceCtorEq]; first | exact ip | exact cw.code w _ hq))) | (with_reducible apply hT; · (first | omega | (simp (disch := omega) only [lk_9 hL, lp_9_1 hL, lk_11 hL, ln_11 hL, Option.isSome, cw.k, hrn', q_neg, mK_si, mN_si, mP_si, mT_si, mU_si, mK_sp, mN_sp, mI_sp, mT_sp, mU_sp, qadd, qmul, qcl, qle, qlt, qeq, qlt0, q0le, qeq0, qle0, q0lt, true_or, or_true, false_or, or_false, true_and, and_true, false_and, and_false, eq_self, not_true_eq_false, not_false_eq_true, qz0, qz1, q00, q01, q10, q11, zb_z, zb_0, zb_1, zor, Bool.true_eq_false, Bool.false_eq_true, Bool.and_true, Bool.and_false, Bool.true_and, Bool.false_and, Bool.or_true, Bool.or_false, Bool.true_or, Bool.false_or, decide_eq_true_eq, decide_eq_false_iff_not, reduceCtorEq]; done) | (simp (disch := omega) only [lk_9 hL, lp_9_1 hL, lk_11 hL, ln_11 hL, Option.isSome, cw.k, hrn', q_neg, mK_si, mN_si, mP_si, mT_si, mU_si, mK_sp, mN_sp, mI_sp, mT_sp, mU_sp, qadd, qmul, qcl, qle, qlt, qeq, qlt0, q0le, qeq0, qle0, q0lt, true_or, or_true, false_or, or_false, true_and, and_true, false_and, and_false, eq_self, not_true_eq_false, not_false_eq_true, qz0, qz1, q00, q01, q10, q11, zb_z, zb_0, zb_1, zor, Bool.true_eq_false, Bool.false_eq_true, Bool.and_true, Bool.and_false, Bool.true_and, Bool.false_and, Bool.or_true, Bool.or_false, Bool.true_or, Bool.false_or, decide_eq_true_eq, decide_eq_false_iff_not, reduceCtorEq]; omega))) | (with_reducible apply hF; · (first | omega | (simp (disch := omega) only [lk_9 hL, lp_9_1 hL, lk_11 hL, ln_11 hL, Option.isSome, cw.k, hrn', q_neg, mK_si, mN_si, mP_si, mT_si, mU_si, mK_sp, mN_sp, mI_sp, mT_sp, mU_sp, qadd, qmul, qcl, qle, qlt, qeq, qlt0, q0le, qeq0, qle0, q0lt, true_or, or_true, false_or, or_false, true_and, and_true, false_and, and_false, eq_self, not_true_eq_false, not_false_eq_true, qz0, qz1, q00, q01, q10, q11, zb_z, zb_0, zb_1, zor, Bool.true_eq_false, Bool.false_eq_true, Bool.and_true, Bool.and_false, Bool.true_and, Bool.false_and, Bool.or_true, Bool.or_false, Bool.true_or, Bool.false_or, decide_eq_true_eq, decide_eq_false_iff_not, reduceCtorEq]; done) | (simp (disch := omega) only [lk_9 hL, lp_9_1 hL, lk_11 hL, ln_11 hL, Option.isSome, cw.k, hrn', q_neg, mK_si, mN_si, mP_si, mT_si, mU_si, mK_sp, mN_sp, mI_sp, mT_sp, mU_sp, qadd, qmul, qcl, qle, qlt, qeq, qlt0, q0le, qeq0, qle0, q0lt, true_or, or_true, false_or, or_false, true_and, and_true, false_and, and_false, eq_self, not_true_eq_false, not_false_eq_true, qz0, qz1, q00, q01, q10, q11, zb_z, zb_0, zb_1, zor, Bool.true_eq_false, Bool.false_eq_true, Bool.and_true, Bool.and_false, Bool.true_and, Bool.false_and, Bool.or_true, Bool.or_false, Bool.true_or, Bool.false_or, decide_eq_true_eq, decide_eq_false_iff_not, reduceCtorEq]; omega))))
        rfl
    · right
      have hr : rn = false := by
        cases rn with
        | false => rfl
        | true => exact absurd rfl hr
      subst hr
      refine ⟨rfl, rfl, msi (msi h 11 v (nI q)) 9 5 (bs (fun u => (ub b v q u).isSome) 6), ?_, ?_, ?_, ?_⟩
      · rw [e_Ma_binds]
        have e5 : mI (msi h 11 v (nI q)) 9 5 = bs (fun v => (b v).isSome) 6 := by rw [mI_si, if_neg (by omega), t.1]
        have e8 : mI (msi (msi h 11 v (nI q)) 9 5 (bs (fun u => (ub b v q u).isSome) 6)) 9 8 = nI 0 := by rw [mI_si, if_neg (by omega), mI_si, if_neg (by omega), hrn]; rfl
        have hrn' : mI h 9 8 = nI 0 := hrn
        repeat (first | with_reducible refine hE ?_ | with_reducible refine hLi ?_ | (with_reducible apply hI; · (first | exact ip | exact cw.code w _ hq | (simp (disch := omega) only [lk_9 hL, lp_9_1 hL, lk_11 hL, ln_11 hL, Option.isSome, cw.k, hrn', mK_si, mN_si, mP_si, mT_si, mU_si, mK_sp, mN_sp, mI_sp, mT_sp, mU_sp, qadd, qmul, qcl, qle, qlt, qeq, qlt0, q0le, qeq0, qle0, q0lt, true_or, or_true, false_or, or_false, true_and, and_true, false_and, and_false, eq_self, not_true_eq_false, not_false_eq_true, qz0, qz1, q00, q01, q10, q11, zb_z, zb_0, zb_1, zor, Bool.true_eq_false, Bool.false_eq_true, Bool.and_true, Bool.and_false, Bool.true_and, Bool.false_and, Bool.or_true, Bool.or_false, Bool.true_or, Bool.false_or, decide_eq_true_eq, decide_eq_false_iff_not, reduceCtorEq]; first | exact ip | exact cw.code w _ hq))) | (with_reducible apply hP; · (first | exact ip | exact cw.code w _ hq | (simp (disch := omega) only [lk_9 hL, lp_9_1 hL, lk_11 hL, ln_11 hL, Option.isSome, cw.k, hrn', mK_si, mN_si, mP_si, mT_si, mU_si, mK_sp, mN_sp, mI_sp, mT_sp, mU_sp, qadd, qmul, qcl, qle, qlt, qeq, qlt0, q0le, qeq0, qle0, q0lt, true_or, or_true, false_or, or_false, true_and, and_true, false_and, and_false, eq_self, not_true_eq_false, not_false_eq_true, qz0, qz1, q00, q01, q10, q11, zb_z, zb_0, zb_1, zor, Bool.true_eq_false, Bool.false_eq_true, Bool.and_true, Bool.and_false, Bool.true_and, Bool.false_and, Bool.or_true, Bool.or_false, Bool.true_or, Bool.false_or, decide_eq_true_eq, decide_eq_false_iff_not, reduceCtorEq]; first | exact ip | exact cw.code w _ hq))) | (with_reducible apply hV; · (first | exact ip | exact cw.code w _ hq | (simp (disch := omega) only [lk_9 hL, lp_9_1 hL, lk_11 hL, ln_11 hL, Option.isSome, cw.k, hrn', mK_si, mN_si, mP_si, mT_si, mU_si, mK_sp, mN_sp, mI_sp, mT_sp, mU_sp, qadd, qmul, qcl, qle, qlt, qeq, qlt0, q0le, qeq0, qle0, q0lt, true_or, or_true, false_or, or_false, true_and, and_true, false_and, and_false, eq_self, not_true_eq_false, not_false_eq_true, qz0, qz1, q00, q01, q10, q11, zb_z, zb_0, zb_1, zor, Bool.true_eq_false, Bool.false_eq_true, Bool.and_true, Bool.and_false, Bool.true_and, Bool.false_and, Bool.or_true, Bool.or_false, Bool.true_or, Bool.false_or, decide_eq_true_eq, decide_eq_false_iff_not, reduceCtorEq]; first | exact ip | exact cw.code w _ hq))) | (with_reducible apply hT; · (first | omega | (simp (disch := omega) only [lk_9 hL, lp_9_1 hL, lk_11 hL, ln_11 hL, Option.isSome, cw.k, hrn', mK_si, mN_si, mP_si, mT_si, mU_si, mK_sp, mN_sp, mI_sp, mT_sp, mU_sp, qadd, qmul, qcl, qle, qlt, qeq, qlt0, q0le, qeq0, qle0, q0lt, true_or, or_true, false_or, or_false, true_and, and_true, false_and, and_false, eq_self, not_true_eq_false, not_false_eq_true, qz0, qz1, q00, q01, q10, q11, zb_z, zb_0, zb_1, zor, Bool.true_eq_false, Bool.false_eq_true, Bool.and_true, Bool.and_false, Bool.true_and, Bool.false_and, Bool.or_true, Bool.or_false, Bool.true_or, Bool.false_or, decide_eq_true_eq, decide_eq_false_iff_not, reduceCtorEq]; done) | (simp (disch := omega) only [lk_9 hL, lp_9_1 hL, lk_11 hL, ln_11 hL, Option.isSome, cw.k, hrn', mK_si, mN_si, mP_si, mT_si, mU_si, mK_sp, mN_sp, mI_sp, mT_sp, mU_sp, qadd, qmul, qcl, qle, qlt, qeq, qlt0, q0le, qeq0, qle0, q0lt, true_or, or_true, false_or, or_false, true_and, and_true, false_and, and_false, eq_self, not_true_eq_false, not_false_eq_true, qz0, qz1, q00, q01, q10, q11, zb_z, zb_0, zb_1, zor, Bool.true_eq_false, Bool.false_eq_true, Bool.and_true, Bool.and_false, Bool.true_and, Bool.false_and, Bool.or_true, Bool.or_false, Bool.true_or, Bool.false_or, decide_eq_true_eq, decide_eq_false_iff_not, reduceCtorEq]; omega))) | (with_reducible apply hF; · (first | omega | (simp (disch := omega) only [lk_9 hL, lp_9_1 hL, lk_11 hL, ln_11 hL, Option.isSome, cw.k, hrn', mK_si, mN_si, mP_si, mT_si, mU_si, mK_sp, mN_sp, mI_sp, mT_sp, mU_sp, qadd, qmul, qcl, qle, qlt, qeq, qlt0, q0le, qeq0, qle0, q0lt, true_or, or_true, false_or, or_false, true_and, and_true, false_and, and_false, eq_self, not_true_eq_false, not_false_eq_true, qz0, qz1, q00, q01, q10, q11, zb_z, zb_0, zb_1, zor, Bool.true_eq_false, Bool.false_eq_true, Bool.and_true, Bool.and_false, Bool.true_and, Bool.false_and, Bool.or_true, Bool.or_false, Bool.true_or, Bool.false_or, decide_eq_true_eq, decide_eq_false_iff_not, reduceCtorEq]; done) | (simp (disch := omega) only [lk_9 hL, lp_9_1 hL, lk_11 hL, ln_11 hL, Option.isSome, cw.k, hrn', mK_si, mN_si, mP_si, mT_si, mU_si, mK_sp, mN_sp, mI_sp, mT_sp, mU_sp, qadd, qmul, qcl, qle, qlt, qeq, qlt0, q0le, qeq0, qle0, q0lt, true_or, or_true, false_or, or_false, true_and, and_true, false_and, and_false, eq_self, not_true_eq_false, not_false_eq_true, qz0, qz1, q00, q01, q10, q11, zb_z, zb_0, zb_1, zor, Bool.true_eq_false, Bool.false_eq_true, Bool.and_true, Bool.and_false, Bool.true_and, Bool.false_and, Bool.or_true, Bool.or_false, Bool.true_or, Bool.false_or, decide_eq_true_eq, decide_eq_false_iff_not, reduceCtorEq]; omega))))
        rw [lp_9_1 hL, qcl (by omega), e5, bs_upd b q hv]
        repeat (first | with_reducible refine hE ?_ | with_reducible refine hLi ?_ | (with_reducible apply hT; · (first | omega | (simp (disch := omega) only [lk_9 hL, lp_9_1 hL, lk_11 hL, ln_11 hL, e8, mK_si, mN_si, mP_si, mT_si, mU_si, mK_sp, mN_sp, mI_sp, mT_sp, mU_sp, qadd, qmul, qcl, qle, qlt, qeq, qlt0, q0le, qeq0, qle0, q0lt, true_or, or_true, false_or, or_false, true_and, and_true, false_and, and_false, eq_self, not_true_eq_false, not_false_eq_true, qz0, qz1, q00, q01, q10, q11, zb_z, zb_0, zb_1, zor, Bool.true_eq_false, Bool.false_eq_true, Bool.and_true, Bool.and_false, Bool.true_and, Bool.false_and, Bool.or_true, Bool.or_false, Bool.true_or, Bool.false_or, decide_eq_true_eq, decide_eq_false_iff_not, reduceCtorEq]; done) | (simp (disch := omega) only [lk_9 hL, lp_9_1 hL, lk_11 hL, ln_11 hL, e8, mK_si, mN_si, mP_si, mT_si, mU_si, mK_sp, mN_sp, mI_sp, mT_sp, mU_sp, qadd, qmul, qcl, qle, qlt, qeq, qlt0, q0le, qeq0, qle0, q0lt, true_or, or_true, false_or, or_false, true_and, and_true, false_and, and_false, eq_self, not_true_eq_false, not_false_eq_true, qz0, qz1, q00, q01, q10, q11, zb_z, zb_0, zb_1, zor, Bool.true_eq_false, Bool.false_eq_true, Bool.and_true, Bool.and_false, Bool.true_and, Bool.false_and, Bool.or_true, Bool.or_false, Bool.true_or, Bool.false_or, decide_eq_true_eq, decide_eq_false_iff_not, reduceCtorEq]; omega))) | (with_reducible apply hF; · (first | omega | (simp (disch := omega) only [lk_9 hL, lp_9_1 hL, lk_11 hL, ln_11 hL, e8, mK_si, mN_si, mP_si, mT_si, mU_si, mK_sp, mN_sp, mI_sp, mT_sp, mU_sp, qadd, qmul, qcl, qle, qlt, qeq, qlt0, q0le, qeq0, qle0, q0lt, true_or, or_true, false_or, or_false, true_and, and_true, false_and, and_false, eq_self, not_true_eq_false, not_false_eq_true, qz0, qz1, q00, q01, q10, q11, zb_z, zb_0, zb_1, zor, Bool.true_eq_false, Bool.false_eq_true, Bool.and_true, Bool.and_false, Bool.true_and, Bool.false_and, Bool.or_true, Bool.or_false, Bool.true_or, Bool.false_or, decide_eq_true_eq, decide_eq_false_iff_not, reduceCtorEq]; done) | (simp (disch := omega) only [lk_9 hL, lp_9_1 hL, lk_11 hL, ln_11 hL, e8, mK_si, mN_si, mP_si, mT_si, mU_si, mK_sp, mN_sp, mI_sp, mT_sp, mU_sp, qadd, qmul, qcl, qle, qlt, qeq, qlt0, q0le, qeq0, qle0, q0lt, true_or, or_true, false_or, or_false, true_and, and_true, false_and, and_false, eq_self, not_true_eq_false, not_false_eq_true, qz0, qz1, q00, q01, q10, q11, zb_z, zb_0, zb_1, zor, Bool.true_eq_false, Bool.false_eq_true, Bool.and_true, Bool.and_false, Bool.true_and, Bool.false_and, Bool.or_true, Bool.or_false, Bool.true_or, Bool.false_or, decide_eq_true_eq, decide_eq_false_iff_not, reduceCtorEq]; omega))))
        rfl
      · exact (Fi.si (Or.inl rfl)).tr (Fi.si (Or.inr ⟨rfl, Or.inl rfl⟩))
      · intro u hu
        rw [mI_si, if_neg (by omega), mI_si, if_neg (by omega)]
      · refine ⟨by rw [mI_si, if_pos ⟨rfl, rfl⟩], fun u t' hu ht' => ?_, fun z => absurd z (by decide), fun z => absurd z (by decide)⟩
        rw [mI_si, if_neg (by omega), mI_si]
        by_cases hu' : u = v
        · subst hu'
          rw [ub_v] at ht'
          injection ht' with ht'
          subst ht'
          rw [if_pos ⟨rfl, rfl⟩]
          exact ⟨rfl, hq, hc⟩
        · rw [ub_o b q hu'] at ht'
          rw [if_neg (by omega)]
          exact t.2.1 u t' hu ht'
