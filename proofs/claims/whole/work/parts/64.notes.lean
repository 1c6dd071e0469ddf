/-! ===== frames of the class's view; what is noted ===== -/
def vcb (x k : Nat) : Bool := (Nat.ble 64 x && (Nat.ble x 93 && Nat.beq (x % 3) 2)) || (Nat.beq x 105 || (Nat.beq x 123 || (Nat.beq x 126 || (Nat.beq x 108 || (Nat.beq x 3 && (Nat.ble 11 k && Nat.ble k 13))))))
/-- references of the class that may change -/
def Vk (x k : Nat) : Prop := vcb x k = true
theorem Vk_iff {x k : Nat} : Vk x k ↔ (64 ≤ x ∧ x ≤ 93 ∧ x % 3 = 2) ∨ x = 105 ∨ x = 123 ∨ x = 126 ∨ x = 108 ∨ (x = 3 ∧ 11 ≤ k ∧ k ≤ 13) := by
  unfold Vk vcb
  simp only [Bool.or_eq_true, Bool.and_eq_true, beq_t, ble_t]
theorem Vk_lay : ∀ q ∈ layP, ¬ Vk q.1 q.2.1 := by
  have h : layP.all (fun q => !(vcb q.1 q.2.1)) = true := by decide +kernel
  intro q hq z
  have := List.all_eq_true.mp h q hq
  unfold Vk at z
  rw [z] at this
  cases this
theorem Vk_im (x k : Nat) (z : Vk x k) : ¬ im x := by
  rw [Vk_iff] at z
  unfold im
  omega
theorem Vk_cw (x k : Nat) (z : Vk x k) : cw x k := by
  rw [Vk_iff] at z
  unfold cw
  omega
theorem layP_lt : ∀ q ∈ layP, q.1 < 155 := by
  have : layP.all (fun q => Nat.blt q.1 155) = true := by decide +kernel
  intro q hq
  exact Nat.le_of_ble_eq_true (List.all_eq_true.mp this q hq)
theorem Lay.fc {W V : Nat → Nat → Prop} {h h' : mh} (hL : Lay h) (f : Fc W V h h') (hv : ∀ x k, V x k → Vk x k) : Lay h' := by
  have h3 := hL.2.2
  refine ⟨fun a h1 h2 => ?_, fun q hq => ?_, Nat.le_trans h3 f.2.2.2⟩
  · rw [(f.2.2.1 a (by omega)).1, (f.2.2.1 a (by omega)).2]
    exact hL.1 a h1 h2
  · have := layP_lt q hq
    rw [f.2.1 q.1 q.2.1 (by omega) (fun z => Vk_lay q hq (hv _ _ z))]
    exact hL.2.1 q hq
section
variable {W V : Nat → Nat → Prop} {h h' : mh} {K : Ks} {O : List Nat} {n : Nat} {H : Sh} {I : Im} {T : List Nat}
theorem RC.fr (r : RC h K) (f : Fc W V h h') (hw : ∀ x k, W x k → ¬ im x) (hv : ∀ x k, V x k → Vk x k) (n1 : ¬ V 3 13) (n2 : ∀ k, ¬ V 105 k) : RC h' K := by
  have h3 := r.1.2.2
  refine ⟨r.1.fc f hv, fun k hk => ?_⟩
  have e : cp h' k = cp h k := by
    unfold cp
    rw [f.2.1 3 13 (by omega) n1, f.2.1 105 k (by omega) (n2 k)]
  rw [e]
  rcases r.2 k hk with z | ⟨cs, z1, z2, z3⟩
  · exact Or.inl z
  · exact Or.inr ⟨cs, z1, z2, z3.fr f hw (fun x k z => Vk_im x k (hv x k z))⟩
theorem OC.fr (o : OC h O) (f : Fc W V h h') (tT : 155 ≤ mT h) (n1 : ¬ W 104 2) (n2 : ∀ k, ¬ W 106 k) : OC h' O := ⟨o.1, by rw [f.1 _ _ (by omega) n1]; exact o.2.1, fun i hi => ⟨(o.2.2 i hi).1, by rw [f.1 _ _ (by omega) (n2 i)]; exact (o.2.2 i hi).2⟩⟩
theorem HC.fr (b : HC h n H) (f : Fc W V h h') (tT : 155 ≤ mT h) (hw : ∀ x k, W x k → ¬ im x) (hv : ∀ x k, V x k → Vk x k) (n1 : ∀ a k, 62 ≤ a → a ≤ 93 → ¬ W a k) (n2 : ∀ a k, 62 ≤ a → a ≤ 93 → ¬ V a k) : HC h' n H := by
  obtain ⟨b1, b2, nx, b3, b4, b5⟩ := b
  refine ⟨b1, by rw [f.1 _ _ (by omega) (n1 _ _ (by omega) (by omega))]; exact b2, nx, b3, by rw [f.1 _ _ (by omega) (n1 _ _ (by omega) (by omega))]; exact b4, fun j hj => (b5 j hj).fr f hw (fun x k z => Vk_im x k (hv x k z)) ?_ (n1 _ _ ?_ ?_) (fun i => n1 _ _ ?_ ?_) (fun i => n2 _ _ ?_ ?_)⟩
  all_goals (unfold sl; omega)
theorem IC.fr (b : IC h I) (f : Fc W V h h') (tT : 155 ≤ mT h) (hw : ∀ x k, W x k → ¬ im x) (hv : ∀ x k, V x k → Vk x k) (n1 : ∀ a k, 122 ≤ a → a ≤ 127 → ¬ W a k) (n2 : ∀ a k, 122 ≤ a → a ≤ 127 → ¬ V a k) (n3 : ∀ k, ¬ V 108 k) : IC h' I := by
  intro i hi
  rw [f.2.1 _ _ (by omega) (n3 i)]
  rcases b i hi with z | ⟨K, O, cs, z1, z2, z3, z4, z5⟩
  · exact Or.inl z
  · exact Or.inr ⟨K, O, cs, z1, z2.fr f hw (fun x k z => Vk_im x k (hv x k z)) (by omega) (n1 _ _ (by omega) (by omega)) (fun i => n1 _ _ (by omega) (by omega)) (fun i => n2 _ _ (by omega) (by omega)), z3, z4, z5.fr f hw (fun x k z => Vk_im x k (hv x k z))⟩
theorem TC.fr (b : TC h T) (f : Fc W V h h') (tT : 155 ≤ mT h) (n1 : ¬ W 4 2) (n2 : ∀ k, ¬ W 5 k) : TC h' T := ⟨b.1, by rw [f.1 _ _ (by omega) n1]; exact b.2.1, fun i hi => ⟨(b.2.2 i hi).1, by rw [f.1 _ _ (by omega) (n2 i)]; exact (b.2.2 i hi).2⟩⟩
theorem RT.fr {m R : Nat} (t : RT h K m R) (f : Fc W V h h') (tT : R + 3 < mT h) (hw : ∀ a k, R ≤ a → a ≤ R + 2 → ¬ W a k) : RT h' K m R := ⟨by rw [f.1 _ _ (by omega) (hw R 4 (by omega) (by omega))]; exact t.1, fun k hk => ⟨by rw [f.1 _ _ (by omega) (hw _ k (by omega) (by omega))]; exact (t.2 k hk).1, by rw [f.1 _ _ (by omega) (hw _ k (by omega) (by omega))]; exact (t.2 k hk).2⟩⟩
theorem RJ.fr (t : RJ h K) (f : Fc W V h h') (tT : 155 ≤ mT h) (hw : ∀ a k, 94 ≤ a → a ≤ 103 → ¬ W a k) : RJ h' K := by
  intro m R hm hR
  unfold RI
  rw [f.1 R 5 (by omega) (hw _ _ (by omega) (by omega))]
  rcases t m R hm hR with z | ⟨z1, z2⟩
  · exact Or.inl z
  · exact Or.inr ⟨z1, z2.fr f (by omega) (fun a k h1 h2 => hw _ _ (by omega) (by omega))⟩
theorem DC.fr (t : DC h) (f : Fc W V h h') (tT : 155 ≤ mT h) (n1 : ¬ V 3 11) (n2 : ¬ V 3 12) (n3 : ∀ k, ¬ W 2 k) : DC h' := by
  refine ⟨?_, by rw [(f.2.2.1 2 (by omega)).1]; exact t.2.1, by rw [(f.2.2.1 2 (by omega)).2]; exact t.2.2.1, fun i hi => by rw [f.1 _ _ (by omega) (n3 i)]; exact t.2.2.2 i hi⟩
  have := t.1
  unfold DC0 at this ⊢
  rw [f.2.1 3 11 (by omega) n1, f.2.1 3 12 (by omega) n2]
  exact this
end
theorem Fc.copy (h : mh) (s r n : Nat) (f : Nat → Int32) : Fc (fun x _ => x = s ∨ x = s + 2) (fun x _ => x = s + 1) h (lyf (cpy h s r 24) s f n) := by
  refine ⟨fun a k _ hn => ?_, fun a k _ hn => ?_, fun a _ => ⟨rfl, rfl⟩, Nat.le_refl _⟩
  · rw [lyf_I, if_neg (by omega), if_neg (by omega)]
    rfl
  · show mP (cpy h s r 24) a k = _
    rw [cpy_P, if_neg (by omega)]
theorem SC.copy {h : mh} {s r : Nat} {K : Ks} {O : List Nat} (b : SC h r K O) (hs : ¬ im s ∧ ¬ im (s + 1) ∧ ¬ im (s + 2)) : SC (lyf (cpy h s r 24) s (mI h (r + 2)) O.length) s K O := by
  obtain ⟨b1, b2, b3, b4⟩ := b
  refine ⟨fun k hk => ?_, b2, lyf_2, fun i hi => ⟨(b4 i hi).1, ?_⟩⟩
  · have e : mP (lyf (cpy h s r 24) s (mI h (r + 2)) O.length) (s + 1) k = mP h (r + 1) k := by
      show mP (cpy h s r 24) (s + 1) k = _
      rw [cpy_P, if_pos ⟨rfl, hk⟩]
    rw [e]
    rcases b1 k hk with z | ⟨cs, z1, z2, z3⟩
    · exact Or.inl z
    · have w1 : ∀ x k : Nat, (x = s ∨ x = s + 2) → ¬ im x := by
        intro x k z
        rcases z with z | z
        · rw [z]; exact hs.1
        · rw [z]; exact hs.2.2
      have w2 : ∀ x k : Nat, x = s + 1 → ¬ im x := by
        intro x k z
        rw [z]; exact hs.2.1
      exact Or.inr ⟨cs, z1, z2, z3.fr (Fc.copy h s r _ _) w1 w2⟩
  · rw [lyf_I, if_pos ⟨rfl, hi⟩]
    exact (b4 i hi).2
def nn (n : Nat) : Nat := if n < 10 then n + 1 else 10
def nh (n : Nat) (H : Sh) (x : Ks × List Nat) : Sh := if n < 10 then (fun j => if j = n then x else H j) else (fun j => if j = 9 then x else H (j + 1))
theorem nn_lt {n : Nat} (h : n < 10) : nn n = n + 1 := if_pos h
theorem nn_ge {n : Nat} (h : ¬ n < 10) : nn n = 10 := if_neg h
theorem nh_n {n : Nat} {H : Sh} {x : Ks × List Nat} (h : n < 10) : nh n H x n = x := by
  unfold nh
  rw [if_pos h]
  exact if_pos rfl
theorem nh_o {n j : Nat} {H : Sh} {x : Ks × List Nat} (h : n < 10) (hj : j ≠ n) : nh n H x j = H j := by
  unfold nh
  rw [if_pos h]
  exact if_neg hj
theorem nh_9 {n : Nat} {H : Sh} {x : Ks × List Nat} (h : ¬ n < 10) : nh n H x 9 = x := by
  unfold nh
  rw [if_neg h]
  exact if_pos rfl
theorem nh_p {n j : Nat} {H : Sh} {x : Ks × List Nat} (h : ¬ n < 10) (hj : j ≠ 9) : nh n H x j = H (j + 1) := by
  unfold nh
  rw [if_neg h]
  exact if_neg hj
theorem lp63 {h : mh} (hL : Lay h) {j : Nat} (hj : j < 10) : mP h 63 j = 64 + 3 * j := by
  have : ∀ j, j < 10 → (63, j, 64 + 3 * j) ∈ layP := by decide +kernel
  exact hL.2.1 _ (this j hj)
def Wnt (x _k : Nat) : Prop := x = 62 ∨ (64 ≤ x ∧ x ≤ 93)
def Vnt (x _k : Nat) : Prop := 64 ≤ x ∧ x ≤ 93 ∧ x % 3 = 2
theorem Wnt_im (x k : Nat) (z : Wnt x k) : ¬ im x := by
  unfold Wnt at z
  unfold im
  omega
theorem Vnt_k (x k : Nat) (z : Vnt x k) : Vk x k := by
  rw [Vk_iff]
  exact Or.inl z
theorem s_fmod (d : Nat) {x : Nat} (hx : x < 100) (h : mh) : Jm_floorMod (d + 1) (nI x) (nI 10) h = some (some (vi (nI (x % 10))), h) := by
  have e := qrem (a := x) (m := 10) (by omega) (by decide) (by decide)
  have e2 : (0 : Int32) ≤ nI x ^^^ nI 10 := by
    have : ∀ x, x < 100 → (0 : Int32) ≤ nI x ^^^ nI 10 := by decide +kernel
    exact this x hx
  rw [e_Jm_floorMod, if_neg (by rw [qeq0 (by decide)]; decide), if_pos e2, e]
theorem s_note {h : mh} {K : Ks} {O : List Nat} {n : Nat} {H : Sh} (r : RC h K) (o : OC h O) (b : HC h n H) (d : Nat) : ∃ h', Hi_note (d + 3) 62 104 h = some (none, h') ∧ Fc Wnt Vnt h h' ∧ HC h' (nn n) (nh n H (K, O)) ∧ mT h' = mT h ∧ mU h' = mU h := by
  have hL := r.1
  have tT := hL.2.2
  obtain ⟨b1, b2, nx, b3, b4, b5⟩ := b
  have sc := r.sc o
  have A := SA_hist hL b3
  have B := SA_104 hL
  have e1 := s_St_copy (s := 64 + 3 * nx) (r := 104) A B (by omega) sc.kp o.1 o.2.1 d
  have f1 : Fc Wnt Vnt h (lyf (cpy h (64 + 3 * nx) 104 24) (64 + 3 * nx) (mI h (104 + 2)) O.length) := (Fc.copy h (64 + 3 * nx) 104 _ _).mo (fun x k z => by unfold Wnt; omega) (fun x k z => by unfold Vnt; omega)
  have sc1 : SC (lyf (cpy h (64 + 3 * nx) 104 24) (64 + 3 * nx) (mI h (104 + 2)) O.length) (64 + 3 * nx) K O := sc.copy (by unfold im; omega)
  obtain ⟨h1, hh1⟩ : ∃ h1, h1 = lyf (cpy h (64 + 3 * nx) 104 24) (64 + 3 * nx) (mI h (104 + 2)) O.length := ⟨_, rfl⟩
  have fcp : Fc (fun x _ => x = 64 + 3 * nx ∨ x = 64 + 3 * nx + 2) (fun x _ => x = 64 + 3 * nx + 1) h h1 := by rw [hh1]; exact Fc.copy h _ _ _ _
  have t1 : mT h1 = mT h ∧ mU h1 = mU h := by rw [hh1]; exact ⟨rfl, rfl⟩
  rw [← hh1] at e1 f1 sc1
  have hL1 : Lay h1 := hL.fc f1 Vnt_k
  have i1 : mI h1 62 1 = nI nx := by rw [fcp.1 _ _ (by omega) (by omega)]; exact b4
  have i2 : mI h1 62 2 = nI n := by rw [fcp.1 _ _ (by omega) (by omega)]; exact b2
  have f2 : Fc Wnt Vnt h1 (msi (msi h1 62 1 (nI ((nx + 1) % 10))) 62 2 (nI (nn n))) := (Fc.si (Or.inl rfl)).tr (Fc.si (Or.inl rfl))
  have f2i : Fi (fun x _ => x = 62) h1 (msi (msi h1 62 1 (nI ((nx + 1) % 10))) 62 2 (nI (nn n))) := Fi.tr (W := fun x _ => x = 62) (Fi.si rfl) (Fi.si rfl)
  refine ⟨msi (msi h1 62 1 (nI ((nx + 1) % 10))) 62 2 (nI (nn n)), ?_, f1.tr f2, ?_, t1.1, t1.2⟩
  · rw [e_Hi_note]
    have em : Jm_min (d + 2) (nI (n + 1)) (nI 10) (msi h1 62 1 (nI ((nx + 1) % 10))) = some (some (vi (nI (nn n))), msi h1 62 1 (nI ((nx + 1) % 10))) := by
      rw [e_Jm_min]
      by_cases hz : n < 10
      · rw [nn_lt hz]
        repeat (first | with_reducible refine hE ?_ | with_reducible refine hLi ?_ | (with_reducible apply hT; · (first | omega | (simp (disch := omega) only [qadd, qmul, qcl, qle, qlt, qeq, qlt0, q0le, qeq0, qle0, q0lt, true_or, or_true, false_or, or_false, true_and, and_true, false_and, and_false, eq_self, not_true_eq_false, not_false_eq_true, qz0, qz1, q00, q01, q10, q11, zb_z, zb_0, zb_1, zor, Bool.true_eq_false, Bool.false_eq_true, Bool.and_true, Bool.and_false, Bool.true_and, Bool.false_and, Bool.or_true, Bool.or_false, Bool.true_or, Bool.false_or, decide_eq_true_eq, decide_eq_false_iff_not, reduceCtorEq]; done) | (simp (disch := omega) only [qadd, qmul, qcl, qle, qlt, qeq, qlt0, q0le, qeq0, qle0, q0lt, true_or, or_true, false_or, or_false, true_and, and_true, false_and, and_false, eq_self, not_true_eq_false, not_false_eq_true, qz0, qz1, q00, q01, q10, q11, zb_z, zb_0, zb_1, zor, Bool.true_eq_false, Bool.false_eq_true, Bool.and_true, Bool.and_false, Bool.true_and, Bool.false_and, Bool.or_true, Bool.or_false, Bool.true_or, Bool.false_or, decide_eq_true_eq, decide_eq_false_iff_not, reduceCtorEq]; omega))) | (with_reducible apply hF; · (first | omega | (simp (disch := omega) only [qadd, qmul, qcl, qle, qlt, qeq, qlt0, q0le, qeq0, qle0, q0lt, true_or, or_true, false_or, or_false, true_and, and_true, false_and, and_false, eq_self, not_true_eq_false, not_false_eq_true, qz0, qz1, q00, q01, q10, q11, zb_z, zb_0, zb_1, zor, Bool.true_eq_false, Bool.false_eq_true, Bool.and_true, Bool.and_false, Bool.true_and, Bool.false_and, Bool.or_true, Bool.or_false, Bool.true_or, Bool.false_or, decide_eq_true_eq, decide_eq_false_iff_not, reduceCtorEq]; done) | (simp (disch := omega) only [qadd, qmul, qcl, qle, qlt, qeq, qlt0, q0le, qeq0, qle0, q0lt, true_or, or_true, false_or, or_false, true_and, and_true, false_and, and_false, eq_self, not_true_eq_false, not_false_eq_true, qz0, qz1, q00, q01, q10, q11, zb_z, zb_0, zb_1, zor, Bool.true_eq_false, Bool.false_eq_true, Bool.and_true, Bool.and_false, Bool.true_and, Bool.false_and, Bool.or_true, Bool.or_false, Bool.true_or, Bool.false_or, decide_eq_true_eq, decide_eq_false_iff_not, reduceCtorEq]; omega))))
        rfl
      · rw [nn_ge hz]
        obtain rfl : n = 10 := by omega
        repeat (first | with_reducible refine hE ?_ | with_reducible refine hLi ?_ | (with_reducible apply hT; · (first | omega | (simp (disch := omega) only [qadd, qmul, qcl, qle, qlt, qeq, qlt0, q0le, qeq0, qle0, q0lt, true_or, or_true, false_or, or_false, true_and, and_true, false_and, and_false, eq_self, not_true_eq_false, not_false_eq_true, qz0, qz1, q00, q01, q10, q11, zb_z, zb_0, zb_1, zor, Bool.true_eq_false, Bool.false_eq_true, Bool.and_true, Bool.and_false, Bool.true_and, Bool.false_and, Bool.or_true, Bool.or_false, Bool.true_or, Bool.false_or, decide_eq_true_eq, decide_eq_false_iff_not, reduceCtorEq]; done) | (simp (disch := omega) only [qadd, qmul, qcl, qle, qlt, qeq, qlt0, q0le, qeq0, qle0, q0lt, true_or, or_true, false_or, or_false, true_and, and_true, false_and, and_false, eq_self, not_true_eq_false, not_false_eq_true, qz0, qz1, q00, q01, q10, q11, zb_z, zb_0, zb_1, zor, Bool.true_eq_false, Bool.false_eq_true, Bool.and_true, Bool.and_false, Bool.true_and, Bool.false_and, Bool.or_true, Bool.or_false, Bool.true_or, Bool.false_or, decide_eq_true_eq, decide_eq_false_iff_not, reduceCtorEq]; omega))) | (with_reducible apply hF; · (first | omega | (simp (disch := omega) only [qadd, qmul, qcl, qle, qlt, qeq, qlt0, q0le, qeq0, qle0, q0lt, true_or, or_true, false_or, or_false, true_and, and_true, false_and, and_false, eq_self, not_true_eq_false, not_false_eq_true, qz0, qz1, q00, q01, q10, q11, zb_z, zb_0, zb_1, zor, Bool.true_eq_false, Bool.false_eq_true, Bool.and_true, Bool.and_false, Bool.true_and, Bool.false_and, Bool.or_true, Bool.or_false, Bool.true_or, Bool.false_or, decide_eq_true_eq, decide_eq_false_iff_not, reduceCtorEq]; done) | (simp (disch := omega) only [qadd, qmul, qcl, qle, qlt, qeq, qlt0, q0le, qeq0, qle0, q0lt, true_or, or_true, false_or, or_false, true_and, and_true, false_and, and_false, eq_self, not_true_eq_false, not_false_eq_true, qz0, qz1, q00, q01, q10, q11, zb_z, zb_0, zb_1, zor, Bool.true_eq_false, Bool.false_eq_true, Bool.and_true, Bool.and_false, Bool.true_and, Bool.false_and, Bool.or_true, Bool.or_false, Bool.true_or, Bool.false_or, decide_eq_true_eq, decide_eq_false_iff_not, reduceCtorEq]; omega))))
        rfl
    have e62 : mI (msi h1 62 1 (nI ((nx + 1) % 10))) 62 2 = nI n := by rw [mI_si, if_neg (by omega)]; exact i2
    (have zf0 := A.1; repeat (first | with_reducible refine hE ?_ | with_reducible refine hLi ?_ | (with_reducible apply hI; · (first | exact e1 | exact s_fmod _ (show nx + 1 < 100 by omega) _ | exact em | (simp (disch := omega) only [lk_62 hL, lp_62_0 hL, lk_63 hL, ln_63 hL, b4, lp63 hL b3, zf0, lk_62 hL1, i1, e62, mK_si, mN_si, mP_si, mT_si, mU_si, mK_sp, mN_sp, mI_sp, mT_sp, mU_sp, qadd, qmul, qcl, qle, qlt, qeq, qlt0, q0le, qeq0, qle0, q0lt, true_or, or_true, false_or, or_false, true_and, and_true, false_and, and_false, eq_self, not_true_eq_false, not_false_eq_true, qz0, qz1, q00, q01, q10, q11, zb_z, zb_0, zb_1, zor, Bool.true_eq_false, Bool.false_eq_true, Bool.and_true, Bool.and_false, Bool.true_and, Bool.false_and, Bool.or_true, Bool.or_false, Bool.true_or, Bool.false_or, decide_eq_true_eq, decide_eq_false_iff_not, reduceCtorEq]; first | exact e1 | exact s_fmod _ (show nx + 1 < 100 by omega) _ | exact em))) | (with_reducible apply hP; · (first | exact e1 | exact s_fmod _ (show nx + 1 < 100 by omega) _ | exact em | (simp (disch := omega) only [lk_62 hL, lp_62_0 hL, lk_63 hL, ln_63 hL, b4, lp63 hL b3, zf0, lk_62 hL1, i1, e62, mK_si, mN_si, mP_si, mT_si, mU_si, mK_sp, mN_sp, mI_sp, mT_sp, mU_sp, qadd, qmul, qcl, qle, qlt, qeq, qlt0, q0le, qeq0, qle0, q0lt, true_or, or_true, false_or, or_false, true_and, and_true, false_and, and_false, eq_self, not_true_eq_false, not_false_eq_true, qz0, qz1, q00, q01, q10, q11, zb_z, zb_0, zb_1, zor, Bool.true_eq_false, Bool.false_eq_true, Bool.and_true, Bool.and_false, Bool.true_and, Bool.false_and, Bool.or_true, Bool.or_false, Bool.true_or, Bool.false_or, decide_eq_true_eq, decide_eq_false_iff_not, reduceCtorEq]; first | exact e1 | exact s_fmod _ (show nx + 1 < 100 by omega) _ | exact em))) | (with_reducible apply hV; · (first | exact e1 | exact s_fmod _ (show nx + 1 < 100 by omega) _ | exact em | (simp (disch := omega) only [lk_62 hL, lp_62_0 hL, lk_63 hL, ln_63 hL, b4, lp63 hL b3, zf0, lk_62 hL1, i1, e62, mK_si, mN_si, mP_si, mT_si, mU_si, mK_sp, mN_sp, mI_sp, mT_sp, mU_sp, qadd, qmul, qcl, qle, qlt, qeq, qlt0, q0le, qeq0, qle0, q0lt, true_or, or_true, false_or, or_false, true_and, and_true, false_and, and_false, eq_self, not_true_eq_false, not_false_eq_true, qz0, qz1, q00, q01, q10, q11, zb_z, zb_0, zb_1, zor, Bool.true_eq_false, Bool.false_eq_true, Bool.and_true, Bool.and_false, Bool.true_and, Bool.false_and, Bool.or_true, Bool.or_false, Bool.true_or, Bool.false_or, decide_eq_true_eq, decide_eq_false_iff_not, reduceCtorEq]; first | exact e1 | exact s_fmod _ (show nx + 1 < 100 by omega) _ | exact em))) | (with_reducible apply hT; · (first | omega | (simp (disch := omega) only [lk_62 hL, lp_62_0 hL, lk_63 hL, ln_63 hL, b4, lp63 hL b3, zf0, lk_62 hL1, i1, e62, mK_si, mN_si, mP_si, mT_si, mU_si, mK_sp, mN_sp, mI_sp, mT_sp, mU_sp, qadd, qmul, qcl, qle, qlt, qeq, qlt0, q0le, qeq0, qle0, q0lt, true_or, or_true, false_or, or_false, true_and, and_true, false_and, and_false, eq_self, not_true_eq_false, not_false_eq_true, qz0, qz1, q00, q01, q10, q11, zb_z, zb_0, zb_1, zor, Bool.true_eq_false, Bool.false_eq_true, Bool.and_true, Bool.and_false, Bool.true_and, Bool.false_and, Bool.or_true, Bool.or_false, Bool.true_or, Bool.false_or, decide_eq_true_eq, decide_eq_false_iff_not, reduceCtorEq]; done) | (simp (disch := omega) only [lk_62 hL, lp_62_0 hL, lk_63 hL, ln_63 hL, b4, lp63 hL b3, zf0, lk_62 hL1, i1, e62, mK_si, mN_si, mP_si, mT_si, mU_si, mK_sp, mN_sp, mI_sp, mT_sp, mU_sp, qadd, qmul, qcl, qle, qlt, qeq, qlt0, q0le, qeq0, qle0, q0lt, true_or, or_true, false_or, or_false, true_and, and_true, false_and, and_false, eq_self, not_true_eq_false, not_false_eq_true, qz0, qz1, q00, q01, q10, q11, zb_z, zb_0, zb_1, zor, Bool.true_eq_false, Bool.false_eq_true, Bool.and_true, Bool.and_false, Bool.true_and, Bool.false_and, Bool.or_true, Bool.or_false, Bool.true_or, Bool.false_or, decide_eq_true_eq, decide_eq_false_iff_not, reduceCtorEq]; omega))) | (with_reducible apply hF; · (first | omega | (simp (disch := omega) only [lk_62 hL, lp_62_0 hL, lk_63 hL, ln_63 hL, b4, lp63 hL b3, zf0, lk_62 hL1, i1, e62, mK_si, mN_si, mP_si, mT_si, mU_si, mK_sp, mN_sp, mI_sp, mT_sp, mU_sp, qadd, qmul, qcl, qle, qlt, qeq, qlt0, q0le, qeq0, qle0, q0lt, true_or, or_true, false_or, or_false, true_and, and_true, false_and, and_false, eq_self, not_true_eq_false, not_false_eq_true, qz0, qz1, q00, q01, q10, q11, zb_z, zb_0, zb_1, zor, Bool.true_eq_false, Bool.false_eq_true, Bool.and_true, Bool.and_false, Bool.true_and, Bool.false_and, Bool.or_true, Bool.or_false, Bool.true_or, Bool.false_or, decide_eq_true_eq, decide_eq_false_iff_not, reduceCtorEq]; done) | (simp (disch := omega) only [lk_62 hL, lp_62_0 hL, lk_63 hL, ln_63 hL, b4, lp63 hL b3, zf0, lk_62 hL1, i1, e62, mK_si, mN_si, mP_si, mT_si, mU_si, mK_sp, mN_sp, mI_sp, mT_sp, mU_sp, qadd, qmul, qcl, qle, qlt, qeq, qlt0, q0le, qeq0, qle0, q0lt, true_or, or_true, false_or, or_false, true_and, and_true, false_and, and_false, eq_self, not_true_eq_false, not_false_eq_true, qz0, qz1, q00, q01, q10, q11, zb_z, zb_0, zb_1, zor, Bool.true_eq_false, Bool.false_eq_true, Bool.and_true, Bool.and_false, Bool.true_and, Bool.false_and, Bool.or_true, Bool.or_false, Bool.true_or, Bool.false_or, decide_eq_true_eq, decide_eq_false_iff_not, reduceCtorEq]; omega)))))
    rfl
  · refine ⟨by unfold nn; split <;> omega, by rw [mI_si, if_pos ⟨rfl, rfl⟩], (nx + 1) % 10, by omega, by rw [mI_si, if_neg (by omega), mI_si, if_pos ⟨rfl, rfl⟩], fun j hj => ?_⟩
    have old : ∀ i, i < n → ¬ (n = 10 ∧ i = 0) → SC (msi (msi h1 62 1 (nI ((nx + 1) % 10))) 62 2 (nI (nn n))) (sl nx n i) (H i).1 (H i).2 := by
      intro i hi hne
      have : SC h1 (sl nx n i) (H i).1 (H i).2 := by
        refine (b5 i hi).fr fcp (fun x k z => by unfold im; omega) (fun x k z => by unfold im; omega) ?_ ?_ ?_ ?_
        all_goals (unfold sl; omega)
      refine this.fi f2i (fun x k z => by unfold im; omega) ?_ ?_
      all_goals (unfold sl; omega)
    have new : SC (msi (msi h1 62 1 (nI ((nx + 1) % 10))) 62 2 (nI (nn n))) (64 + 3 * nx) K O := sc1.fi f2i (fun x k z => by unfold im; omega) (by omega) (fun i => by omega)
    by_cases hz : n < 10
    · have hj' : j < n + 1 := by rw [nn_lt hz] at hj; exact hj
      have en : nn n = n + 1 := nn_lt hz
      by_cases hy : j = n
      · have e : sl ((nx + 1) % 10) (nn n) j = 64 + 3 * nx := by rw [en]; unfold sl; omega
        rw [e, hy, nh_n hz]
        exact new
      · have e : sl ((nx + 1) % 10) (nn n) j = sl nx n j := by rw [en]; unfold sl; omega
        rw [e, nh_o hz hy]
        exact old j (by omega) (by omega)
    · have en : nn n = 10 := nn_ge hz
      have hj' : j < 10 := by rw [en] at hj; exact hj
      have hn : n = 10 := by omega
      by_cases hy : j = 9
      · have e : sl ((nx + 1) % 10) (nn n) j = 64 + 3 * nx := by rw [en]; unfold sl; omega
        rw [e, hy, nh_9 hz]
        exact new
      · have e : sl ((nx + 1) % 10) (nn n) j = sl nx n (j + 1) := by rw [en, hn]; unfold sl; omega
        rw [e, nh_p hz hy]
        exact old (j + 1) (by omega) (by omega)
-- the reference
theorem s_notes_29 (d : Nat) {n : Nat} (hn : n < 10) : ∀ j k, k + j = 809 → ∀ g, Lay g → mI g 128 3 = nI n → (∀ i, i < k → mI g 130 (809 * n + i) = mI g 129 i) → ∃ g', N_notes_29 d 128 (nI k) g = some (none, g') ∧ Fi (fun x i => (x = 130 ∧ 809 * n ≤ i ∧ i < 809 * n + 809) ∨ (x = 128 ∧ i = 3)) g g' ∧ mI g' 128 3 = nI (n + 1) ∧ ∀ i, i < 809 → mI g' 130 (809 * n + i) = mI g 129 i := by
  intro j
  induction j with
  | zero =>
    intro k hk g hL h3 hi
    obtain rfl : k = 809 := by omega
    refine ⟨msi g 128 3 (nI (n + 1)), ?_, Fi.si (Or.inr ⟨rfl, rfl⟩), by rw [mI_si, if_pos ⟨rfl, rfl⟩], fun i h1 => by rw [mI_si, if_neg (by omega)]; exact hi i h1⟩
    rw [e_N_notes_29]
    repeat (first | with_reducible refine hE ?_ | with_reducible refine hLi ?_ | (with_reducible apply hT; · (first | omega | (simp (disch := omega) only [lk_128 hL, h3, qadd, qmul, qcl, qle, qlt, qeq, qlt0, q0le, qeq0, qle0, q0lt, true_or, or_true, false_or, or_false, true_and, and_true, false_and, and_false, eq_self, not_true_eq_false, not_false_eq_true, qz0, qz1, q00, q01, q10, q11, zb_z, zb_0, zb_1, zor, Bool.true_eq_false, Bool.false_eq_true, Bool.and_true, Bool.and_false, Bool.true_and, Bool.false_and, Bool.or_true, Bool.or_false, Bool.true_or, Bool.false_or, decide_eq_true_eq, decide_eq_false_iff_not, reduceCtorEq]; done) | (simp (disch := omega) only [lk_128 hL, h3, qadd, qmul, qcl, qle, qlt, qeq, qlt0, q0le, qeq0, qle0, q0lt, true_or, or_true, false_or, or_false, true_and, and_true, false_and, and_false, eq_self, not_true_eq_false, not_false_eq_true, qz0, qz1, q00, q01, q10, q11, zb_z, zb_0, zb_1, zor, Bool.true_eq_false, Bool.false_eq_true, Bool.and_true, Bool.and_false, Bool.true_and, Bool.false_and, Bool.or_true, Bool.or_false, Bool.true_or, Bool.false_or, decide_eq_true_eq, decide_eq_false_iff_not, reduceCtorEq]; omega))) | (with_reducible apply hF; · (first | omega | (simp (disch := omega) only [lk_128 hL, h3, qadd, qmul, qcl, qle, qlt, qeq, qlt0, q0le, qeq0, qle0, q0lt, true_or, or_true, false_or, or_false, true_and, and_true, false_and, and_false, eq_self, not_true_eq_false, not_false_eq_true, qz0, qz1, q00, q01, q10, q11, zb_z, zb_0, zb_1, zor, Bool.true_eq_false, Bool.false_eq_true, Bool.and_true, Bool.and_false, Bool.true_and, Bool.false_and, Bool.or_true, Bool.or_false, Bool.true_or, Bool.false_or, decide_eq_true_eq, decide_eq_false_iff_not, reduceCtorEq]; done) | (simp (disch := omega) only [lk_128 hL, h3, qadd, qmul, qcl, qle, qlt, qeq, qlt0, q0le, qeq0, qle0, q0lt, true_or, or_true, false_or, or_false, true_and, and_true, false_and, and_false, eq_self, not_true_eq_false, not_false_eq_true, qz0, qz1, q00, q01, q10, q11, zb_z, zb_0, zb_1, zor, Bool.true_eq_false, Bool.false_eq_true, Bool.and_true, Bool.and_false, Bool.true_and, Bool.false_and, Bool.or_true, Bool.or_false, Bool.true_or, Bool.false_or, decide_eq_true_eq, decide_eq_false_iff_not, reduceCtorEq]; omega))))
    simp (disch := omega) only [h3, qadd, qmul, qcl, qle, qlt, qeq, qlt0, q0le, qeq0, qle0, q0lt]
  | succ j ih =>
    intro k hk g hL h3 hi
    have f1 : Fi (fun x i => (x = 130 ∧ 809 * n ≤ i ∧ i < 809 * n + 809) ∨ (x = 128 ∧ i = 3)) g (msi g 130 (809 * n + k) (mI g 129 k)) := Fi.si (Or.inl ⟨rfl, by omega, by omega⟩)
    obtain ⟨g', e', f', c', i'⟩ := ih (k + 1) (by omega) _ (f1.lay hL) (by rw [mI_si, if_neg (by omega)]; exact h3) (fun i h1 => by
      rw [mI_si, mI_si, if_neg (show ¬ (129 = 130 ∧ i = 809 * n + k) by omega)]
      by_cases z : i = k
      · rw [if_pos (by omega), z]
      · rw [if_neg (by omega)]
        exact hi i (by omega))
    refine ⟨g', ?_, f1.tr f', c', fun i h1 => ?_⟩
    · rw [← e', e_N_notes_29]
      repeat (first | with_reducible refine hE ?_ | with_reducible refine hLi ?_ | (with_reducible apply hT; · (first | omega | (simp (disch := omega) only [lk_128 hL, lp_128_1 hL, lp_128_2 hL, lk_129 hL, ln_129 hL, lk_130 hL, ln_130 hL, h3, qadd, qmul, qcl, qle, qlt, qeq, qlt0, q0le, qeq0, qle0, q0lt, true_or, or_true, false_or, or_false, true_and, and_true, false_and, and_false, eq_self, not_true_eq_false, not_false_eq_true, qz0, qz1, q00, q01, q10, q11, zb_z, zb_0, zb_1, zor, Bool.true_eq_false, Bool.false_eq_true, Bool.and_true, Bool.and_false, Bool.true_and, Bool.false_and, Bool.or_true, Bool.or_false, Bool.true_or, Bool.false_or, decide_eq_true_eq, decide_eq_false_iff_not, reduceCtorEq]; done) | (simp (disch := omega) only [lk_128 hL, lp_128_1 hL, lp_128_2 hL, lk_129 hL, ln_129 hL, lk_130 hL, ln_130 hL, h3, qadd, qmul, qcl, qle, qlt, qeq, qlt0, q0le, qeq0, qle0, q0lt, true_or, or_true, false_or, or_false, true_and, and_true, false_and, and_false, eq_self, not_true_eq_false, not_false_eq_true, qz0, qz1, q00, q01, q10, q11, zb_z, zb_0, zb_1, zor, Bool.true_eq_false, Bool.false_eq_true, Bool.and_true, Bool.and_false, Bool.true_and, Bool.false_and, Bool.or_true, Bool.or_false, Bool.true_or, Bool.false_or, decide_eq_true_eq, decide_eq_false_iff_not, reduceCtorEq]; omega))) | (with_reducible apply hF; · (first | omega | (simp (disch := omega) only [lk_128 hL, lp_128_1 hL, lp_128_2 hL, lk_129 hL, ln_129 hL, lk_130 hL, ln_130 hL, h3, qadd, qmul, qcl, qle, qlt, qeq, qlt0, q0le, qeq0, qle0, q0lt, true_or, or_true, false_or, or_false, true_and, and_true, false_and, and_false, eq_self, not_true_eq_false, not_false_eq_true, qz0, qz1, q00, q01, q10, q11, zb_z, zb_0, zb_1, zor, Bool.true_eq_false, Bool.false_eq_true, Bool.and_true, Bool.and_false, Bool.true_and, Bool.false_and, Bool.or_true, Bool.or_false, Bool.true_or, Bool.false_or, decide_eq_true_eq, decide_eq_false_iff_not, reduceCtorEq]; done) | (simp (disch := omega) only [lk_128 hL, lp_128_1 hL, lp_128_2 hL, lk_129 hL, ln_129 hL, lk_130 hL, ln_130 hL, h3, qadd, qmul, qcl, qle, qlt, qeq, qlt0, q0le, qeq0, qle0, q0lt, true_or, or_true, false_or, or_false, true_and, and_true, false_and, and_false, eq_self, not_true_eq_false, not_false_eq_true, qz0, qz1, q00, q01, q10, q11, zb_z, zb_0, zb_1, zor, Bool.true_eq_false, Bool.false_eq_true, Bool.and_true, Bool.and_false, Bool.true_and, Bool.false_and, Bool.or_true, Bool.or_false, Bool.true_or, Bool.false_or, decide_eq_true_eq, decide_eq_false_iff_not, reduceCtorEq]; omega))))
      simp (disch := omega) only [lp_128_1 hL, lp_128_2 hL, h3, qadd, qmul, qcl, qle, qlt, qeq, qlt0, q0le, qeq0, qle0, q0lt]
    · rw [i' i h1, mI_si, if_neg (by omega)]
theorem s_notes_6 (d : Nat) : ∀ j k, k + j = 7281 → ∀ g, Lay g → mI g 128 3 = nI 10 → ∃ g', N_notes_6 d 128 (nI k) g = N_notes_29 d 128 (nI 0) g' ∧ Fi (fun x i => x = 130 ∨ (x = 128 ∧ i = 3)) g g' ∧ mI g' 128 3 = nI 9 ∧ (∀ i, k ≤ i → i < 7281 → mI g' 130 i = mI g 130 (809 + i)) ∧ ∀ i, i < k → mI g' 130 i = mI g 130 i := by
  intro j
  induction j with
  | zero =>
    intro k hk g hL h3
    obtain rfl : k = 7281 := by omega
    refine ⟨msi g 128 3 (nI 9), ?_, Fi.si (Or.inr ⟨rfl, rfl⟩), by rw [mI_si, if_pos ⟨rfl, rfl⟩], fun i h1 h2 => by omega, fun i h1 => by rw [mI_si, if_neg (by omega)]⟩
    rw [e_N_notes_6]
    repeat (first | with_reducible refine hE ?_ | with_reducible refine hLi ?_ | (with_reducible apply hT; · (first | omega | (simp (disch := omega) only [lk_128 hL, h3, qadd, qmul, qcl, qle, qlt, qeq, qlt0, q0le, qeq0, qle0, q0lt, true_or, or_true, false_or, or_false, true_and, and_true, false_and, and_false, eq_self, not_true_eq_false, not_false_eq_true, qz0, qz1, q00, q01, q10, q11, zb_z, zb_0, zb_1, zor, Bool.true_eq_false, Bool.false_eq_true, Bool.and_true, Bool.and_false, Bool.true_and, Bool.false_and, Bool.or_true, Bool.or_false, Bool.true_or, Bool.false_or, decide_eq_true_eq, decide_eq_false_iff_not, reduceCtorEq]; done) | (simp (disch := omega) only [lk_128 hL, h3, qadd, qmul, qcl, qle, qlt, qeq, qlt0, q0le, qeq0, qle0, q0lt, true_or, or_true, false_or, or_false, true_and, and_true, false_and, and_false, eq_self, not_true_eq_false, not_false_eq_true, qz0, qz1, q00, q01, q10, q11, zb_z, zb_0, zb_1, zor, Bool.true_eq_false, Bool.false_eq_true, Bool.and_true, Bool.and_false, Bool.true_and, Bool.false_and, Bool.or_true, Bool.or_false, Bool.true_or, Bool.false_or, decide_eq_true_eq, decide_eq_false_iff_not, reduceCtorEq]; omega))) | (with_reducible apply hF; · (first | omega | (simp (disch := omega) only [lk_128 hL, h3, qadd, qmul, qcl, qle, qlt, qeq, qlt0, q0le, qeq0, qle0, q0lt, true_or, or_true, false_or, or_false, true_and, and_true, false_and, and_false, eq_self, not_true_eq_false, not_false_eq_true, qz0, qz1, q00, q01, q10, q11, zb_z, zb_0, zb_1, zor, Bool.true_eq_false, Bool.false_eq_true, Bool.and_true, Bool.and_false, Bool.true_and, Bool.false_and, Bool.or_true, Bool.or_false, Bool.true_or, Bool.false_or, decide_eq_true_eq, decide_eq_false_iff_not, reduceCtorEq]; done) | (simp (disch := omega) only [lk_128 hL, h3, qadd, qmul, qcl, qle, qlt, qeq, qlt0, q0le, qeq0, qle0, q0lt, true_or, or_true, false_or, or_false, true_and, and_true, false_and, and_false, eq_self, not_true_eq_false, not_false_eq_true, qz0, qz1, q00, q01, q10, q11, zb_z, zb_0, zb_1, zor, Bool.true_eq_false, Bool.false_eq_true, Bool.and_true, Bool.and_false, Bool.true_and, Bool.false_and, Bool.or_true, Bool.or_false, Bool.true_or, Bool.false_or, decide_eq_true_eq, decide_eq_false_iff_not, reduceCtorEq]; omega))))
    rw [h3, qsub (by decide)]
  | succ j ih =>
    intro k hk g hL h3
    have f1 : Fi (fun x i => x = 130 ∨ (x = 128 ∧ i = 3)) g (msi g 130 k (mI g 130 (809 + k))) := Fi.si (Or.inl rfl)
    obtain ⟨g', e', f', c', i', j'⟩ := ih (k + 1) (by omega) _ (f1.lay hL) (by rw [mI_si, if_neg (by omega)]; exact h3)
    refine ⟨g', ?_, f1.tr f', c', fun i h1 h2 => ?_, fun i h1 => ?_⟩
    · rw [← e', e_N_notes_6]
      repeat (first | with_reducible refine hE ?_ | with_reducible refine hLi ?_ | (with_reducible apply hT; · (first | omega | (simp (disch := omega) only [lk_128 hL, lp_128_2 hL, lk_130 hL, ln_130 hL, qadd, qmul, qcl, qle, qlt, qeq, qlt0, q0le, qeq0, qle0, q0lt, true_or, or_true, false_or, or_false, true_and, and_true, false_and, and_false, eq_self, not_true_eq_false, not_false_eq_true, qz0, qz1, q00, q01, q10, q11, zb_z, zb_0, zb_1, zor, Bool.true_eq_false, Bool.false_eq_true, Bool.and_true, Bool.and_false, Bool.true_and, Bool.false_and, Bool.or_true, Bool.or_false, Bool.true_or, Bool.false_or, decide_eq_true_eq, decide_eq_false_iff_not, reduceCtorEq]; done) | (simp (disch := omega) only [lk_128 hL, lp_128_2 hL, lk_130 hL, ln_130 hL, qadd, qmul, qcl, qle, qlt, qeq, qlt0, q0le, qeq0, qle0, q0lt, true_or, or_true, false_or, or_false, true_and, and_true, false_and, and_false, eq_self, not_true_eq_false, not_false_eq_true, qz0, qz1, q00, q01, q10, q11, zb_z, zb_0, zb_1, zor, Bool.true_eq_false, Bool.false_eq_true, Bool.and_true, Bool.and_false, Bool.true_and, Bool.false_and, Bool.or_true, Bool.or_false, Bool.true_or, Bool.false_or, decide_eq_true_eq, decide_eq_false_iff_not, reduceCtorEq]; omega))) | (with_reducible apply hF; · (first | omega | (simp (disch := omega) only [lk_128 hL, lp_128_2 hL, lk_130 hL, ln_130 hL, qadd, qmul, qcl, qle, qlt, qeq, qlt0, q0le, qeq0, qle0, q0lt, true_or, or_true, false_or, or_false, true_and, and_true, false_and, and_false, eq_self, not_true_eq_false, not_false_eq_true, qz0, qz1, q00, q01, q10, q11, zb_z, zb_0, zb_1, zor, Bool.true_eq_false, Bool.false_eq_true, Bool.and_true, Bool.and_false, Bool.true_and, Bool.false_and, Bool.or_true, Bool.or_false, Bool.true_or, Bool.false_or, decide_eq_true_eq, decide_eq_false_iff_not, reduceCtorEq]; done) | (simp (disch := omega) only [lk_128 hL, lp_128_2 hL, lk_130 hL, ln_130 hL, qadd, qmul, qcl, qle, qlt, qeq, qlt0, q0le, qeq0, qle0, q0lt, true_or, or_true, false_or, or_false, true_and, and_true, false_and, and_false, eq_self, not_true_eq_false, not_false_eq_true, qz0, qz1, q00, q01, q10, q11, zb_z, zb_0, zb_1, zor, Bool.true_eq_false, Bool.false_eq_true, Bool.and_true, Bool.and_false, Bool.true_and, Bool.false_and, Bool.or_true, Bool.or_false, Bool.true_or, Bool.false_or, decide_eq_true_eq, decide_eq_false_iff_not, reduceCtorEq]; omega))))
      simp (disch := omega) only [lp_128_2 hL, qadd, qmul, qcl, qle, qlt, qeq, qlt0, q0le, qeq0, qle0, q0lt]
    · by_cases z : i = k
      · rw [z, j' k (by omega), mI_si, if_pos ⟨rfl, rfl⟩]
      · rw [i' i (by omega) h2, mI_si, if_neg (by omega)]
    · rw [j' i (by omega), mI_si, if_neg (by omega)]
def Wnn (x i : Nat) : Prop := x = 130 ∨ (x = 128 ∧ i = 3)
theorem s_notes {g : mh} {K : Ks} {O : List Nat} {n : Nat} {H : Sh} (r : RM g K) (o : OM g O) (b : HD g n H) (d : Nat) : ∃ g', N_notes (d + 1) 128 g = some (none, g') ∧ Fi Wnn g g' ∧ HD g' (nn n) (nh n H (K, O)) := by
  have hL := r.1
  obtain ⟨b1, b2, b3⟩ := b
  have sn := r.sn o
  by_cases hz : n < 10
  · obtain ⟨g', e', f', c', i'⟩ := s_notes_29 d hz 809 0 rfl g hL b2 (fun i hi => by omega)
    refine ⟨g', ?_, f'.mo (fun x k z => by unfold Wnn; omega), ?_⟩
    · rw [e_N_notes]
      repeat (first | with_reducible refine hE ?_ | with_reducible refine hLi ?_ | (with_reducible apply hT; · (first | omega | (simp (disch := omega) only [lk_128 hL, b2, qadd, qmul, qcl, qle, qlt, qeq, qlt0, q0le, qeq0, qle0, q0lt, true_or, or_true, false_or, or_false, true_and, and_true, false_and, and_false, eq_self, not_true_eq_false, not_false_eq_true, qz0, qz1, q00, q01, q10, q11, zb_z, zb_0, zb_1, zor, Bool.true_eq_false, Bool.false_eq_true, Bool.and_true, Bool.and_false, Bool.true_and, Bool.false_and, Bool.or_true, Bool.or_false, Bool.true_or, Bool.false_or, decide_eq_true_eq, decide_eq_false_iff_not, reduceCtorEq]; done) | (simp (disch := omega) only [lk_128 hL, b2, qadd, qmul, qcl, qle, qlt, qeq, qlt0, q0le, qeq0, qle0, q0lt, true_or, or_true, false_or, or_false, true_and, and_true, false_and, and_false, eq_self, not_true_eq_false, not_false_eq_true, qz0, qz1, q00, q01, q10, q11, zb_z, zb_0, zb_1, zor, Bool.true_eq_false, Bool.false_eq_true, Bool.and_true, Bool.and_false, Bool.true_and, Bool.false_and, Bool.or_true, Bool.or_false, Bool.true_or, Bool.false_or, decide_eq_true_eq, decide_eq_false_iff_not, reduceCtorEq]; omega))) | (with_reducible apply hF; · (first | omega | (simp (disch := omega) only [lk_128 hL, b2, qadd, qmul, qcl, qle, qlt, qeq, qlt0, q0le, qeq0, qle0, q0lt, true_or, or_true, false_or, or_false, true_and, and_true, false_and, and_false, eq_self, not_true_eq_false, not_false_eq_true, qz0, qz1, q00, q01, q10, q11, zb_z, zb_0, zb_1, zor, Bool.true_eq_false, Bool.false_eq_true, Bool.and_true, Bool.and_false, Bool.true_and, Bool.false_and, Bool.or_true, Bool.or_false, Bool.true_or, Bool.false_or, decide_eq_true_eq, decide_eq_false_iff_not, reduceCtorEq]; done) | (simp (disch := omega) only [lk_128 hL, b2, qadd, qmul, qcl, qle, qlt, qeq, qlt0, q0le, qeq0, qle0, q0lt, true_or, or_true, false_or, or_false, true_and, and_true, false_and, and_false, eq_self, not_true_eq_false, not_false_eq_true, qz0, qz1, q00, q01, q10, q11, zb_z, zb_0, zb_1, zor, Bool.true_eq_false, Bool.false_eq_true, Bool.and_true, Bool.and_false, Bool.true_and, Bool.false_and, Bool.or_true, Bool.or_false, Bool.true_or, Bool.false_or, decide_eq_true_eq, decide_eq_false_iff_not, reduceCtorEq]; omega))))
      exact e'
    · rw [nn_lt hz]
      refine ⟨by omega, c', fun j hj => ?_⟩
      by_cases hy : j = n
      · rw [hy, nh_n hz]
        exact sn.eq (fun i hi => by rw [i' i hi, Nat.zero_add])
      · rw [nh_o hz hy]
        exact (b3 j (by omega)).eq (fun i hi => f'.2 _ _ (by omega))
  · obtain rfl : n = 10 := by omega
    obtain ⟨g1, e1, f1, c1, i1, -⟩ := s_notes_6 d 7281 0 rfl g hL b2
    have hL1 := f1.lay hL
    obtain ⟨g', e', f', c', i'⟩ := s_notes_29 d (show 9 < 10 by decide) 809 0 rfl g1 hL1 c1 (fun i hi => by omega)
    refine ⟨g', ?_, (f1.tr (f'.mo (fun x k z => by omega))).mo (fun x k z => z), ?_⟩
    · rw [e_N_notes]
      repeat (first | with_reducible refine hE ?_ | with_reducible refine hLi ?_ | (with_reducible apply hT; · (first | omega | (simp (disch := omega) only [lk_128 hL, b2, qadd, qmul, qcl, qle, qlt, qeq, qlt0, q0le, qeq0, qle0, q0lt, true_or, or_true, false_or, or_false, true_and, and_true, false_and, and_false, eq_self, not_true_eq_false, not_false_eq_true, qz0, qz1, q00, q01, q10, q11, zb_z, zb_0, zb_1, zor, Bool.true_eq_false, Bool.false_eq_true, Bool.and_true, Bool.and_false, Bool.true_and, Bool.false_and, Bool.or_true, Bool.or_false, Bool.true_or, Bool.false_or, decide_eq_true_eq, decide_eq_false_iff_not, reduceCtorEq]; done) | (simp (disch := omega) only [lk_128 hL, b2, qadd, qmul, qcl, qle, qlt, qeq, qlt0, q0le, qeq0, qle0, q0lt, true_or, or_true, false_or, or_false, true_and, and_true, false_and, and_false, eq_self, not_true_eq_false, not_false_eq_true, qz0, qz1, q00, q01, q10, q11, zb_z, zb_0, zb_1, zor, Bool.true_eq_false, Bool.false_eq_true, Bool.and_true, Bool.and_false, Bool.true_and, Bool.false_and, Bool.or_true, Bool.or_false, Bool.true_or, Bool.false_or, decide_eq_true_eq, decide_eq_false_iff_not, reduceCtorEq]; omega))) | (with_reducible apply hF; · (first | omega | (simp (disch := omega) only [lk_128 hL, b2, qadd, qmul, qcl, qle, qlt, qeq, qlt0, q0le, qeq0, qle0, q0lt, true_or, or_true, false_or, or_false, true_and, and_true, false_and, and_false, eq_self, not_true_eq_false, not_false_eq_true, qz0, qz1, q00, q01, q10, q11, zb_z, zb_0, zb_1, zor, Bool.true_eq_false, Bool.false_eq_true, Bool.and_true, Bool.and_false, Bool.true_and, Bool.false_and, Bool.or_true, Bool.or_false, Bool.true_or, Bool.false_or, decide_eq_true_eq, decide_eq_false_iff_not, reduceCtorEq]; done) | (simp (disch := omega) only [lk_128 hL, b2, qadd, qmul, qcl, qle, qlt, qeq, qlt0, q0le, qeq0, qle0, q0lt, true_or, or_true, false_or, or_false, true_and, and_true, false_and, and_false, eq_self, not_true_eq_false, not_false_eq_true, qz0, qz1, q00, q01, q10, q11, zb_z, zb_0, zb_1, zor, Bool.true_eq_false, Bool.false_eq_true, Bool.and_true, Bool.and_false, Bool.true_and, Bool.false_and, Bool.or_true, Bool.or_false, Bool.true_or, Bool.false_or, decide_eq_true_eq, decide_eq_false_iff_not, reduceCtorEq]; omega))))
      exact e1.trans e'
    · rw [nn_ge hz]
      refine ⟨by omega, c', fun j hj => ?_⟩
      by_cases hy : j = 9
      · rw [hy, nh_9 hz]
        exact sn.eq (fun i hi => by rw [i' i hi, Nat.zero_add, f1.2 _ _ (by omega)])
      · rw [nh_p hz hy]
        exact (b3 (j + 1) (by omega)).eq (fun i hi => by rw [f'.2 _ _ (by omega), i1 _ (by omega) (by omega)]; congr 1; omega)
