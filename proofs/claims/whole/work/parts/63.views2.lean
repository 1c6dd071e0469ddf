/-! ===== all that the two systems hold, each by itself ===== -/
/-- the class's state at s -/
def SC (h : mh) (s : Nat) (K : Ks) (O : List Nat) : Prop := (∀ k, k < 24 → (K k = none ∧ mP h (s + 1) k = 0) ∨ ∃ cs, K k = some cs ∧ WF cs ∧ CW h (mP h (s + 1) k) cs) ∧ O.length ≤ 8 ∧ mI h s 2 = nI O.length ∧ ∀ i, i < O.length → cd O i < 40 ∧ mI h (s + 2) i = nI (cd O i)
/-- the reference's bank -/
def SN (h : mh) (arr off : Nat) (K : Ks) (O : List Nat) : Prop := (∀ k, k < 24 → (K k = none ∧ mI h arr (off + 32 * k) = nI 0) ∨ ∃ cs, K k = some cs ∧ WF cs ∧ MC h arr off k cs) ∧ O.length ≤ 8 ∧ mI h arr (off + 800) = nI O.length ∧ ∀ i, i < O.length → cd O i < 40 ∧ mI h arr (off + 801 + i) = nI (cd O i)
theorem SC.fr {W V : Nat → Nat → Prop} {h h' : mh} {s : Nat} {K : Ks} {O : List Nat} (b : SC h s K O) (f : Fc W V h h') (hw : ∀ x k, W x k → ¬ im x) (hv : ∀ x k, V x k → ¬ im x) (h1 : s + 2 < mT h) (n1 : ¬ W s 2) (n2 : ∀ i, ¬ W (s + 2) i) (n3 : ∀ k, ¬ V (s + 1) k) : SC h' s K O := by
  obtain ⟨b1, b2, b3, b4⟩ := b
  refine ⟨fun k hk => ?_, b2, ?_, fun i hi => ?_⟩
  · rw [f.2.1 (s + 1) k (by omega) (n3 k)]
    rcases b1 k hk with z | ⟨cs, z1, z2, z3⟩
    · exact Or.inl z
    · exact Or.inr ⟨cs, z1, z2, z3.fr f hw hv⟩
  · rw [f.1 s 2 (by omega) n1]; exact b3
  · exact ⟨(b4 i hi).1, by rw [f.1 (s + 2) i (by omega) (n2 i)]; exact (b4 i hi).2⟩
theorem SC.kp {h : mh} {s : Nat} {K : Ks} {O : List Nat} (b : SC h s K O) : ∀ k, k < 24 → mP h (s + 1) k = 0 ∨ mK h (mP h (s + 1) k) = 1 := by
  intro k hk
  rcases b.1 k hk with z | ⟨cs, _, _, z⟩
  · exact Or.inl z.2
  · exact Or.inr z.1
theorem SN.eq {h h' : mh} {arr off arr' off' : Nat} {K : Ks} {O : List Nat} (b : SN h arr off K O) (e : ∀ j, j < 809 → mI h' arr' (off' + j) = mI h arr (off + j)) : SN h' arr' off' K O := by
  obtain ⟨b1, b2, b3, b4⟩ := b
  refine ⟨fun k hk => ?_, b2, ?_, fun i hi => ?_⟩
  · rcases b1 k hk with ⟨z1, z2⟩ | ⟨cs, z1, z2, z3, z4, z5⟩
    · exact Or.inl ⟨z1, by rw [e _ (by omega)]; exact z2⟩
    · have := z2.2.1
      refine Or.inr ⟨cs, z1, z2, ?_, ?_, fun i hi => ?_⟩
      · rw [e _ (by omega)]; exact z3
      · rw [Nat.add_assoc, e _ (by omega), ← Nat.add_assoc]; exact z4
      · rw [Nat.add_assoc, Nat.add_assoc, e _ (by omega), ← Nat.add_assoc, ← Nat.add_assoc]; exact z5 i hi
  · rw [e _ (by omega)]; exact b3
  · refine ⟨(b4 i hi).1, ?_⟩
    rw [Nat.add_assoc, e _ (by omega), ← Nat.add_assoc]; exact (b4 i hi).2
theorem MC.eq {h h' : mh} {arr off arr' off' k k' : Nat} {cs : List Nat} (m : MC h arr off k cs) (hl : cs.length ≤ 30) (e : ∀ j, j < 32 → mI h' arr' (off' + 32 * k' + j) = mI h arr (off + 32 * k + j)) : MC h' arr' off' k' cs := by
  obtain ⟨z3, z4, z5⟩ := m
  refine ⟨?_, ?_, fun i hi => ?_⟩
  · have := e 0 (by omega)
    rw [Nat.add_zero, Nat.add_zero] at this
    rw [this]; exact z3
  · rw [e 1 (by omega)]; exact z4
  · rw [Nat.add_assoc, e (2 + i) (by omega), ← Nat.add_assoc]; exact z5 i hi
theorem RC.sc {h : mh} {K : Ks} {O : List Nat} (r : RC h K) (o : OC h O) : SC h 104 K O := by
  refine ⟨fun k hk => ?_, o.1, o.2.1, o.2.2⟩
  have := r.2 k (by omega)
  unfold cp at this
  rwa [if_neg (by omega)] at this
theorem RC.of {h : mh} {K : Ks} {O : List Nat} (hL : Lay h) (s : SC h 104 K O) {cs : List Nat} (hq : K 24 = some cs) (w : WF cs) (c : CW h (mP h 3 13) cs) : RC h K ∧ OC h O := by
  refine ⟨⟨hL, fun k hk => ?_⟩, s.2⟩
  unfold cp
  by_cases z : k = 24
  · subst z
    rw [if_pos rfl]
    exact Or.inr ⟨cs, hq, w, c⟩
  · rw [if_neg z]
    exact s.1 k (by omega)
theorem RM.sn {h : mh} {K : Ks} {O : List Nat} (r : RM h K) (o : OM h O) : SN h 129 0 K O := by
  refine ⟨fun k hk => ?_, o.1, ?_, fun i hi => ?_⟩
  · rw [Nat.zero_add]
    exact r.2 k (by omega)
  · rw [Nat.zero_add]; exact o.2.1
  · rw [Nat.zero_add]; exact o.2.2 i hi
theorem RM.of {h : mh} {K : Ks} {O : List Nat} (hL : Lay h) (s : SN h 129 0 K O) {cs : List Nat} (hq : K 24 = some cs) (w : WF cs) (c : MC h 129 0 24 cs) : RM h K ∧ OM h O := by
  obtain ⟨b1, b2, b3, b4⟩ := s
  rw [Nat.zero_add] at b3
  refine ⟨⟨hL, fun k hk => ?_⟩, b2, b3, fun i hi => ?_⟩
  · by_cases z : k = 24
    · subst z
      exact Or.inr ⟨cs, hq, w, c⟩
    · have := b1 k (by omega)
      rwa [Nat.zero_add] at this
  · have := b4 i hi
    rwa [Nat.zero_add] at this
abbrev Sh : Type := Nat → Ks × List Nat
abbrev Im : Type := Nat → Option (Ks × List Nat)
/-- where the class's ring holds the j-th oldest of n states -/
def sl (nx n j : Nat) : Nat := 64 + 3 * ((nx + 10 - n + j) % 10)
def HC (h : mh) (n : Nat) (H : Sh) : Prop := n ≤ 10 ∧ mI h 62 2 = nI n ∧ ∃ nx, nx < 10 ∧ mI h 62 1 = nI nx ∧ ∀ j, j < n → SC h (sl nx n j) (H j).1 (H j).2
def HD (h : mh) (n : Nat) (H : Sh) : Prop := n ≤ 10 ∧ mI h 128 3 = nI n ∧ ∀ j, j < n → SN h 130 (809 * j) (H j).1 (H j).2
def IC (h : mh) (I : Im) : Prop := ∀ i, i < 2 → (I i = none ∧ mP h 108 i = 0) ∨ ∃ K O cs, I i = some (K, O) ∧ SC h (122 + 3 * i) K O ∧ K 24 = some cs ∧ WF cs ∧ CW h (mP h 108 i) cs
def IN (h : mh) (I : Im) : Prop := ∀ i, i < 2 → (I i = none ∧ mI h 131 i = nI 0) ∨ ∃ K O cs, I i = some (K, O) ∧ mI h 131 i = nI 1 ∧ SN h 129 (809 * (i + 1)) K O ∧ K 24 = some cs ∧ WF cs ∧ MC h 129 (809 * (i + 1)) 24 cs
def TC (h : mh) (T : List Nat) : Prop := T.length ≤ 100 ∧ mI h 4 2 = nI T.length ∧ ∀ i, i < T.length → cd T i < 256 ∧ mI h 5 i = nI (cd T i)
def TN (h : mh) (T : List Nat) : Prop := T.length ≤ 100 ∧ mI h 128 7 = nI T.length ∧ ∀ i, i < T.length → cd T i < 256 ∧ mI h 132 i = nI (cd T i)
/-- the class's two drafts -/
def DC0 (h : mh) : Prop := (mP h 3 11 = 110 ∧ mP h 3 12 = 113) ∨ (mP h 3 11 = 113 ∧ mP h 3 12 = 110)
/-- how many terms stand behind p, q, r, s -/
def ptm (i : Nat) : Nat := if i = 1 then 2 else if i = 2 then 0 else 1
def C2 (h : mh) : Prop := mK h 2 = 32 ∧ mN h 2 = 4 ∧ ∀ i, i < 4 → mI h 2 i = nI (ptm i)
def DC (h : mh) : Prop := DC0 h ∧ C2 h
theorem DC.fi {W : Nat → Nat → Prop} {h h' : mh} (t : DC h) (f : Fi W h h') (n1 : ∀ k, ¬ W 2 k) : DC h' := by
  refine ⟨?_, by rw [f.K]; exact t.2.1, by rw [f.N]; exact t.2.2.1, fun i hi => by rw [f.2 _ _ (n1 i)]; exact t.2.2.2 i hi⟩
  have := t.1
  unfold DC0 at this ⊢
  rw [f.P, f.P]
  exact this
def CS (h : mh) (K : Ks) (O : List Nat) (n : Nat) (H : Sh) (I : Im) (T : List Nat) (fk fp : Int32) : Prop := RC h K ∧ OC h O ∧ HC h n H ∧ IC h I ∧ TC h T ∧ mI h 4 5 = fk ∧ mI h 4 6 = fp ∧ RJ h K ∧ DC h ∧ (K 24).isSome = true
def NS (h : mh) (K : Ks) (O : List Nat) (n : Nat) (H : Sh) (I : Im) (T : List Nat) (fk fp : Int32) : Prop := RM h K ∧ OM h O ∧ HD h n H ∧ IN h I ∧ TN h T ∧ mI h 128 14 = fk ∧ mI h 128 15 = fp
/-- what the class may write; what the reference may write -/
def cw (a _k : Nat) : Prop := a < 128
def nw (a _k : Nat) : Prop := 128 ≤ a ∧ a ≤ 154
section
variable {h h' : mh} {K : Ks} {O : List Nat} {n : Nat} {H : Sh} {I : Im} {T : List Nat} {fk fp : Int32}
theorem SC.fi {W : Nat → Nat → Prop} {s : Nat} (b : SC h s K O) (f : Fi W h h') (hw : ∀ x k, W x k → ¬ im x) (n1 : ¬ W s 2) (n2 : ∀ i, ¬ W (s + 2) i) : SC h' s K O := by
  obtain ⟨b1, b2, b3, b4⟩ := b
  refine ⟨fun k hk => ?_, b2, ?_, fun i hi => ?_⟩
  · rw [f.P]
    rcases b1 k hk with z | ⟨cs, z1, z2, z3⟩
    · exact Or.inl z
    · exact Or.inr ⟨cs, z1, z2, z3.fi f hw⟩
  · rw [f.2 s 2 n1]; exact b3
  · exact ⟨(b4 i hi).1, by rw [f.2 (s + 2) i (n2 i)]; exact (b4 i hi).2⟩
theorem HC.fi {W : Nat → Nat → Prop} (b : HC h n H) (f : Fi W h h') (hw : ∀ x k, W x k → ¬ im x) (n1 : ∀ a k, 62 ≤ a → a ≤ 93 → ¬ W a k) : HC h' n H := by
  obtain ⟨b1, b2, nx, b3, b4, b5⟩ := b
  refine ⟨b1, by rw [f.2 _ _ (n1 _ _ (by omega) (by omega))]; exact b2, nx, b3, by rw [f.2 _ _ (n1 _ _ (by omega) (by omega))]; exact b4, fun j hj => (b5 j hj).fi f hw (n1 _ _ ?_ ?_) (fun i => n1 _ _ ?_ ?_)⟩
  all_goals (unfold sl; omega)
theorem IC.fi {W : Nat → Nat → Prop} (b : IC h I) (f : Fi W h h') (hw : ∀ x k, W x k → ¬ im x) (n1 : ∀ a k, 122 ≤ a → a ≤ 127 → ¬ W a k) : IC h' I := by
  intro i hi
  rw [f.P]
  rcases b i hi with z | ⟨K, O, cs, z1, z2, z3, z4, z5⟩
  · exact Or.inl z
  · exact Or.inr ⟨K, O, cs, z1, z2.fi f hw (n1 _ _ (by omega) (by omega)) (fun i => n1 _ _ (by omega) (by omega)), z3, z4, z5.fi f hw⟩
theorem TC.fi {W : Nat → Nat → Prop} (b : TC h T) (f : Fi W h h') (n1 : ¬ W 4 2) (n2 : ∀ k, ¬ W 5 k) : TC h' T := ⟨b.1, by rw [f.2 _ _ n1]; exact b.2.1, fun i hi => ⟨(b.2.2 i hi).1, by rw [f.2 _ _ (n2 i)]; exact (b.2.2 i hi).2⟩⟩
theorem TN.fi {W : Nat → Nat → Prop} (b : TN h T) (f : Fi W h h') (n1 : ¬ W 128 7) (n2 : ∀ k, ¬ W 132 k) : TN h' T := ⟨b.1, by rw [f.2 _ _ n1]; exact b.2.1, fun i hi => ⟨(b.2.2 i hi).1, by rw [f.2 _ _ (n2 i)]; exact (b.2.2 i hi).2⟩⟩
/-- a class's question keeps all but the relations -/
theorem CS.q (s : CS h K O n H I T fk fp) (f : Fi Wd h h') (rj : RJ h' K) : CS h' K O n H I T fk fp := by
  obtain ⟨s1, s2, s3, s4, s5, s6, s7, s8, s9, s10⟩ := s
  have nW : ∀ a k, ((a ≤ 8) ∨ (62 ≤ a ∧ a ≤ 93) ∨ (104 ≤ a ∧ a ≤ 108) ∨ 116 ≤ a) → ¬ Wd a k := fun a k z => by unfold Wd Wc; omega
  refine ⟨s1.fi f Wd_im, s2.fi f (nW _ _ (by omega)) (fun k => nW _ _ (by omega)), s3.fi f Wd_im (fun a k h1 h2 => nW _ _ (by omega)), s4.fi f Wd_im (fun a k h1 h2 => nW _ _ (by omega)), s5.fi f (nW _ _ (by omega)) (fun k => nW _ _ (by omega)), ?_, ?_, rj, ?_, s10⟩
  · rw [f.2 _ _ (nW _ _ (by omega))]; exact s6
  · rw [f.2 _ _ (nW _ _ (by omega))]; exact s7
  · exact s9.fi f (fun k => nW _ _ (by omega))
theorem CS.qc (s : CS h K O n H I T fk fp) (f : Fi Wc h h') : CS h' K O n H I T fk fp := s.q (Wc_d f) (s.2.2.2.2.2.2.2.1.c f)
theorem HD.fi {W : Nat → Nat → Prop} (b : HD h n H) (f : Fi W h h') (n1 : ¬ W 128 3) (n2 : ∀ k, ¬ W 130 k) : HD h' n H := ⟨b.1, by rw [f.2 _ _ n1]; exact b.2.1, fun j hj => (b.2.2 j hj).eq (fun i _ => f.2 _ _ (n2 _))⟩
theorem IN.fi {W : Nat → Nat → Prop} (b : IN h I) (f : Fi W h h') (n1 : ∀ k, ¬ W 131 k) (n2 : ∀ k, ¬ W 129 k) : IN h' I := by
  intro i hi
  rcases b i hi with ⟨z1, z2⟩ | ⟨K, O, cs, z1, z2, z3, z4, z5, z6⟩
  · exact Or.inl ⟨z1, by rw [f.2 _ _ (n1 i)]; exact z2⟩
  · exact Or.inr ⟨K, O, cs, z1, by rw [f.2 _ _ (n1 i)]; exact z2, z3.eq (fun j _ => f.2 _ _ (n2 _)), z4, z5, z6.eq z5.2.1 (fun j _ => f.2 _ _ (n2 _))⟩
theorem NS.q (s : NS h K O n H I T fk fp) (f : Fi Wm h h') : NS h' K O n H I T fk fp := by
  obtain ⟨s1, s2, s3, s4, s5, s6, s7⟩ := s
  have nW : ∀ a k, ((129 ≤ a ∧ a ≤ 132) ∨ (a = 128 ∧ (k = 3 ∨ k = 7 ∨ k = 14 ∨ k = 15))) → ¬ Wm a k := fun a k z => by unfold Wm; omega
  refine ⟨s1.fi f (fun k => nW _ _ (by omega)), s2.fi f (fun k => nW _ _ (by omega)), s3.fi f (nW _ _ (by omega)) (fun k => nW _ _ (by omega)), s4.fi f (fun k => nW _ _ (by omega)) (fun k => nW _ _ (by omega)), s5.fi f (nW _ _ (by omega)) (fun k => nW _ _ (by omega)), ?_, ?_⟩
  · rw [f.2 _ _ (nW _ _ (by omega))]; exact s6
  · rw [f.2 _ _ (nW _ _ (by omega))]; exact s7
/-- the class's work leaves the reference as it is -/
theorem NS.c (s : NS h K O n H I T fk fp) (f : Fc cw cw h h') (hL' : Lay h') : NS h' K O n H I T fk fp := by
  obtain ⟨s1, s2, s3, s4, s5, s6, s7⟩ := s
  have h3 := s1.1.2.2
  have e : ∀ a k, 128 ≤ a → a ≤ 154 → mI h' a k = mI h a k := fun a k h1 h2 => f.1 a k (by omega) (by unfold cw; omega)
  refine ⟨⟨hL', fun k hk => ?_⟩, ⟨s2.1, ?_, fun i hi => ⟨(s2.2.2 i hi).1, ?_⟩⟩, ⟨s3.1, ?_, fun j hj => (s3.2.2 j hj).eq (fun i _ => e _ _ (by omega) (by omega))⟩, fun i hi => ?_, ⟨s5.1, ?_, fun i hi => ⟨(s5.2.2 i hi).1, ?_⟩⟩, ?_, ?_⟩
  · rcases s1.2 k hk with ⟨z1, z2⟩ | ⟨cs, z1, z2, z3⟩
    · exact Or.inl ⟨z1, by rw [e _ _ (by omega) (by omega)]; exact z2⟩
    · exact Or.inr ⟨cs, z1, z2, z3.fr z2.2.1 (fun j _ _ => e _ _ (by omega) (by omega))⟩
  · rw [e _ _ (by omega) (by omega)]; exact s2.2.1
  · rw [e _ _ (by omega) (by omega)]; exact (s2.2.2 i hi).2
  · rw [e _ _ (by omega) (by omega)]; exact s3.2.1
  · rcases s4 i hi with ⟨z1, z2⟩ | ⟨K, O, cs, z1, z2, z3, z4, z5, z6⟩
    · exact Or.inl ⟨z1, by rw [e _ _ (by omega) (by omega)]; exact z2⟩
    · exact Or.inr ⟨K, O, cs, z1, by rw [e _ _ (by omega) (by omega)]; exact z2, z3.eq (fun j _ => e _ _ (by omega) (by omega)), z4, z5, z6.eq z5.2.1 (fun j _ => e _ _ (by omega) (by omega))⟩
  · rw [e _ _ (by omega) (by omega)]; exact s5.2.1
  · rw [e _ _ (by omega) (by omega)]; exact (s5.2.2 i hi).2
  · rw [e _ _ (by omega) (by omega)]; exact s6
  · rw [e _ _ (by omega) (by omega)]; exact s7
theorem nw_im (x k : Nat) (z : nw x k) : ¬ im x := by
  unfold nw at z
  unfold im
  omega
/-- the reference's work leaves the class as it is -/
theorem CS.ref (s : CS h K O n H I T fk fp) (f : Fi nw h h') : CS h' K O n H I T fk fp := by
  obtain ⟨s1, s2, s3, s4, s5, s6, s7, s8, s9, s10⟩ := s
  have nW : ∀ a k, a < 128 → ¬ nw a k := fun a k z => by unfold nw; omega
  refine ⟨s1.fi f nw_im, s2.fi f (nW _ _ (by omega)) (fun k => nW _ _ (by omega)), s3.fi f nw_im (fun a k h1 h2 => nW _ _ (by omega)), s4.fi f nw_im (fun a k h1 h2 => nW _ _ (by omega)), s5.fi f (nW _ _ (by omega)) (fun k => nW _ _ (by omega)), ?_, ?_, s8.fi f (fun a k z => nW _ _ (by omega)), ?_, s10⟩
  · rw [f.2 _ _ (nW _ _ (by omega))]; exact s6
  · rw [f.2 _ _ (nW _ _ (by omega))]; exact s7
  · exact s9.fi f (fun k => nW _ _ (by omega))
end
/-- one call of both: the same answer, both views again; at most six new cells of the class -/
def ST (C N : mh → Option mR) (h : mh) : Prop := ∃ v h1 h2, C h = some (some (vi v), h1) ∧ N h1 = some (some (vi v), h2) ∧ (∃ K O n H I T fk fp, CS h2 K O n H I T fk fp ∧ NS h2 K O n H I T fk fp) ∧ mT h2 ≤ mT h + 6 ∧ mU h2 ≤ mU h + 1000
theorem Wd_cw {h h' : mh} (f : Fi Wd h h') : Fc cw cw h h' := (f.mo (fun a k z => by unfold Wd Wc at z; unfold cw; omega) : Fi cw h h').c
theorem Wm_nw {h h' : mh} (f : Fi Wm h h') : Fi nw h h' := f.mo (fun a k z => by unfold Wm at z; unfold nw; omega)
section
variable {h : mh} {K : Ks} {O : List Nat} {n : Nat} {H : Sh} {I : Im} {T : List Nat} {fk fp : Int32}
theorem QR.st (c : CS h K O n H I T fk fp) (s : NS h K O n H I T fk fp) {C N : mh → Option mR} (q : ∀ g, RM g K → OM g O → QR K C N h g) : ST C N h := by
  obtain ⟨v, h1, g1, e1, f1, j1, -, -⟩ := q h s.1 s.2.1
  have c1 := c.q f1 j1
  have s1 := s.c (Wd_cw f1) c1.1.1
  obtain ⟨v', h1', g2, e1', -, -, e2, f2⟩ := q h1 s1.1 s1.2.1
  rw [e1] at e1'
  injection e1' with e1'
  injection e1' with a1 a2
  injection a1 with a1
  have a3 : v = v' := Sum.inl.inj a1
  subst a3
  exact ⟨v, h1, g2, e1, e2, ⟨K, O, n, H, I, T, fk, fp, c1.ref (Wm_nw f2), s1.q f2⟩, by rw [f2.T, f1.T]; omega, by rw [f2.U, f1.U]; omega⟩
theorem QQ.st (c : CS h K O n H I T fk fp) (s : NS h K O n H I T fk fp) {C N : mh → Option mR} (q : ∀ g, RM g K → OM g O → QQ C N h g) : ST C N h := by
  refine QR.st c s (fun g r o => ?_)
  obtain ⟨v, h1, g1, e1, f1, e2, f2⟩ := q g r o
  exact ⟨v, h1, g1, e1, Wc_d f1, c.2.2.2.2.2.2.2.1.c f1, e2, f2⟩
end
