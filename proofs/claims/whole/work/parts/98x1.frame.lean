/-! ===== what every operation leaves as it is: the script (made by wip/whole/gen_frame.py) ===== -/
def sm1 (h h' : mh) : Prop := 3 ≤ mT h → mK h 1 = 31 → mT h ≤ mT h' ∧ (∀ a, a < mT h → mK h' a = mK h a) ∧ mN h' 1 = mN h 1 ∧ ∀ j, mI h' 1 j = mI h 1 j
theorem sm1.rf (h : mh) : sm1 h h := fun _ _ => ⟨Nat.le_refl _, fun _ _ => rfl, rfl, fun _ => rfl⟩
theorem sm1.tr {h h1 h2 : mh} (a : sm1 h h1) (b : sm1 h1 h2) : sm1 h h2 := fun t k => by
  obtain ⟨a1, a2, a3, a4⟩ := a t k
  obtain ⟨b1, b2, b3, b4⟩ := b (by omega) (by rw [a2 1 (by omega)]; exact k)
  exact ⟨by omega, fun x hx => (b2 x (by omega)).trans (a2 x hx), b3.trans a3, fun j => (b4 j).trans (a4 j)⟩
theorem sm1.si {h : mh} {a k : Nat} {x : Int32} (n : mK h a ≠ 31) : sm1 h (msi h a k x) := fun t q => ⟨Nat.le_refl _, fun _ _ => rfl, rfl, fun j => by
  have : (1 : Nat) ≠ a := by
    rintro rfl
    exact n q
  rw [mI_si, if_neg (fun z => this z.1)]⟩
theorem sm1.sp {h : mh} {a k x : Nat} : sm1 h (msp h a k x) := fun _ _ => ⟨Nat.le_refl _, fun _ _ => rfl, rfl, fun _ => rfl⟩
theorem sm1.nw {h : mh} {K n : Nat} : sm1 h (mnw h K n) := fun t q => by
  have e : (1 : Nat) ≠ mT h := by omega
  refine ⟨by show mT h ≤ mT h + 1; omega, fun a ha => ?_, ?_, fun j => ?_⟩
  · show (if a = mT h then (K, n) else h.2.2.1 a).1 = mK h a
    rw [if_neg (by omega)]
    rfl
  · show (if 1 = mT h then (K, n) else h.2.2.1 1).2 = mN h 1
    rw [if_neg e]
    rfl
  · show (if 1 = mT h then 0 else h.1 1 j) = mI h 1 j
    rw [if_neg e]
    rfl
theorem sm1.nw2 {h : mh} {n k : Nat} : sm1 h (mnw2 h n k) := fun t q => by
  have e : ¬ (1 : Nat) = mT h := by omega
  have e2 : ¬ (mT h ≤ 1 ∧ 1 < mT h + 1 + n) := by omega
  have e3 : ¬ (mT h < 1 ∧ 1 < mT h + 1 + n) := by omega
  refine ⟨by show mT h ≤ mT h + 1 + n; omega, fun a ha => ?_, ?_, fun j => ?_⟩
  · have e4 : ¬ a = mT h := by omega
    have e5 : ¬ (mT h < a ∧ a < mT h + 1 + n) := by omega
    unfold mK mnw2
    simp only [if_neg e4, if_neg e5]
  · unfold mN mnw2
    simp only [if_neg e, if_neg e3]
  · unfold mI mnw2
    simp only [if_neg e2]
def mCf (C : mC) : Prop := ∀ (M : Nat) (as : List mv) (h : mh) (r : mR), C M as h = some r → sm1 h r.2
def mF (op : mO) : Prop := ∀ (C : mC), mCf C → ∀ (i : Nat) (L : List (Option mv)) (S : List mv) (h : mh) (k : mKt) (q : mR), (∀ i' L' S' h', k i' L' S' h' = some q → sm1 h' q.2) → op C i L S h k = some q → sm1 h q.2
def mAF : List mO → Prop
  | [] => True
  | a :: r => mF a ∧ mAF r
theorem mAF.c {a : mO} {r : List mO} (h1 : mF a) (h2 : mAF r) : mAF (a :: r) := ⟨h1, h2⟩
theorem mAF.n : mAF [] := trivial
theorem mAF.at : ∀ (l : List mO) (n : Nat) (op : mO), mAF l → mget l n = some op → mF op
  | [], _, _, _, h => by cases h
  | a :: _, 0, op, h, e => by
    have e : some a = some op := e
    injection e with e
    rw [← e]
    exact h.1
  | _ :: r, n + 1, op, h, e => mAF.at r n op h.2 e
theorem mswt_some {x : Int32} {d : Nat} {f : Nat → Option mR} {q : mR} : ∀ cs : List (Int32 × Nat), mswt x d cs f = some q → ∃ t, f t = some q
  | [], h => ⟨d, h⟩
  | (v, t) :: r, h => by
    have h : (if x = v then f t else mswt x d r f) = some q := h
    split at h
    · exact ⟨t, h⟩
    · exact mswt_some r h
theorem mrcv_some {h : mh} {K : Nat} {as : List mv} {x : Option mR} {q : mR} (e : mrcv h K as x = some q) : x = some q := by
  unfold mrcv at e
  split at e
  · exact e
  · split at e
    · split at e
      · exact e
      · cases e
    · cases e
theorem mbI_some {o : Option mR} {f : Int32 → mh → Option mR} {q : mR} (e : mbI o f = some q) : ∃ x h, o = some (some (vi x), h) ∧ f x h = some q := by
  unfold mbI at e
  split at e
  · exact ⟨_, _, rfl, e⟩
  · cases e
theorem mbP_some {o : Option mR} {f : Nat → mh → Option mR} {q : mR} (e : mbP o f = some q) : ∃ x h, o = some (some (vr x), h) ∧ f x h = some q := by
  unfold mbP at e
  split at e
  · exact ⟨_, _, rfl, e⟩
  · cases e
theorem mbV_some {o : Option mR} {f : mh → Option mR} {q : mR} (e : mbV o f = some q) : ∃ h, o = some (none, h) ∧ f h = some q := by
  unfold mbV at e
  split at e
  · exact ⟨_, rfl, e⟩
  · cases e
theorem bif_some {b : Bool} {x : Option mR} {q : mR} (e : (bif b then x else none) = some q) : x = some q := by
  cases b
  · cases e
  · exact e
theorem f_ic (v : Int32) : mF (o_ic v) := by
  intro C hC i L S h k q hk e
  unfold o_ic at e
  (repeat' split at e) <;> first | exact hk _ _ _ _ e | cases e
theorem f_lc (v : Int64) : mF (o_lc v) := by
  intro C hC i L S h k q hk e
  unfold o_lc at e
  (repeat' split at e) <;> first | exact hk _ _ _ _ e | cases e
theorem f_nul : mF (o_nul) := by
  intro C hC i L S h k q hk e
  unfold o_nul at e
  (repeat' split at e) <;> first | exact hk _ _ _ _ e | cases e
theorem f_ild (n : Nat) : mF (o_ild n) := by
  intro C hC i L S h k q hk e
  unfold o_ild at e
  (repeat' split at e) <;> first | exact hk _ _ _ _ e | cases e
theorem f_lld (n : Nat) : mF (o_lld n) := by
  intro C hC i L S h k q hk e
  unfold o_lld at e
  (repeat' split at e) <;> first | exact hk _ _ _ _ e | cases e
theorem f_ald (n : Nat) : mF (o_ald n) := by
  intro C hC i L S h k q hk e
  unfold o_ald at e
  (repeat' split at e) <;> first | exact hk _ _ _ _ e | cases e
theorem f_ist (n : Nat) : mF (o_ist n) := by
  intro C hC i L S h k q hk e
  unfold o_ist at e
  (repeat' split at e) <;> first | exact hk _ _ _ _ e | cases e
theorem f_ast (n : Nat) : mF (o_ast n) := by
  intro C hC i L S h k q hk e
  unfold o_ast at e
  (repeat' split at e) <;> first | exact hk _ _ _ _ e | cases e
theorem f_inc (n : Nat) (v : Int32) : mF (o_inc n v) := by
  intro C hC i L S h k q hk e
  unfold o_inc at e
  (repeat' split at e) <;> first | exact hk _ _ _ _ e | cases e
theorem f_add : mF (o_add) := by
  intro C hC i L S h k q hk e
  unfold o_add at e
  (repeat' split at e) <;> first | exact hk _ _ _ _ e | cases e
theorem f_sub : mF (o_sub) := by
  intro C hC i L S h k q hk e
  unfold o_sub at e
  (repeat' split at e) <;> first | exact hk _ _ _ _ e | cases e
theorem f_mul : mF (o_mul) := by
  intro C hC i L S h k q hk e
  unfold o_mul at e
  (repeat' split at e) <;> first | exact hk _ _ _ _ e | cases e
theorem f_and : mF (o_and) := by
  intro C hC i L S h k q hk e
  unfold o_and at e
  (repeat' split at e) <;> first | exact hk _ _ _ _ e | cases e
theorem f_or : mF (o_or) := by
  intro C hC i L S h k q hk e
  unfold o_or at e
  (repeat' split at e) <;> first | exact hk _ _ _ _ e | cases e
theorem f_xor : mF (o_xor) := by
  intro C hC i L S h k q hk e
  unfold o_xor at e
  (repeat' split at e) <;> first | exact hk _ _ _ _ e | cases e
theorem f_shl : mF (o_shl) := by
  intro C hC i L S h k q hk e
  unfold o_shl at e
  (repeat' split at e) <;> first | exact hk _ _ _ _ e | cases e
theorem f_shr : mF (o_shr) := by
  intro C hC i L S h k q hk e
  unfold o_shr at e
  (repeat' split at e) <;> first | exact hk _ _ _ _ e | cases e
theorem f_ushr : mF (o_ushr) := by
  intro C hC i L S h k q hk e
  unfold o_ushr at e
  (repeat' split at e) <;> first | exact hk _ _ _ _ e | cases e
theorem f_div : mF (o_div) := by
  intro C hC i L S h k q hk e
  unfold o_div at e
  (repeat' split at e) <;> first | exact hk _ _ _ _ e | cases e
theorem f_rem : mF (o_rem) := by
  intro C hC i L S h k q hk e
  unfold o_rem at e
  (repeat' split at e) <;> first | exact hk _ _ _ _ e | cases e
theorem f_i2l : mF (o_i2l) := by
  intro C hC i L S h k q hk e
  unfold o_i2l at e
  (repeat' split at e) <;> first | exact hk _ _ _ _ e | cases e
theorem f_l2i : mF (o_l2i) := by
  intro C hC i L S h k q hk e
  unfold o_l2i at e
  (repeat' split at e) <;> first | exact hk _ _ _ _ e | cases e
theorem f_ladd : mF (o_ladd) := by
  intro C hC i L S h k q hk e
  unfold o_ladd at e
  (repeat' split at e) <;> first | exact hk _ _ _ _ e | cases e
theorem f_lsub : mF (o_lsub) := by
  intro C hC i L S h k q hk e
  unfold o_lsub at e
  (repeat' split at e) <;> first | exact hk _ _ _ _ e | cases e
theorem f_lmul : mF (o_lmul) := by
  intro C hC i L S h k q hk e
  unfold o_lmul at e
  (repeat' split at e) <;> first | exact hk _ _ _ _ e | cases e
theorem f_ldiv : mF (o_ldiv) := by
  intro C hC i L S h k q hk e
  unfold o_ldiv at e
  (repeat' split at e) <;> first | exact hk _ _ _ _ e | cases e
theorem f_lrem : mF (o_lrem) := by
  intro C hC i L S h k q hk e
  unfold o_lrem at e
  (repeat' split at e) <;> first | exact hk _ _ _ _ e | cases e
theorem f_lshl : mF (o_lshl) := by
  intro C hC i L S h k q hk e
  unfold o_lshl at e
  (repeat' split at e) <;> first | exact hk _ _ _ _ e | cases e
theorem f_lcmp : mF (o_lcmp) := by
  intro C hC i L S h k q hk e
  unfold o_lcmp at e
  (repeat' split at e) <;> first | exact hk _ _ _ _ e | cases e
theorem f_istL (n : Nat) : mF (o_istL n) := by
  intro C hC i L S h k q hk e
  unfold o_istL at e
  (repeat' split at e) <;> first | exact hk _ _ _ _ (bif_some e) | cases e
theorem f_incL (n : Nat) (v : Int32) : mF (o_incL n v) := by
  intro C hC i L S h k q hk e
  unfold o_incL at e
  (repeat' split at e) <;> first | exact hk _ _ _ _ (bif_some e) | cases e
theorem f_lst (n : Nat) : mF (o_lst n) := by
  intro C hC i L S h k q hk e
  unfold o_lst at e
  (repeat' split at e) <;> first | exact hk _ _ _ _ (bif_some e) | cases e
theorem f_dup : mF (o_dup) := by
  intro C hC i L S h k q hk e
  unfold o_dup at e
  (repeat' split at e) <;> first | exact hk _ _ _ _ e | cases e
theorem f_dup2 : mF (o_dup2) := by
  intro C hC i L S h k q hk e
  unfold o_dup2 at e
  (repeat' split at e) <;> first | exact hk _ _ _ _ e | cases e
theorem f_pop : mF (o_pop) := by
  intro C hC i L S h k q hk e
  unfold o_pop at e
  (repeat' split at e) <;> first | exact hk _ _ _ _ e | cases e
theorem f_goto (t : Nat) : mF (o_goto t) := by
  intro C hC i L S h k q hk e
  unfold o_goto at e
  (repeat' split at e) <;> first | exact hk _ _ _ _ e | cases e
theorem f_ifeq (t : Nat) : mF (o_ifeq t) := by
  intro C hC i L S h k q hk e
  unfold o_ifeq at e
  (repeat' split at e) <;> first | exact hk _ _ _ _ e | cases e
theorem f_ifne (t : Nat) : mF (o_ifne t) := by
  intro C hC i L S h k q hk e
  unfold o_ifne at e
  (repeat' split at e) <;> first | exact hk _ _ _ _ e | cases e
theorem f_iflt (t : Nat) : mF (o_iflt t) := by
  intro C hC i L S h k q hk e
  unfold o_iflt at e
  (repeat' split at e) <;> first | exact hk _ _ _ _ e | cases e
theorem f_ifge (t : Nat) : mF (o_ifge t) := by
  intro C hC i L S h k q hk e
  unfold o_ifge at e
  (repeat' split at e) <;> first | exact hk _ _ _ _ e | cases e
theorem f_ifgt (t : Nat) : mF (o_ifgt t) := by
  intro C hC i L S h k q hk e
  unfold o_ifgt at e
  (repeat' split at e) <;> first | exact hk _ _ _ _ e | cases e
theorem f_ifle (t : Nat) : mF (o_ifle t) := by
  intro C hC i L S h k q hk e
  unfold o_ifle at e
  (repeat' split at e) <;> first | exact hk _ _ _ _ e | cases e
theorem f_ceq (t : Nat) : mF (o_ceq t) := by
  intro C hC i L S h k q hk e
  unfold o_ceq at e
  (repeat' split at e) <;> first | exact hk _ _ _ _ e | cases e
theorem f_cne (t : Nat) : mF (o_cne t) := by
  intro C hC i L S h k q hk e
  unfold o_cne at e
  (repeat' split at e) <;> first | exact hk _ _ _ _ e | cases e
theorem f_clt (t : Nat) : mF (o_clt t) := by
  intro C hC i L S h k q hk e
  unfold o_clt at e
  (repeat' split at e) <;> first | exact hk _ _ _ _ e | cases e
theorem f_cge (t : Nat) : mF (o_cge t) := by
  intro C hC i L S h k q hk e
  unfold o_cge at e
  (repeat' split at e) <;> first | exact hk _ _ _ _ e | cases e
theorem f_cgt (t : Nat) : mF (o_cgt t) := by
  intro C hC i L S h k q hk e
  unfold o_cgt at e
  (repeat' split at e) <;> first | exact hk _ _ _ _ e | cases e
theorem f_cle (t : Nat) : mF (o_cle t) := by
  intro C hC i L S h k q hk e
  unfold o_cle at e
  (repeat' split at e) <;> first | exact hk _ _ _ _ e | cases e
theorem f_nullp (t : Nat) : mF (o_nullp t) := by
  intro C hC i L S h k q hk e
  unfold o_nullp at e
  (repeat' split at e) <;> first | exact hk _ _ _ _ e | cases e
theorem f_nonnull (t : Nat) : mF (o_nonnull t) := by
  intro C hC i L S h k q hk e
  unfold o_nonnull at e
  (repeat' split at e) <;> first | exact hk _ _ _ _ e | cases e
theorem f_gI (K n : Nat) : mF (o_gI K n) := by
  intro C hC i L S h k q hk e
  unfold o_gI at e
  (repeat' split at e) <;> first | exact hk _ _ _ _ e | cases e
theorem f_gP (K n : Nat) : mF (o_gP K n) := by
  intro C hC i L S h k q hk e
  unfold o_gP at e
  (repeat' split at e) <;> first | exact hk _ _ _ _ e | cases e
theorem f_pI (K n : Nat) (hK : K ≠ 31) : mF (o_pI K n) := by
  intro C hC i L S h k q hk e
  unfold o_pI at e
  (repeat' split at e) <;> first | (refine sm1.tr (sm1.si ?_) (hk _ _ _ _ e); first | (rename_i z _; rw [z]; first | exact hK | decide) | (rename_i z; rw [z]; first | exact hK | decide) | (rename_i z _ _; rw [z]; first | exact hK | decide)) | cases e
theorem f_pZ (K n : Nat) (hK : K ≠ 31) : mF (o_pZ K n) := by
  intro C hC i L S h k q hk e
  unfold o_pZ at e
  (repeat' split at e) <;> first | (refine sm1.tr (sm1.si ?_) (hk _ _ _ _ e); first | (rename_i z _; rw [z]; first | exact hK | decide) | (rename_i z; rw [z]; first | exact hK | decide) | (rename_i z _ _; rw [z]; first | exact hK | decide)) | cases e
theorem f_pP (K n : Nat) : mF (o_pP K n) := by
  intro C hC i L S h k q hk e
  unfold o_pP at e
  (repeat' split at e) <;> first | exact sm1.tr sm1.sp (hk _ _ _ _ e) | cases e
theorem f_tab : mF (o_tab) := by
  intro C hC i L S h k q hk e
  unfold o_tab at e
  (repeat' split at e) <;> first | exact hk _ _ _ _ e | cases e
theorem f_ald4 (K : Nat) : mF (o_ald4 K) := by
  intro C hC i L S h k q hk e
  unfold o_ald4 at e
  (repeat' split at e) <;> first | exact hk _ _ _ _ e | cases e
theorem f_ald5 (K : Nat) : mF (o_ald5 K) := by
  intro C hC i L S h k q hk e
  unfold o_ald5 at e
  (repeat' split at e) <;> first | exact hk _ _ _ _ e | cases e
theorem f_len (K : Nat) : mF (o_len K) := by
  intro C hC i L S h k q hk e
  unfold o_len at e
  (repeat' split at e) <;> first | exact hk _ _ _ _ e | cases e
theorem f_iast : mF (o_iast) := by
  intro C hC i L S h k q hk e
  unfold o_iast at e
  (repeat' split at e) <;> first | (refine sm1.tr (sm1.si ?_) (hk _ _ _ _ e); first | (rename_i z _; rw [z]; first | exact hK | decide) | (rename_i z; rw [z]; first | exact hK | decide) | (rename_i z _ _; rw [z]; first | exact hK | decide)) | cases e
theorem f_zast : mF (o_zast) := by
  intro C hC i L S h k q hk e
  unfold o_zast at e
  (repeat' split at e) <;> first | (refine sm1.tr (sm1.si ?_) (hk _ _ _ _ e); first | (rename_i z _; rw [z]; first | exact hK | decide) | (rename_i z; rw [z]; first | exact hK | decide) | (rename_i z _ _; rw [z]; first | exact hK | decide)) | cases e
theorem f_aast (K E : Nat) : mF (o_aast K E) := by
  intro C hC i L S h k q hk e
  unfold o_aast at e
  (repeat' split at e) <;> first | exact sm1.tr sm1.sp (hk _ _ _ _ e) | cases e
theorem f_new (K n : Nat) : mF (o_new K n) := by
  intro C hC i L S h k q hk e
  unfold o_new at e
  (repeat' split at e) <;> first | exact sm1.tr sm1.nw (hk _ _ _ _ e) | cases e
theorem f_newa (K : Nat) : mF (o_newa K) := by
  intro C hC i L S h k q hk e
  unfold o_newa at e
  (repeat' split at e) <;> first | exact sm1.tr sm1.nw (hk _ _ _ _ e) | cases e
theorem f_mna : mF (o_mna) := by
  intro C hC i L S h k q hk e
  unfold o_mna at e
  (repeat' split at e) <;> first | exact sm1.tr sm1.nw2 (hk _ _ _ _ e) | cases e
theorem f_obj : mF (o_obj) := by
  intro C hC i L S h k q hk e
  unfold o_obj at e
  (repeat' split at e) <;> first | exact hk _ _ _ _ (bif_some e) | cases e
theorem f_iret : mF (o_iret) := by
  intro C hC i L S h k q hk e
  unfold o_iret at e
  (repeat' split at e) <;> first | (injection e with e; rw [← e]; exact sm1.rf _) | cases e
theorem f_zret : mF (o_zret) := by
  intro C hC i L S h k q hk e
  unfold o_zret at e
  (repeat' split at e) <;> first | (injection e with e; rw [← e]; exact sm1.rf _) | cases e
theorem f_aret : mF (o_aret) := by
  intro C hC i L S h k q hk e
  unfold o_aret at e
  (repeat' split at e) <;> first | (injection e with e; rw [← e]; exact sm1.rf _) | cases e
theorem f_vret : mF (o_vret) := by
  intro C hC i L S h k q hk e
  unfold o_vret at e
  (repeat' split at e) <;> first | (injection e with e; rw [← e]; exact sm1.rf _) | cases e
theorem f_sw (cs : List (Int32 × Nat)) (d : Nat) : mF (o_sw cs d) := by
  intro C hC i L S h k q hk e
  unfold o_sw at e
  split at e
  · obtain ⟨t, e⟩ := mswt_some cs e
    exact hk _ _ _ _ e
  · cases e
theorem f_callI (M n K : Nat) : mF (o_callI M n K) := by
  intro C hC i L S h k q hk e
  unfold o_callI at e
  split at e
  · obtain ⟨x, h1, e1, e2⟩ := mbI_some (mrcv_some (bif_some e))
    exact (hC _ _ _ _ e1).tr (hk _ _ _ _ e2)
  · cases e
theorem f_callP (M n K : Nat) : mF (o_callP M n K) := by
  intro C hC i L S h k q hk e
  unfold o_callP at e
  split at e
  · obtain ⟨x, h1, e1, e2⟩ := mbP_some (mrcv_some (bif_some e))
    exact (hC _ _ _ _ e1).tr (hk _ _ _ _ e2)
  · cases e
theorem f_callV (M n K : Nat) : mF (o_callV M n K) := by
  intro C hC i L S h k q hk e
  unfold o_callV at e
  split at e
  · obtain ⟨h1, e1, e2⟩ := mbV_some (mrcv_some (bif_some e))
    exact (hC _ _ _ _ e1).tr (hk _ _ _ _ e2)
  · cases e
theorem mrun_fr {C : mC} (hC : mCf C) {code : List mO} (ha : mAF code) : ∀ (n i : Nat) (L : List (Option mv)) (S : List mv) (h : mh) (q : mR), mrun C code n i L S h = some q → sm1 h q.2
  | 0, _, _, _, _, _, e => by cases e
  | n + 1, i, L, S, h, q, e => by
    unfold mrun at e
    split at e
    · rename_i op ho
      exact mAF.at code i op ha ho C hC i L S h _ q (fun i' L' S' h' e' => mrun_fr hC ha n i' L' S' h' q e') e
    · cases e
def mAE (E : mEn) : Prop := mAF E.1
theorem mcall_fr (good : ∀ M, mAE (mcode M)) : ∀ d, mCf (mcall d)
  | 0 => fun _ _ _ _ h => by cases h
  | d + 1 => fun M as h r hr => by
    obtain ⟨hf, n, hr⟩ := mcall_out hr
    exact mrun_fr (mcall_fr good d) (good M) n _ _ _ _ _ hr
def mAL : List mEn → Prop
  | [] => True
  | E :: r => mAE E ∧ mAL r
theorem mAL_at : ∀ (t : List mEn) (n : Nat), mAL t → mAE (mnth t n)
  | [], _, _ => trivial
  | _ :: _, 0, h => h.1
  | _ :: r, n + 1, h => mAL_at r n h.2
theorem mAF_bif {b : Bool} {x y : mEn} (hx : mAE x) (hy : mAE y) : mAE (bif b then x else y) := by
  cases b
  · exact hy
  · exact hx
