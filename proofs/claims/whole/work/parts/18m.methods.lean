/-! ===== methods ===== -/
def mGd (E : mEn) : Prop := plainFor E.2.2.2.1 = true ∧ mAll (mOk E.2.2.2.1.cls E.2.2.2.2.1 E.2.1 E.2.2.1 E.2.2.2.2.2.2.1 E.2.2.2.2.2.1 (mnat E.2.2.2.2.2.2.2)) 0 E.1 ∧ mnat E.2.2.2.2.2.2.2 0 = 0 ∧ (E.2.2.2.2.2.2.1 = true → E.2.2.2.1.name = "<init>")
theorem mini_len {g : mG} : ∀ as : List mv, (lg_sl (as.map (mcv g))).length = (mini as).length
  | [] => rfl
  | .inl x :: r => by
    show (lg_sl (r.map (mcv g))).length + 1 = (mini r).length + 1
    rw [mini_len r]
  | .inr (.inl x) :: r => by
    show (lg_sl (r.map (mcv g))).length + 1 + 1 = (mini r).length + 1 + 1
    rw [mini_len r]
  | .inr (.inr x) :: r => by
    have hc : (mcv g (vr x)).category = 1 := mcv_c1 (vr x) rfl
    show ((if (mcv g (vr x)).category = 2 then [Slot.val (mcv g (vr x)), .second] else [.val (mcv g (vr x))]) ++ lg_sl (r.map (mcv g))).length = (mini r).length + 1
    rw [if_neg (by omega), List.length_append, mini_len r]
    exact Nat.add_comm _ _
theorem mini_lv {g : mG} : ∀ (as : List mv) (i : Nat), mlv g i (mini as) = lv_args i (as.map (mcv g))
  | [], _ => rfl
  | .inl x :: r, i => by
    show (i, Value.int x) :: mlv g (i + 1) (mini r) = (i, Value.int x) :: lv_args (i + 1) (r.map (mcv g))
    rw [mini_lv r]
  | .inr (.inl x) :: r, i => by
    show (i, Value.long x) :: mlv g (i + 1 + 1) (mini r) = (i, Value.long x) :: lv_args (i + 2) (r.map (mcv g))
    rw [mini_lv r]
  | .inr (.inr x) :: r, i => by
    have hc : (mcv g (vr x)).category = 1 := mcv_c1 (vr x) rfl
    show (i, mcv g (vr x)) :: mlv g (i + 1) (mini r) = (i, mcv g (vr x)) :: lv_args (if (mcv g (vr x)).category = 2 then i + 2 else i + 1) (r.map (mcv g))
    rw [if_neg (by omega), mini_lv r]
theorem mpad_lv {g : mG} : ∀ (n : Nat) (L : List (Option mv)) (i : Nat), mlv g i (mpad n L) = mlv g i L
  | 0, _, _ => rfl
  | n + 1, [], i => by
    show mlv g (i + 1) (mpad n []) = []
    rw [mpad_lv n []]
    rfl
  | n + 1, none :: r, i => by
    show mlv g (i + 1) (mpad n r) = mlv g (i + 1) r
    exact mpad_lv n r (i + 1)
  | n + 1, some v :: r, i => by
    show (i, mcv g v) :: mlv g (i + 1) (mpad n r) = (i, mcv g v) :: mlv g (i + 1) r
    rw [mpad_lv n r (i + 1)]
theorem mpad_len : ∀ (n : Nat) (L : List (Option mv)), L.length ≤ n → (mpad n L).length = n
  | 0, [], _ => rfl
  | 0, _ :: _, h => absurd h (Nat.not_succ_le_zero _)
  | n + 1, [], _ => congrArg Nat.succ (mpad_len n [] (Nat.zero_le _))
  | n + 1, _ :: r, h => congrArg Nat.succ (mpad_len n r (Nat.le_of_succ_le_succ h))
theorem mnla_mini : ∀ as : List mv, mnla as = true → ∀ x ∈ mini as, mnolong x = true
  | [], _, x, hx => by cases hx
  | .inl y :: r, h, x, hx => by
    rcases List.mem_cons.mp hx with rfl | hx
    · rfl
    · exact mnla_mini r h x hx
  | .inr (.inl y) :: r, h, x, hx => by cases h
  | .inr (.inr y) :: r, h, x, hx => by
    rcases List.mem_cons.mp hx with rfl | hx
    · rfl
    · exact mnla_mini r h x hx
theorem mpad_nl : ∀ (n : Nat) (L : List (Option mv)), (∀ x ∈ L, mnolong x = true) → ∀ x ∈ mpad n L, mnolong x = true
  | 0, _, h, x, hx => h x hx
  | n + 1, [], h, x, hx => by
    rcases List.mem_cons.mp hx with rfl | hx
    · rfl
    · exact mpad_nl n [] h x hx
  | n + 1, a :: r, h, x, hx => by
    rcases List.mem_cons.mp hx with rfl | hx
    · exact h _ List.mem_cons_self
    · exact mpad_nl n r (fun y hy => h y (List.mem_cons_of_mem _ hy)) x hx
theorem mfit_spec {nL : Nat} {nl : Bool} {as : List mv} (h : mfit nL nl as = true) : (mini as).length ≤ nL ∧ (nl = true → mnla as = true) := by
  unfold mfit at h
  rw [Bool.and_eq_true] at h
  refine ⟨Nat.le_of_ble_eq_true h.1, fun e => ?_⟩
  have := h.2
  rw [e] at this
  exact this
/-- the locals with which a method begins -/
theorem mLs_entry {g : mG} {nL : Nat} {nl : Bool} {as : List mv} (h : mfit nL nl as = true) : mLs g nL nl (mpad nL (mini as)) ((lg_sl (as.map (mcv g)) ++ List.replicate (nL - (lg_sl (as.map (mcv g))).length) Slot.unset).toArray) := by
  obtain ⟨h1, h2⟩ := mfit_spec h
  refine ⟨?_, mpad_len nL _ h1, fun e => mpad_nl nL _ (mnla_mini as (h2 e))⟩
  rw [mpad_lv, mini_lv]
  exact lv_entry _ (by rw [mini_len]; exact h1)
theorem mcall_out {d M : Nat} {as : List mv} {h : mh} {r : mR} (hr : mcall (d + 1) M as h = some r) : mfit (mcode M).2.1 (mcode M).2.2.1 as = true ∧ ∃ n, mrun (mcall d) (mcode M).1 n 0 (mpad (mcode M).2.1 (mini as)) [] h = some r := by
  have hr : (bif mfit (mcode M).2.1 (mcode M).2.2.1 as then mlim (mcall d) (mcode M).1 0 (mpad (mcode M).2.1 (mini as)) [] h else none) = some r := hr
  cases hf : mfit (mcode M).2.1 (mcode M).2.2.1 as with
  | false => rw [hf] at hr; cases hr
  | true =>
    rw [hf] at hr
    exact ⟨rfl, mlim_run hr⟩
theorem mcall_up (good : ∀ M, mGd (mcode M)) : ∀ d, mLe (mcall d) (mcall (d + 1))
  | 0 => fun _ _ _ _ h => by cases h
  | d + 1 => fun M as h r hr => by
    obtain ⟨hf, n, hr⟩ := mcall_out hr
    have := mlim_of (good M).2.1 (mrun_up (good M).2.1 (mcall_up good d) _ _ _ _ _ _ hr)
    show (bif mfit (mcode M).2.1 (mcode M).2.2.1 as then mlim (mcall (d + 1)) (mcode M).1 0 (mpad (mcode M).2.1 (mini as)) [] h else none) = some r
    rw [hf]
    exact this
theorem mcall_le (good : ∀ M, mGd (mcode M)) {d M : Nat} {as : List mv} {h : mh} {r : mR} (hr : mcall d M as h = some r) : ∀ {d'}, d ≤ d' → mcall d' M as h = some r := by
  intro d' hd
  obtain ⟨k, rfl⟩ : ∃ k, d' = d + k := ⟨d' - d, by omega⟩
  clear hd
  induction k with
  | zero => exact hr
  | succ k ih => exact mcall_up good _ _ _ _ _ ih
theorem mcall_sz (good : ∀ M, mGd (mcode M)) : ∀ d, mSz (mcall d)
  | 0 => fun _ _ _ _ h => by cases h
  | d + 1 => fun M as h r hr => by
    obtain ⟨hf, n, hr⟩ := mcall_out hr
    exact (mrun_sound (good M).2.1 (mcall_sz good d) n _ _ _ _ _ hr).1
theorem mcall_sd (good : ∀ M, mGd (mcode M)) (g : mG) (l : Launch) : ∀ d, mSd g l d (mcall d)
  | 0 => fun _ _ _ _ h => by cases h
  | d + 1 => fun M as h r hr => by
    obtain ⟨hf, n, hr⟩ := mcall_out hr
    obtain ⟨hpl, ok, hp0, hin⟩ := good M
    have hz := (mrun_sound ok (mcall_sz good d) n _ _ _ _ _ hr)
    obtain ⟨⟨z1, z2⟩, hz⟩ := hz
    refine va_MetF (cc := (mcode M).2.2.2.2.1) (maxL := (mcode M).2.1) (ret := (mcode M).2.2.2.2.2.1) hpl rfl ?_
    intro p e s m args below meth c s₁ B hml hP
    obtain ⟨rfl, hR, hE, hsz⟩ := hP
    have hts := atoms_spec (ws := mwm M) B.pre
    have hlocks := B.notSynchronized
    have hrt : mRt g p l e (headSpec (mwm M) (mrm (d + 1) (mT r.2 - mT h) (mU r.2 - mU h))).room s m (as.map (mcv g)).toArray below meth c (MQ below (mQc g r) (as.map (mcv g)).toArray s (mT r.2 - mT h) (mU r.2 - mU h) (gA g)) (mcode M).2.2.2.2.1 (mcode M).2.2.2.2.2.1 h r := by
      intro H locs ls pc hR1 hS1
      refine ⟨fun v hv hret hdg => ?_, fun a hv hret hdg => ?_, fun hv hret hdg => ?_⟩
      · have hq : ∀ t : State, t.heap = H → s.WarmedH t.vm → mQc g r (as.map (mcv g)).toArray s (.returned (some (.int v))) t := fun t ht _ => ⟨by rw [hv]; rfl, by rw [ht]; exact hR1, hS1.F ht⟩
        rcases hret with hret | ⟨hret, hz⟩
        · exact W.iret B.exec B.bytes (B.returns.trans hret) hq hS1.2.2 hdg hlocks
        · exact W.zret (ty := .boolean) B.exec B.bytes (B.returns.trans hret) (narrowZ hz).1 hq hS1.2.2 hdg hlocks
      · have hq : ∀ t : State, t.heap = H → s.WarmedH t.vm → mQc g r (as.map (mcv g)).toArray s (.returned (some (mrf g a))) t := fun t ht _ => ⟨by rw [hv]; rfl, by rw [ht]; exact hR1, hS1.F ht⟩
        have hva : mrf g a = .null ∨ ∃ b, mrf g a = .ref b := by
          by_cases ha : a = 0
          · subst ha
            exact Or.inl rfl
          · exact Or.inr ⟨_, mrf_ref ha⟩
        rcases hret with ⟨n, hret⟩ | ⟨t, hret⟩
        · exact W.aret B.exec B.bytes (B.returns.trans hret) (Or.inl ⟨n, rfl⟩) hva hq hS1.2.2 hdg hlocks
        · exact W.aret B.exec B.bytes (B.returns.trans hret) (Or.inr ⟨t, rfl⟩) hva hq hS1.2.2 hdg hlocks
      · have hq : ∀ t : State, t.heap = H → s.WarmedH t.vm → mQc g r (as.map (mcv g)).toArray s (.returned none) t := fun t ht _ => ⟨by rw [hv]; rfl, by rw [ht]; exact hR1, hS1.F ht⟩
        exact W.vret B.exec B.bytes (B.returns.trans hret) hq hS1.2.2 hdg hlocks
    have hw := hz g d p l e (headSpec (mwm M) (mrm (d + 1) (mT r.2 - mT h) (mU r.2 - mU h))).room s m (as.map (mcv g)).toArray below meth c (MQ below (mQc g r) (as.map (mcv g)).toArray s (mT r.2 - mT h) (mU r.2 - mU h) (gA g)) h (mcall_sd good g l d) ⟨⟨B.exec, B.bytes, hml, findClass_of_methodNamed B.named⟩, fun w hw => hts w (List.mem_cons_of_mem _ hw), hE, ⟨Nat.le_refl _, Nat.le_refl _, Nat.le_refl _, Nat.le_refl _⟩, ⟨hsz, hR.2.2.1, fun e => (name_of_methodNamed B.named B.method).1.trans (hin e)⟩, hrt⟩ (Nat.le_refl _) (Nat.le_refl _)
    have hw := hw s.heap [] _ hR va_S.rf (mLs_entry hf)
    rw [Nat.sub_self, Nat.sub_self, hp0] at hw
    rw [lg_entry_eq]
    exact hw
/-- a table's entries are good: so is each method -/
def mGL : List mEn → Prop
  | [] => True
  | E :: r => mGd E ∧ mGL r
theorem mGL_at : ∀ (t : List mEn) (n : Nat), mGL t → mGd (mnth t n)
  | [], _, _ => ⟨(by show plainFor ⟨"", "", ""⟩ = true; decide +kernel), trivial, rfl, fun h => by cases h⟩
  | _ :: _, 0, h => h.1
  | _ :: r, n + 1, h => mGL_at r n h.2
