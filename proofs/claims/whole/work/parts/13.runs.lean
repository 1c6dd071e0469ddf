/-! ===== a constructor's call, Object's own constructor ===== -/
theorem can_Ik {own : String} {cc : ByteArray} {nL : Nat} {ini : Bool} {ret : Option FieldType} {pc M n K idx maxL : Nat} {y : MethodName} {bytes : ByteArray} (hK : 1 ≤ K ∧ K ≤ 11) (hM : mCal M y bytes maxL none) (hn : (parseMethodDescriptor y.desc).map (fun d => d.parameters.length) = some n) (hy1 : y.name = "<init>") (hl : Cond.methodLink own idx y ∈ mgw) (hin : Cond.instanceMethod y ∈ mgw) (hii : Cond.initialized y.cls ∈ mgw) (hd : decode cc pc = .ok (.invokespecial idx, 3)) : mCan own cc nL ini ret pc M (n + 1) K := by
  intro C as rest h r g d p l e R s m args below meth c Q h0 q H locs ls hr hSd hC hR hS hz has hrv hcat hls hT0 hU0 hT hU hTq hUq
  rcases hrv with z | ⟨a, as', e1, ha⟩
  · omega
  · exact can_I hM hn hy1 hl hin hii hd C as rest h r g d p l e R s m args below meth c Q h0 q H locs ls a as' hr hSd hC hR hS hz has e1 (hR.obj ha hK.1 hK.2).1 hcat hls hT0 hU0 hT hU hTq hUq
theorem can_INk {own : String} {cc : ByteArray} {nL : Nat} {ini : Bool} {ret : Option FieldType} {pc M n K idx maxL : Nat} {y : MethodName} {bytes : ByteArray} {host : String} (hK : 1 ≤ K ∧ K ≤ 11) (hM : mCal M y bytes maxL none) (hn : (parseMethodDescriptor y.desc).map (fun d => d.parameters.length) = some n) (hy1 : y.name = "<init>") (hl : Cond.methodLinkNest own idx y host ∈ mnw_) (hin : Cond.instanceMethod y ∈ mgw) (hii : Cond.initialized y.cls ∈ mgw) (hd : decode cc pc = .ok (.invokespecial idx, 3)) : mCan own cc nL ini ret pc M (n + 1) K := by
  intro C as rest h r g d p l e R s m args below meth c Q h0 q H locs ls hr hSd hC hR hS hz has hrv hcat hls hT0 hU0 hT hU hTq hUq
  rcases hrv with z | ⟨a, as', e1, ha⟩
  · omega
  · exact can_IN hM hn hy1 hl hin hii hd C as rest h r g d p l e R s m args below meth c Q h0 q H locs ls a as' hr hSd hC hR hS hz has e1 (hR.obj ha hK.1 hK.2).1 hcat hls hT0 hU0 hT hU hTq hUq
theorem ok_obj {own : String} {cc : ByteArray} {nL : Nat} {nl ini : Bool} {ret : Option FieldType} {P : Nat → Nat} {i pc idx : Nat} (hl : Cond.methodLink own idx objectInit ∈ mgw) (hin : Cond.instanceMethod objectInit ∈ mgw) (hco : Cond.code objectInit ⟨#[0xb1]⟩ 1 none ∈ mgw) (hp : P i = pc) (hq : P (i + 1) = pc + 3) (hd : decode cc pc = .ok (.invokespecial idx, 3)) : mOk own cc nL nl ini ret P i o_obj := by
  intro C L S h k q hk
  rcases S with _ | ⟨a | a | a, S⟩ <;> first
    | exact absurd hk.symm (Option.some_ne_none _)
    | skip
  by_cases ha : a = 0
  · exact absurd (hk.symm.trans (if_pos ha)) (Option.some_ne_none _)
  have hk1 : (bif Nat.ble (mcat S) 8 then k (i + 1) L S h else none) = some q := (if_neg ha).symm.trans hk
  cases hb8 : Nat.ble (mcat S) 8 with
  | false =>
    rw [hb8] at hk1
    cases hk1
  | true =>
    refine mOk.step (i + 1) L S h (fun _ k' => (if_neg ha).trans ?_) hk rfl rfl (fun g d p l e R s m args below meth c Q h0 hC hw H locs ls hR hS hL => ?_)
    · show (bif Nat.ble (mcat S) 8 then k' (i + 1) L S h else none) = k' (i + 1) L S h
      rw [hb8]
      rfl
    · obtain ⟨⟨hx, hb, hml, hown⟩, hts, hE, ⟨hrf, hrl, -, -⟩, -, -⟩ := hC
      have hw := hw H locs ls hR hS hL
      rw [hq] at hw
      rw [hp]
      show W p l e R s m args below meth c H locs _ _ Q (F0 m pc ls (mrf g a :: S.map (mcv g)))
      rw [mrf_ref ha]
      have hcat := Nat.le_of_ble_eq_true hb8
      have hroom := lv_room (m := m) (pc := pc) (ls := ls) (rest := (.ref (mad g a) :: S.map (mcv g))) (st := S.map (mcv g)) (by rw [mcat_sum]; exact hcat)
      exact W.objInit hx hb hown (hts _ hl) (hts _ hin) (hts _ hco) rfl (by rw [hml]; exact hL.1.1) rfl hd (by omega) (by omega) hw
/-! ===== runs ===== -/
def mAll (f : Nat → mO → Prop) : Nat → List mO → Prop
  | _, [] => True
  | i, op :: r => f i op ∧ mAll f (i + 1) r
theorem mAll_get {f : Nat → mO → Prop} {op : mO} : ∀ (code : List mO) (j i : Nat), mAll f j code → mget code i = some op → f (j + i) op
  | [], _, _, _, h => by cases h
  | a :: r, j, 0, h, hg => by
    cases hg
    exact h.1
  | a :: r, j, i + 1, h, hg => by
    have := mAll_get r (j + 1) i h.2 hg
    rw [show j + (i + 1) = j + 1 + i by omega]
    exact this
theorem mAll_app {f : Nat → mO → Prop} : ∀ (a b : List mO) (j : Nat), mAll f j a → mAll f (j + a.length) b → mAll f j (a ++ b)
  | [], _, _, _, h => h
  | x :: r, b, j, h, hb => ⟨h.1, mAll_app r b (j + 1) h.2 (by rw [show j + 1 + r.length = j + (x :: r).length by simp; omega]; exact hb)⟩
section RUNS
variable {own : String} {cc : ByteArray} {nL : Nat} {nl ini : Bool} {ret : Option FieldType} {P : Nat → Nat} {code : List mO} {C : mC}
theorem mAll_at (ok : mAll (mOk own cc nL nl ini ret P) 0 code) {i : Nat} {op : mO} (h : mget code i = some op) : mOk own cc nL nl ini ret P i op := by
  have := mAll_get code 0 i ok h
  rw [Nat.zero_add] at this
  exact this
theorem mrun_up (ok : mAll (mOk own cc nL nl ini ret P) 0 code) {C' : mC} (hle : mLe C C') : ∀ (n : Nat) (i : Nat) (L : List (Option mv)) (S : List mv) (h : mh) (q : mR), mrun C code n i L S h = some q → mrun C' code (n + 1) i L S h = some q
  | 0, _, _, _, _, _, h => by cases h
  | n + 1, i, L, S, h, q, hr => by
    unfold mrun at hr ⊢
    cases hg : mget code i with
    | none => rw [hg] at hr; cases hr
    | some op =>
      rw [hg] at hr
      have hr : op C i L S h (mrun C code n) = some q := hr
      show op C' i L S h (mrun C' code (n + 1)) = some q
      rcases mAll_at ok hg C L S h _ q hr with ⟨i', L', S', h', h1, -, h3, -⟩ | ⟨h1, -⟩
      · exact h3 C' _ q hle (mrun_up ok hle n i' L' S' h' q h1)
      · exact h1 C' _
theorem mLe.rf : mLe C C := fun _ _ _ _ h => h
theorem mrun_le (ok : mAll (mOk own cc nL nl ini ret P) 0 code) {n : Nat} {i : Nat} {L : List (Option mv)} {S : List mv} {h : mh} {q : mR} (hr : mrun C code n i L S h = some q) : ∀ k, mrun C code (n + k) i L S h = some q
  | 0 => hr
  | k + 1 => mrun_up ok mLe.rf _ _ _ _ _ _ (mrun_le ok hr k)
theorem mlim_of (ok : mAll (mOk own cc nL nl ini ret P) 0 code) {n : Nat} {i : Nat} {L : List (Option mv)} {S : List mv} {h : mh} {q : mR} (hr : mrun C code n i L S h = some q) : mlim C code i L S h = some q := by
  unfold mlim
  have hex : ∃ n, (mrun C code n i L S h).isSome = true := ⟨n, by rw [hr]; rfl⟩
  split
  · next hx _ =>
    have hs := Classical.choose_spec hx
    generalize Classical.choose hx = k at hs
    cases hk : mrun C code k i L S h with
    | none => rw [hk] at hs; cases hs
    | some q' =>
      have a1 := mrun_le ok hr k
      have a2 := mrun_le ok hk n
      rw [Nat.add_comm] at a2
      exact a2.symm.trans a1
  · next hx _ => exact absurd hex hx
theorem mlim_run {i : Nat} {L : List (Option mv)} {S : List mv} {h : mh} {q : mR} (hr : mlim C code i L S h = some q) : ∃ n, mrun C code n i L S h = some q := by
  unfold mlim at hr
  split at hr
  · exact ⟨_, hr⟩
  · cases hr
theorem mlim_step (ok : mAll (mOk own cc nL nl ini ret P) 0 code) (i : Nat) (L : List (Option mv)) (S : List mv) (h : mh) : mlim C code i L S h = match mget code i with
    | some op => op C i L S h (mlim C code)
    | none => none := by
  apply Option.ext
  intro q
  constructor
  · intro hr
    obtain ⟨n, hr⟩ := mlim_run hr
    cases n with
    | zero => cases hr
    | succ n =>
      unfold mrun at hr
      cases hg : mget code i with
      | none => rw [hg] at hr; cases hr
      | some op =>
        rw [hg] at hr
        have hr : op C i L S h (mrun C code n) = some q := hr
        show op C i L S h (mlim C code) = some q
        rcases mAll_at ok hg C L S h _ q hr with ⟨i', L', S', h', h1, -, h3, -⟩ | ⟨h1, -⟩
        · exact h3 C _ q mLe.rf (mlim_of ok h1)
        · exact h1 C _
  · intro hr
    cases hg : mget code i with
    | none => rw [hg] at hr; cases hr
    | some op =>
      rw [hg] at hr
      have hr : op C i L S h (mlim C code) = some q := hr
      rcases mAll_at ok hg C L S h _ q hr with ⟨i', L', S', h', h1, -, h3, -⟩ | ⟨h1, -⟩
      · obtain ⟨n, h1⟩ := mlim_run h1
        apply mlim_of ok (n := n + 1)
        unfold mrun
        rw [hg]
        exact h3 C _ q mLe.rf h1
      · apply mlim_of ok (n := 1)
        unfold mrun
        rw [hg]
        exact h1 C _
theorem mexp_lim (ok : mAll (mOk own cc nL nl ini ret P) 0 code) (stp : Nat → Bool) : ∀ n, mexp C code stp n = mlim C code
  | 0 => rfl
  | n + 1 => by
    funext i L S h
    unfold mexp
    rw [mexp_lim ok stp n]
    cases stp i with
    | true => rfl
    | false => exact (mlim_step ok i L S h).symm
theorem mexp_run (ok : mAll (mOk own cc nL nl ini ret P) 0 code) (stp : Nat → Bool) (n : Nat) {i : Nat} {L : List (Option mv)} {S : List mv} {h : mh} : mlim C code i L S h = mexp1 C code stp n i L S h := by
  unfold mexp1
  rw [mexp_lim ok stp n]
  exact mlim_step ok i L S h
theorem mrun_sound (ok : mAll (mOk own cc nL nl ini ret P) 0 code) (hSz : mSz C) : ∀ (n i : Nat) (L : List (Option mv)) (S : List mv) (h : mh) (q : mR), mrun C code n i L S h = some q →
    (mT h ≤ mT q.2 ∧ mU h ≤ mU q.2) ∧ ∀ g d p l e R s m args below meth c Q h0, mSd g l d C → mCx g d p l e R s m args below meth c Q own cc nL ini ret h0 q → mT h0 ≤ mT h → mU h0 ≤ mU h → mW g p l e R s m args below meth c Q P nL nl h0 i L S h
  | 0, _, _, _, _, _, h => by cases h
  | n + 1, i, L, S, h, q, hr => by
    unfold mrun at hr
    cases hg : mget code i with
    | none => rw [hg] at hr; cases hr
    | some op =>
      rw [hg] at hr
      have hr : op C i L S h (mrun C code n) = some q := hr
      rcases mAll_at ok hg C L S h _ q hr with ⟨i', L', S', h', h1, h2, -, h4⟩ | ⟨-, h2, h4⟩
      · obtain ⟨⟨z1, z2⟩, z3⟩ := mrun_sound ok hSz n i' L' S' h' q h1
        obtain ⟨y1, y2⟩ := h2 hSz
        refine ⟨⟨Nat.le_trans y1 z1, Nat.le_trans y2 z2⟩, ?_⟩
        intro g d p l e R s m args below meth c Q h0 hSd hC hT0 hU0
        exact h4 g d p l e R s m args below meth c Q h0 hSz hSd hC z1 z2 hT0 hU0 (z3 g d p l e R s m args below meth c Q h0 hSd hC (Nat.le_trans hT0 y1) (Nat.le_trans hU0 y2))
      · refine ⟨by rw [h2]; exact ⟨Nat.le_refl _, Nat.le_refl _⟩, ?_⟩
        intro g d p l e R s m args below meth c Q h0 hSd hC hT0 hU0
        exact h4 g d p l e R s m args below meth c Q h0 hC
end RUNS
theorem mA {f : Nat → mO → Prop} {i : Nat} {op : mO} {r : List mO} (h : f i op) (t : mAll f (i + 1) r) : mAll f i (op :: r) := ⟨h, t⟩
theorem mZ {f : Nat → mO → Prop} {i : Nat} : mAll f i [] := trivial
