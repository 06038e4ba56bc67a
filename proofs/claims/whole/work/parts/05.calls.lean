/-! CONTRACTS: a method, its arguments, the cells before it; Q of its answer and of the cells behind it -/
def tk_rm (μ : tM) (a b : Nat) : Room := { frames := μ.2.2.2.2, cells := a, slots := b, locals := 64 * μ.2.2.2.2 }
def tk_wd (μ : tM) : List Cond := Cond.code μ.1 μ.2.1 μ.2.2.1 μ.2.2.2.1 :: tk_TS
def tk_Q {T : Type} (μ : tM) (post : Int32 → T → Prop) (B : T → State → Prop) (A : Nat → Prop) : Array Value → State → Outcome → State → Prop := match μ.2.2.2.1 with
  | none => va_Qv (post 0) B A
  | some _ => va_Qi post B A
theorem tk_Q_v {T : Type} {μ : tM} (h : μ.2.2.2.1 = none) (post : Int32 → T → Prop) (B : T → State → Prop) (A : Nat → Prop) : tk_Q μ post B A = va_Qv (post 0) B A := by
  unfold tk_Q
  rw [h]
theorem tk_Q_i {T : Type} {μ : tM} {ty : FieldType} (h : μ.2.2.2.1 = some ty) (post : Int32 → T → Prop) (B : T → State → Prop) (A : Nat → Prop) : tk_Q μ post B A = va_Qi post B A := by
  unfold tk_Q
  rw [h]
def tk_pre (γ : tG) (ad : Nat → Nat) (sz : Nat) (h : tH) (U : State) : Prop := U.heap.size = sz ∧ va_P γ.1 vwCl (tk_ws γ ad h) U.heap ∧ tk_K γ U ∧ va_D (fun _ => True) (tk_ws γ ad h)
def tk_Mt (μ : tM) (a b : Nat) (vs : List Value) (h : tH) (Q : Int32 → tH → Prop) : Prop :=
  ∀ (l : Launch) (γ : tG) (ad : Nat → Nat) (sz : Nat), Met l μ.1 (tk_wd μ) (tk_rm μ a b) (va_Pc (vs.map (tk_cv ad)) (tk_pre γ ad sz h))
    (tk_Q μ (fun r (u : tH × (Nat → Nat)) => Q r u.1 ∧ h.1.length ≤ u.1.1.length ∧ tk_ad h.1.length ad u.2) (fun u t => va_P γ.1 vwCl (tk_ws γ u.2 u.1) t.heap ∧ va_D (va_A (tk_ws γ ad h) sz) (tk_ws γ u.2 u.1)) (va_A (tk_ws γ ad h) sz))
    a b (va_A (tk_ws γ ad h) sz)
theorem tk_Mt.mono {μ : tM} {a b : Nat} {vs : List Value} {h : tH} {Q Q' : Int32 → tH → Prop} (k : tk_Mt μ a b vs h Q) (hq : ∀ x h', Q x h' → Q' x h') : tk_Mt μ a b vs h Q' := by
  intro l γ ad sz
  refine MetFree.mono (k l γ ad sz) (fun _ _ h => h) (fun _ _ _ _ _ h => h) (fun a s o s' _ hh => ⟨?_, hh.2⟩)
  have h1 := hh.1
  cases hr : μ.2.2.2.1 with
  | none =>
    rw [tk_Q_v hr] at h1 ⊢
    obtain ⟨⟨u, e1, e2, e3⟩, e4⟩ := h1
    exact ⟨⟨u, e1, ⟨hq _ _ e2.1, e2.2⟩, e3⟩, e4⟩
  | some ty =>
    rw [tk_Q_i hr] at h1 ⊢
    obtain ⟨⟨r, u, e1, e2, e3⟩, e4⟩ := h1
    exact ⟨⟨r, u, e1, ⟨hq _ _ e2.1, e2.2⟩, e3⟩, e4⟩
def tk_lay : List Value → List Value
  | [] => []
  | .long x :: t => .long x :: .null :: tk_lay t
  | .double x :: t => .double x :: .null :: tk_lay t
  | v :: t => v :: tk_lay t
theorem tk_lay_1 {v : Value} (t : List Value) (h : ¬ v.category = 2) : tk_lay (v :: t) = v :: tk_lay t := by
  cases v <;> first | rfl | (exfalso; exact h rfl)
theorem tk_lay_2 {v : Value} (t : List Value) (h : v.category = 2) : tk_lay (v :: t) = v :: .null :: tk_lay t := by
  cases v <;> first | rfl | (exfalso; simp [Value.category] at h)
theorem tk_cvcat (ad : Nat → Nat) (v : Value) : (tk_cv ad v).category = v.category := by cases v <;> rfl
theorem tk_lay_len (ad : Nat → Nat) : ∀ vs : List Value, (lg_sl (vs.map (tk_cv ad))).length = (tk_lay vs).length
  | [] => rfl
  | v :: t => by
    have ih := tk_lay_len ad t
    by_cases h : v.category = 2
    · rw [tk_lay_2 t h]
      simp only [List.map_cons, lg_sl, List.flatMap_cons, tk_cvcat, h, if_true]
      simp only [lg_sl] at ih
      simp [ih]
    · rw [tk_lay_1 t h]
      simp only [List.map_cons, lg_sl, List.flatMap_cons, tk_cvcat, h, if_false]
      simp only [lg_sl] at ih
      simp [ih]
theorem tk_lay_mem (ad : Nat → Nat) : ∀ (vs : List Value) (j i : Nat) (v : Value), (tk_lay vs)[i]? = some v → v ≠ .null → (j + i, tk_cv ad v) ∈ lv_args j (vs.map (tk_cv ad))
  | [], j, i, v, h, _ => by simp [tk_lay] at h
  | w :: t, j, i, v, h, hv => by
    by_cases hw : w.category = 2
    · rw [tk_lay_2 t hw] at h
      simp only [List.map_cons, lv_args, tk_cvcat, hw, if_true]
      match i, h with
      | 0, h =>
        simp at h
        subst h
        exact List.mem_cons_self
      | 1, h =>
        simp at h
        exact absurd h.symm hv
      | i + 2, h =>
        simp at h
        have := tk_lay_mem ad t (j + 2) i v h hv
        rw [show j + (i + 2) = j + 2 + i by omega]
        exact List.mem_cons_of_mem _ this
    · rw [tk_lay_1 t hw] at h
      simp only [List.map_cons, lv_args, tk_cvcat, hw, if_false]
      match i, h with
      | 0, h =>
        simp at h
        subst h
        exact List.mem_cons_self
      | i + 1, h =>
        simp at h
        have := tk_lay_mem ad t (j + 1) i v h hv
        rw [show j + (i + 1) = j + 1 + i by omega]
        exact List.mem_cons_of_mem _ this
def tk_ok (μ : tM) (x : Int32) : Prop := match μ.2.2.2.1 with
  | some .boolean => x = 0 ∨ x = 1
  | _ => True
theorem tk_blind {vs : List Value} {γ : tG} {ad : Nat → Nat} {sz : Nat} {h : tH} : FrameBlind (va_Pc vs (tk_pre γ ad sz h)) := fun a U g mk q => by
  obtain ⟨q0, q1, q2, q3, q4⟩ := q
  exact ⟨q0, q1, q2, ⟨va_K.moved (u := U) (U := U.calling g mk a) (Vm.Alike.refl U.vm) q3.1, tk_NX.same rfl q3.2⟩, q4⟩
theorem tk_Mt.of {μ : tM} {a b : Nat} {vs ls : List Value} {h : tH} {Q : Int32 → tH → Prop} (hy : plainName μ.1.cls = true) (hrt : μ.2.2.2.1 = none ∨ μ.2.2.2.1 = some .int ∨ μ.2.2.2.1 = some .boolean) (hn : (tk_lay vs).length ≤ μ.2.2.1) (hls : tk_lay vs ++ List.replicate (μ.2.2.1 - (tk_lay vs).length) .null = ls) (k : tk_G μ a b none 0 ls [] h (fun x h' => tk_ok μ x ∧ Q x h')) : tk_Mt μ a b vs h Q := by
  intro l γ ad sz
  refine Met.ofW (cc := μ.2.1) (maxL := μ.2.2.1) (ret := μ.2.2.2.1) hy rfl ?_
  intro p e s m args below meth c s₁ B hml hv
  obtain ⟨rfl, hsz, hP, hK, hD0⟩ := hv
  subst hsz
  have hts : ∀ w ∈ tk_wd μ, w.before (vs.map (tk_cv ad)).toArray s = true := atoms_spec (ws := tk_wd μ) B.pre
  have hl := lv_entry (vs.map (tk_cv ad)) (n := μ.2.2.1) (by rw [tk_lay_len]; exact hn)
  rw [lg_entry_eq]
  generalize (lg_sl (vs.map (tk_cv ad)) ++ List.replicate (μ.2.2.1 - (lg_sl (vs.map (tk_cv ad))).length) Slot.unset).toArray = lsA at hl ⊢
  refine k γ p l e (tk_rm μ a b) s m (vs.map (tk_cv ad)).toArray below meth c (va_A (tk_ws γ ad h) s.heap.size) s.heap [] 0 0 _ lsA ad ⟨B.exec, B.bytes, hml, findClass_of_methodNamed B.named, fun w hw => hts w (List.mem_cons_of_mem _ hw), hK, fun q hq => Or.inr hq, fun hin => by rw [← hin]; exact (name_of_methodNamed B.named B.method).1, Nat.le_refl _, Nat.le_refl _⟩ (fun L xs e => by cases e) ⟨by show 0 + a ≤ a; omega, by show 0 + b ≤ b; omega⟩ ?_ ⟨hP, hD0.self, va_S.rf⟩ ⟨hl.1, hl.2.1, fun i v hi hv => ?_⟩
  · intro x h' ad' H' locs' cells' slots' lsA' pc' hcl hsl hln had hq hW
    obtain ⟨hok, hq⟩ := hq
    have hlocks := B.notSynchronized
    have hret := B.returns
    refine ⟨fun hne hd => ?_, fun he hx hd => ?_⟩
    · refine W.widen (k := a) (n := b) (by omega) (by omega) ?_
      have fin : ∀ t : State, t.heap = H' → (∀ ty, μ.2.2.2.1 = some ty → tk_Q μ (fun r (u : tH × (Nat → Nat)) => Q r u.1 ∧ h.1.length ≤ u.1.1.length ∧ tk_ad h.1.length ad u.2) (fun u t => va_P γ.1 vwCl (tk_ws γ u.2 u.1) t.heap ∧ va_D (va_A (tk_ws γ ad h) s.heap.size) (tk_ws γ u.2 u.1)) (va_A (tk_ws γ ad h) s.heap.size) (vs.map (tk_cv ad)).toArray s (.returned (some (.int x))) t) := by
        intro t ht ty hty
        rw [tk_Q_i hty]
        exact ⟨⟨x, (h', ad'), rfl, ⟨hq, hln, had⟩, by rw [ht]; exact hW.1, hW.2.1⟩, hW.2.2.F ht⟩
      rcases hrt with e1 | e1 | e1
      · exact absurd e1 hne
      · exact W.iret B.exec B.bytes (hret.trans e1) (fun t ht _ => fin t ht _ e1) hW.2.2.2.2 hd
      · refine W.zret B.exec B.bytes (hret.trans e1) ?_ (fun t ht _ => fin t ht _ e1) hW.2.2.2.2 hd
        unfold tk_ok at hok
        rw [e1] at hok
        rcases hok with rfl | rfl <;> rfl
    · refine W.widen (k := a) (n := b) (by omega) (by omega) ?_
      refine W.vret B.exec B.bytes (hret.trans he) (fun t ht _ => ?_) hW.2.2.2.2 hd
      subst hx
      rw [tk_Q_v he]
      exact ⟨⟨(h', ad'), rfl, ⟨hq, hln, had⟩, by rw [ht]; exact hW.1, hW.2.1⟩, hW.2.2.F ht⟩
  · subst hls
    by_cases hil : i < (tk_lay vs).length
    · rw [List.getElem?_append_left hil] at hi
      have := hl.2.2 _ (tk_lay_mem ad vs 0 i v hi hv)
      simpa using this
    · rw [List.getElem?_append_right (by omega)] at hi
      have := List.mem_of_getElem? hi
      rw [List.mem_replicate] at this
      exact absurd this.2 hv
/-- what the tables say of a method of n parameters -/
def tk_mc (ν : tM) (n : Nat) : Prop := Cond.code ν.1 ν.2.1 ν.2.2.1 ν.2.2.2.1 ∈ tk_TS ∧ Cond.initialized ν.1.cls ∈ tk_TS ∧ (ν.1.cls ≠ "java/lang/invoke/MethodHandle" ∧ ν.1.cls ≠ "java/lang/invoke/VarHandle" ∧ (parseMethodDescriptor ν.1.desc).map (fun d => d.parameters.length) = some n) ∧ ν.2.2.1 ≤ 45
def tk_mi (ν : tM) : Prop := Cond.instanceMethod ν.1 ∈ tk_TS ∧ Cond.selects ν.1.cls ν.1 ν.1 ∈ tk_TS
def tk_wf (n : Nat) (vs : List Value) : Bool := vs.all (fun v => match v with
  | .ref k => decide (k < n) || decide (k = 4096)
  | _ => true)
theorem tk_wf_cv {n : Nat} {ad ad' : Nat → Nat} (had : tk_ad n ad ad') {vs : List Value} (h : tk_wf n vs = true) : ∀ v ∈ vs, tk_cv ad' v = tk_cv ad v := by
  intro v hv
  have h1 := List.all_eq_true.mp h v hv
  cases v with
  | ref k =>
    simp only [Bool.or_eq_true, decide_eq_true_eq] at h1
    rcases h1 with h1 | h1
    · show Value.ref (ad' k) = .ref (ad k)
      rw [had.2 k h1]
    · subst h1
      show Value.ref (ad' 4096) = .ref (ad 4096)
      rw [had.1]
  | _ => rfl
section CALLS
variable {μ ν : tM} {a b a' b' : Nat} {sx : tX} {pc : Nat} {ls st : List Value} {h : tH} {Q : Int32 → tH → Prop} {n idx : Nat}
variable {γ : tG} {p : Program} {l : Launch} {e : Env} {R : Room} {s : State} {m : MethodId} {args : Array Value} {below : List Frame} {meth : Method} {c : Code} {A : Nat → Prop} {H : Heap} {locs : List Loc} {cells slots : Nat} {Fq : State → Prop} {lsA : Array Slot} {ad : Nat → Nat}
theorem tk_free (hC : tk_C μ γ p R s m args meth c A) (hW : tk_W γ s A ad h H locs) : ∀ q, va_A (tk_ws γ ad h) H.size q → A q := by
  intro q hq
  rcases hq with ⟨k, e, hk⟩ | hq
  · exact hW.2.1.2 k _ hk
  · exact hC.2.2.2.2.2.2.1 q (Nat.le_trans hW.2.2.1 hq)
theorem tk_ad.trans {n n' : Nat} {ad ad1 ad2 : Nat → Nat} (hn : n ≤ n') (h1 : tk_ad n ad ad1) (h2 : tk_ad n' ad1 ad2) : tk_ad n ad ad2 := ⟨h2.1.trans h1.1, fun k hk => (h2.2 k (Nat.lt_of_lt_of_le hk hn)).trans (h1.2 k hk)⟩
/-- behind a call that answers an int -/
theorem tk_backi {ty : FieldType} {vs : List Value} {st0 : List Value} (hv : ν.2.2.2.1 = some ty) (hwf : tk_wf h.1.length (ls ++ st) = true) (hC : tk_C μ γ p R s m args meth c A) (hX : tk_X sx ad A s) (hB : cells + (a' + a) ≤ R.cells ∧ slots + (b' + b) ≤ R.slots) (hR : tk_R μ γ p l e R s m args below meth c A h.1.length ad (cells + (a' + a)) (slots + (b' + b)) Fq Q) (hW : tk_W γ s A ad h H locs) (hL : tk_L ad lsA μ.2.2.1 ls)
    (hr : va_Run p l e R s m args below meth c H locs cells slots a' b' (F0 m pc lsA st0) (st.map (tk_cv ad)) (tk_Q ν (fun r (u : tH × (Nat → Nat)) => (tk_G μ a b sx (pc + 3) ls (.int r :: st) u.1 Q) ∧ h.1.length ≤ u.1.1.length ∧ tk_ad h.1.length ad u.2) (fun u t => va_P γ.1 vwCl (tk_ws γ u.2 u.1) t.heap ∧ va_D (va_A (tk_ws γ ad h) H.size) (tk_ws γ u.2 u.1)) (va_A (tk_ws γ ad h) H.size) (vs.map (tk_cv ad)).toArray) (va_A (tk_ws γ ad h) H.size)) :
    W p l e R s m args below meth c H locs cells slots Fq (F0 m pc lsA st0) := by
  have hF := tk_free hC hW
  rw [tk_Q_i hv] at hr
  refine va_calli hr hW.2.2 (fun q _ hq => hF q hq) hF (fun r u t H1 locs1 ht hvm hw hb hz hk hS => ?_)
  obtain ⟨h', ad'⟩ := u
  obtain ⟨k, hln, had⟩ := hw
  dsimp only at k hln had
  obtain ⟨hP1, hD1⟩ := hb
  dsimp only at hP1 hD1
  rw [ht] at hP1
  have hcv := tk_wf_cv had hwf
  have e1 : (Value.int r :: st.map (tk_cv ad)) = (Value.int r :: st).map (tk_cv ad') := by
    rw [List.map_cons]
    refine congrArg (fun z => Value.int r :: z) (List.map_congr_left fun v hv => (hcv v (List.mem_append_right _ hv)).symm)
  show W p l e R s m args below meth c H1 locs1 (cells + a') (slots + b') Fq (F0 m (pc + 3) lsA (Value.int r :: st.map (tk_cv ad)))
  rw [e1]
  refine k γ p l e R s m args below meth c A H1 locs1 (cells + a') (slots + b') Fq lsA ad' hC (fun L xs hs => ?_) ⟨by omega, by omega⟩ ?_ ⟨hP1, hD1.weaken (fun _ q _ hq => hF q.1 hq), hS⟩ ⟨hL.1, hL.2.1, fun i v hi hv => ?_⟩
  · rw [had.1]
    exact hX L xs hs
  · intro x h2 ad2 H2 locs2 cells2 slots2 lsA2 pc2 c1 c2 c3 c4 c5 c6
    exact hR x h2 ad2 H2 locs2 cells2 slots2 lsA2 pc2 (by omega) (by omega) (Nat.le_trans hln c3) (tk_ad.trans hln had c4) c5 c6
  · rw [hcv v (List.mem_append_left _ (List.mem_of_getElem? hi))]
    exact hL.2.2 i v hi hv
theorem tk_backv {vs : List Value} {st0 : List Value} (hv : ν.2.2.2.1 = none) (hwf : tk_wf h.1.length (ls ++ st) = true) (hC : tk_C μ γ p R s m args meth c A) (hX : tk_X sx ad A s) (hB : cells + (a' + a) ≤ R.cells ∧ slots + (b' + b) ≤ R.slots) (hR : tk_R μ γ p l e R s m args below meth c A h.1.length ad (cells + (a' + a)) (slots + (b' + b)) Fq Q) (hW : tk_W γ s A ad h H locs) (hL : tk_L ad lsA μ.2.2.1 ls)
    (hr : va_Run p l e R s m args below meth c H locs cells slots a' b' (F0 m pc lsA st0) (st.map (tk_cv ad)) (tk_Q ν (fun _ (u : tH × (Nat → Nat)) => (tk_G μ a b sx (pc + 3) ls st u.1 Q) ∧ h.1.length ≤ u.1.1.length ∧ tk_ad h.1.length ad u.2) (fun u t => va_P γ.1 vwCl (tk_ws γ u.2 u.1) t.heap ∧ va_D (va_A (tk_ws γ ad h) H.size) (tk_ws γ u.2 u.1)) (va_A (tk_ws γ ad h) H.size) (vs.map (tk_cv ad)).toArray) (va_A (tk_ws γ ad h) H.size)) :
    W p l e R s m args below meth c H locs cells slots Fq (F0 m pc lsA st0) := by
  have hF := tk_free hC hW
  rw [tk_Q_v hv] at hr
  refine va_callv hr hW.2.2 (fun q _ hq => hF q hq) hF (fun u t H1 locs1 ht hvm hw hb hz hk hS => ?_)
  obtain ⟨h', ad'⟩ := u
  obtain ⟨k, hln, had⟩ := hw
  dsimp only at k hln had
  obtain ⟨hP1, hD1⟩ := hb
  dsimp only at hP1 hD1
  rw [ht] at hP1
  have hcv := tk_wf_cv had hwf
  have e1 : st.map (tk_cv ad) = st.map (tk_cv ad') := List.map_congr_left fun v hv => (hcv v (List.mem_append_right _ hv)).symm
  rw [e1]
  refine k γ p l e R s m args below meth c A H1 locs1 (cells + a') (slots + b') Fq lsA ad' hC (fun L xs hs => ?_) ⟨by omega, by omega⟩ ?_ ⟨hP1, hD1.weaken (fun _ q _ hq => hF q.1 hq), hS⟩ ⟨hL.1, hL.2.1, fun i v hi hv => ?_⟩
  · rw [had.1]
    exact hX L xs hs
  · intro x h2 ad2 H2 locs2 cells2 slots2 lsA2 pc2 c1 c2 c3 c4 c5 c6
    exact hR x h2 ad2 H2 locs2 cells2 slots2 lsA2 pc2 (by omega) (by omega) (Nat.le_trans hln c3) (tk_ad.trans hln had c4) c5 c6
  · rw [hcv v (List.mem_append_left _ (List.mem_of_getElem? hi))]
    exact hL.2.2 i v hi hv
theorem tk_wdG (hν : tk_mc ν n) : GoodIn tk_TS (tk_wd ν) := by
  intro w hw
  rcases List.mem_cons.mp hw with rfl | hw
  · exact tk_goodTS _ hν.1
  · exact tk_goodTS w hw
theorem tk_callB (hν : tk_mc ν n) (hl : Cond.methodLink μ.1.cls idx ν.1 ∈ tk_TS) (hdep : ν.2.2.2.2 < μ.2.2.2.2) (hC : tk_C μ γ p R s m args meth c A) : CallB R s args μ.1.cls idx ν.1 ν.2.1 ν.2.2.1 ν.2.2.2.1 (tk_wd ν) (tk_rm ν a' b') a' b' n := by
  obtain ⟨h1, h2, h3, h4⟩ := hν
  have e1 := hC.2.2.2.2.2.2.2.2.1
  have e2 := hC.2.2.2.2.2.2.2.2.2
  refine callB_of n hC.2.2.2.2.1 (tk_wdG ⟨h1, h2, h3, h4⟩) rfl rfl rfl (hC.2.2.2.2.1 _ h2) (hC.2.2.2.2.1 _ hl) h3 ⟨?_, ?_⟩
  · show ν.2.2.2.2 + 1 ≤ R.frames
    omega
  · show 8 + (ν.2.2.1 + 11) + 64 * ν.2.2.2.2 ≤ R.locals
    omega
theorem tk_preS {vs : List Value} (hC : tk_C μ γ p R s m args meth c A) (hW : tk_W γ s A ad h H locs) : PreS s H (va_Pc (vs.map (tk_cv ad)) (tk_pre γ ad H.size h)) (vs.map (tk_cv ad)) :=
  ⟨tk_blind, fun U hU hWm => ⟨rfl, by rw [hU], by rw [hU]; exact hW.1, tk_K.warm hWm hC.2.2.2.2.2.1, hW.2.1.weaken (fun _ _ _ _ => trivial)⟩⟩
end CALLS
