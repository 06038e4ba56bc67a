/-! THE CALCULUS: one world of cells by number; tk_G: from this place of a method, with these locals, stack and cells, the method comes to its end with Q -/
abbrev tS : Type := Nat → Nat → Int32
abbrev tF : Type := Nat → Nat → Option Nat
abbrev tH : Type := List (Nat × Nat) × tS × tF
abbrev tG : Type := va_G × ClassId × ClassId × ClassId
/-- a method: its name, its bytes, its locals, what it answers, its height in the order of calls -/
abbrev tM : Type := MethodName × ByteArray × Nat × Option FieldType × Nat
abbrev tX : Type := Option (Nat × (Nat → Int32))
def tk_cv (ad : Nat → Nat) (v : Value) : Value := match v with
  | .ref k => .ref (ad k)
  | w => w
def tk_rfs : List (List Bool) := [[false, false, false, false, false], [false, false, true, true, true, true, true], [false, true, true, true], [false, true, true, true, true, true], [false, false, true], [false, false, true], [true], [true, true, false, true, true, false, false, true, true, true, true, true, true], [true, true, true, false, true, true, true, true, true, false, false, true, false, false, false, true, true, false, true, true, true, true, true, true, true]]
def tk_isR (ci j : Nat) : Bool := (((tk_rfs[ci]?).getD [])[j]?).getD false
def tk_fv (ad : Nat → Nat) (S : tS) (F : tF) (ci k j : Nat) : Value := if tk_isR ci j = true then va_rf ((F k j).map ad) else .int (S k j)
def tk_cell (γ : tG) (ad : Nat → Nat) (S : tS) (F : tF) (k : Nat) (q : Nat × Nat) : va_E :=
  if q.1 < 9 then .inr (q.1, (List.range q.2).map (tk_fv ad S F q.1 k))
  else if q.1 = 9 then .inl (γ.2.2.1, q.2, .inl (S k))
  else if q.1 = 10 then .inl (γ.2.1, q.2, .inl (S k))
  else .inl (γ.2.2.2, q.2, .inr (.inr (.inr (.inr (fun j => (F k j).map ad)))))
def tk_ws (γ : tG) (ad : Nat → Nat) (h : tH) : va_W := h.1.zipIdx.map (fun q => (ad q.2, tk_cell γ ad h.2.1 h.2.2 q.2 q.1))
def tk_upR (S : tS) (k : Nat) (f : Nat → Int32) : tS := fun i => if i = k then f else S i
def tk_up (S : tS) (k j : Nat) (x : Int32) : tS := tk_upR S k (upd (S k) j x)
def tk_upF (F : tF) (k j : Nat) (x : Option Nat) : tF := fun i => if i = k then va_up (F k) j x else F i
theorem tk_ws_get {γ : tG} {ad : Nat → Nat} {h : tH} {k : Nat} {q : Nat × Nat} (hk : h.1[k]? = some q) : (tk_ws γ ad h)[k]? = some (ad k, tk_cell γ ad h.2.1 h.2.2 k q) := by
  simp [tk_ws, List.getElem?_zipIdx, hk]
theorem tk_cell_eq {γ : tG} {ad : Nat → Nat} {S S' : tS} {F F' : tF} {k : Nat} (q : Nat × Nat) (h1 : S' k = S k) (h2 : F' k = F k) : tk_cell γ ad S' F' k q = tk_cell γ ad S F k q := by
  unfold tk_cell tk_fv
  rw [h1, h2]
theorem tk_ws_set {γ : tG} {ad : Nat → Nat} {sh : List (Nat × Nat)} {S S' : tS} {F F' : tF} {k : Nat} {q : Nat × Nat} {e : va_E} (hk : sh[k]? = some q) (he : tk_cell γ ad S' F' k q = e) (ho : ∀ i, i ≠ k → S' i = S i ∧ F' i = F i) : (tk_ws γ ad (sh, S, F)).set k (ad k, e) = tk_ws γ ad (sh, S', F') := by
  apply List.ext_getElem?
  intro i
  by_cases hi : i = k
  · subst hi
    have hl : i < (tk_ws γ ad (sh, S, F)).length := (List.getElem?_eq_some_iff.mp (tk_ws_get (γ := γ) (ad := ad) (h := (sh, S, F)) hk)).1
    rw [List.getElem?_set_self hl, tk_ws_get (h := (sh, S', F')) hk, ← he]
  · rw [List.getElem?_set_ne (Ne.symm hi)]
    cases hq : sh[i]? with
    | none => simp [tk_ws, List.getElem?_zipIdx, hq]
    | some r =>
      rw [tk_ws_get (h := (sh, S, F)) hq, tk_ws_get (h := (sh, S', F')) hq]
      rw [tk_cell_eq r (ho i hi).1 (ho i hi).2]
theorem tk_ws_push {γ : tG} {ad ad' : Nat → Nat} {sh : List (Nat × Nat)} {S S' : tS} {F F' : tF} {q : Nat × Nat} {e : va_E} {a : Nat} (ha : ad' sh.length = a) (had : ∀ i, i < sh.length → ad' i = ad i) (he : tk_cell γ ad' S' F' sh.length q = e) (ho : ∀ i, i < sh.length → tk_cell γ ad' S' F' i = tk_cell γ ad S F i) : tk_ws γ ad (sh, S, F) ++ [(a, e)] = tk_ws γ ad' (sh ++ [q], S', F') := by
  apply List.ext_getElem?
  intro i
  have hl : (tk_ws γ ad (sh, S, F)).length = sh.length := by simp [tk_ws]
  by_cases hi : i < sh.length
  · rw [List.getElem?_append_left (by rw [hl]; exact hi)]
    obtain ⟨r, hq⟩ : ∃ r, sh[i]? = some r := ⟨_, List.getElem?_eq_getElem hi⟩
    rw [tk_ws_get (h := (sh, S, F)) hq, tk_ws_get (h := (sh ++ [q], S', F')) (k := i) (q := r) (by show (sh ++ [q])[i]? = _; rw [List.getElem?_append_left hi]; exact hq)]
    show some (ad i, tk_cell γ ad S F i r) = some (ad' i, tk_cell γ ad' S' F' i r)
    rw [had i hi, ho i hi]
  · by_cases hj : i = sh.length
    · subst hj
      rw [List.getElem?_append_right (by rw [hl]; exact Nat.le_refl _), hl, Nat.sub_self, tk_ws_get (h := (sh ++ [q], S', F')) (k := sh.length) (q := q) (by show (sh ++ [q])[sh.length]? = _; simp)]
      show some (a, e) = some (ad' sh.length, _)
      rw [ha, he]
    · rw [List.getElem?_eq_none (by simp [hl]; omega)]
      symm
      apply List.getElem?_eq_none
      simp [tk_ws]; omega
def tk_TS : List Cond := lw_tbl.filter goodWord
theorem tk_in {w : Cond} (i : Nat) (h : lw_tbl[i]? = some w) (g : goodWord w = true) : w ∈ tk_TS := List.mem_filter.mpr ⟨List.mem_of_getElem? h, g⟩
theorem tk_goodTS : GoodIn tk_TS tk_TS := fun w hw => ⟨hw, good_of_word (List.mem_filter.mp hw).2⟩
def tk_NX (U : State) : Prop := va_Nw (.methodLinkNest RX7 18 yX3_init RX7) U ∧ va_Nw (.methodLinkNest RX7 42 yX5_init RX7) U ∧ va_Nw (.methodLinkNest RX7 52 yX0_init RX7) U ∧ va_Nw (.methodLinkNest RX7 59 yX6_init RX7) U ∧ va_Nw (.methodLinkNest RX7 66 yX1_init RX7) U ∧ va_Nw (.methodLinkNest RX7 77 yX4_init RX7) U ∧ va_AO "TellKeys$Sheet" U
theorem tk_NX.warm {s U : State} (hW : s.WarmedH U.vm) (h : tk_NX s) : tk_NX U := ⟨va_Nw.warmM hW h.1, va_Nw.warmM hW h.2.1, va_Nw.warmM hW h.2.2.1, va_Nw.warmM hW h.2.2.2.1, va_Nw.warmM hW h.2.2.2.2.1, va_Nw.warmM hW h.2.2.2.2.2.1, va_AO.moved hW.alike h.2.2.2.2.2.2⟩
theorem tk_NX.same {s U : State} (hW : s.vm = U.vm) (h : tk_NX s) : tk_NX U := ⟨va_Nw.same rfl hW h.1, va_Nw.same rfl hW h.2.1, va_Nw.same rfl hW h.2.2.1, va_Nw.same rfl hW h.2.2.2.1, va_Nw.same rfl hW h.2.2.2.2.1, va_Nw.same rfl hW h.2.2.2.2.2.1, va_AO.moved (by rw [hW]; exact Vm.Alike.refl _) h.2.2.2.2.2.2⟩
abbrev tk_tys (γ : tG) : List (ClassId × FieldType) := [(γ.2.1, .int), (γ.2.2.1, .byte), (γ.2.2.2, .object "TellKeys$Sheet")]
def tk_K (γ : tG) (U : State) : Prop := va_K γ.1 vwCl (tk_tys γ) U ∧ tk_NX U
theorem tk_K.warm {γ : tG} {s U : State} (hW : s.WarmedH U.vm) (h : tk_K γ s) : tk_K γ U := ⟨va_K.moved hW.alike h.1, h.2.warm hW⟩
/-- the machine at a method -/
def tk_C (μ : tM) (γ : tG) (p : Program) (R : Room) (s : State) (m : MethodId) (args : Array Value) (meth : Method) (c : Code) (A : Nat → Prop) : Prop :=
  p.tables.exec = Jvm.exec ∧ c.code = μ.2.1 ∧ c.maxLocals = μ.2.2.1 ∧ s.vm.findClass μ.1.cls = some m.cls ∧ (∀ w ∈ tk_TS, w.before args s = true) ∧ tk_K γ s ∧ (∀ q, s.heap.size ≤ q → A q) ∧ (μ.1.name = "<init>" → meth.name = "<init>") ∧ μ.2.2.2.2 ≤ R.frames ∧ 64 * μ.2.2.2.2 ≤ R.locals
def tk_W (γ : tG) (s : State) (A : Nat → Prop) (ad : Nat → Nat) (h : tH) (H : Heap) (locs : List Loc) : Prop := va_P γ.1 vwCl (tk_ws γ ad h) H ∧ va_D A (tk_ws γ ad h) ∧ va_S A s.heap H locs
def tk_X (sx : tX) (ad : Nat → Nat) (A : Nat → Prop) (s : State) : Prop := ∀ (L : Nat) (xs : Nat → Int32), sx = some (L, xs) → va_X (ad 4096) L xs s s.heap ∧ ad 4096 < s.heap.size ∧ ¬ A (ad 4096)
def tk_ad (n : Nat) (ad ad' : Nat → Nat) : Prop := ad' 4096 = ad 4096 ∧ ∀ k, k < n → ad' k = ad k
theorem tk_ad.rf {n : Nat} {ad : Nat → Nat} : tk_ad n ad ad := ⟨rfl, fun _ _ => rfl⟩
/-- what holds behind the method's end -/
def tk_R (μ : tM) (γ : tG) (p : Program) (l : Launch) (e : Env) (R : Room) (s : State) (m : MethodId) (args : Array Value) (below : List Frame) (meth : Method) (c : Code) (A : Nat → Prop) (n : Nat) (ad : Nat → Nat) (cells slots : Nat) (Fq : State → Prop) (Q : Int32 → tH → Prop) : Prop :=
  ∀ (x : Int32) (h' : tH) (ad' : Nat → Nat) (H' : Heap) (locs' : List Loc) (cells' slots' : Nat) (lsA' : Array Slot) (pc' : Nat), cells' ≤ cells → slots' ≤ slots → n ≤ h'.1.length → tk_ad n ad ad' → Q x h' → tk_W γ s A ad' h' H' locs' →
    (μ.2.2.2.1 ≠ none → decode μ.2.1 pc' = .ok (.ireturn, 1) → W p l e R s m args below meth c H' locs' cells' slots' Fq (F0 m pc' lsA' [.int x])) ∧ (μ.2.2.2.1 = none → x = 0 → decode μ.2.1 pc' = .ok (.return_, 1) → W p l e R s m args below meth c H' locs' cells' slots' Fq (F0 m pc' lsA' []))
def tk_L (ad : Nat → Nat) (lsA : Array Slot) (n : Nat) (ls : List Value) : Prop := lsA.size = n ∧ lv_wf lsA ∧ ∀ (i : Nat) (v : Value), ls[i]? = some v → v ≠ .null → lsA[i]? = some (.val (tk_cv ad v))
def tk_G (μ : tM) (a b : Nat) (sx : tX) (pc : Nat) (ls st : List Value) (h : tH) (Q : Int32 → tH → Prop) : Prop :=
  ∀ (γ : tG) (p : Program) (l : Launch) (e : Env) (R : Room) (s : State) (m : MethodId) (args : Array Value) (below : List Frame) (meth : Method) (c : Code) (A : Nat → Prop) (H : Heap) (locs : List Loc) (cells slots : Nat) (Fq : State → Prop) (lsA : Array Slot) (ad : Nat → Nat),
    tk_C μ γ p R s m args meth c A → tk_X sx ad A s → cells + a ≤ R.cells ∧ slots + b ≤ R.slots → tk_R μ γ p l e R s m args below meth c A h.1.length ad (cells + a) (slots + b) Fq Q → tk_W γ s A ad h H locs → tk_L ad lsA μ.2.2.1 ls → W p l e R s m args below meth c H locs cells slots Fq (F0 m pc lsA (st.map (tk_cv ad)))
theorem g_iconst {μ : tM} {a b : Nat} {sx : tX} {pc : Nat} {ls st : List Value} {h : tH} {Q : Int32 → tH → Prop} {n : Int} {v : Int32} (hd : decode μ.2.1 pc = .ok (.iconst n, 1)) (hv : Int32.ofInt n = v) (k : tk_G μ a b sx (pc + 1) ls (.int v :: st) h Q) : tk_G μ a b sx pc ls st h Q := by
  intro γ p l e R s m args below meth c A H locs cells slots Fq lsA ad hC hX hB hR hW hL
  exact lv_iconst hC.1 hC.2.1 hd hv (k γ p l e R s m args below meth c A H locs cells slots Fq lsA ad hC hX hB hR hW hL)
theorem g_bipush {μ : tM} {a b : Nat} {sx : tX} {pc : Nat} {ls st : List Value} {h : tH} {Q : Int32 → tH → Prop} {n : Int} {v : Int32} (hd : decode μ.2.1 pc = .ok (.bipush n, 2)) (hv : (Int8.ofInt n).toInt32 = v) (k : tk_G μ a b sx (pc + 2) ls (.int v :: st) h Q) : tk_G μ a b sx pc ls st h Q := by
  intro γ p l e R s m args below meth c A H locs cells slots Fq lsA ad hC hX hB hR hW hL
  exact lv_bipush hC.1 hC.2.1 hd hv (k γ p l e R s m args below meth c A H locs cells slots Fq lsA ad hC hX hB hR hW hL)
theorem g_sipush {μ : tM} {a b : Nat} {sx : tX} {pc : Nat} {ls st : List Value} {h : tH} {Q : Int32 → tH → Prop} {n : Int} {v : Int32} (hd : decode μ.2.1 pc = .ok (.sipush n, 3)) (hv : (Int16.ofInt n).toInt32 = v) (k : tk_G μ a b sx (pc + 3) ls (.int v :: st) h Q) : tk_G μ a b sx pc ls st h Q := by
  intro γ p l e R s m args below meth c A H locs cells slots Fq lsA ad hC hX hB hR hW hL
  exact lv_sipush hC.1 hC.2.1 hd hv (k γ p l e R s m args below meth c A H locs cells slots Fq lsA ad hC hX hB hR hW hL)
theorem g_lconst {μ : tM} {a b : Nat} {sx : tX} {pc : Nat} {ls st : List Value} {h : tH} {Q : Int32 → tH → Prop} {n : Fin 2} {v : Int64} (hd : decode μ.2.1 pc = .ok (.lconst n, 1)) (hv : Int64.ofNat (n : Nat) = v) (k : tk_G μ a b sx (pc + 1) ls (.long v :: st) h Q) : tk_G μ a b sx pc ls st h Q := by
  intro γ p l e R s m args below meth c A H locs cells slots Fq lsA ad hC hX hB hR hW hL
  exact lv_lconst hC.1 hC.2.1 hd hv (k γ p l e R s m args below meth c A H locs cells slots Fq lsA ad hC hX hB hR hW hL)
theorem g_iload_n {μ : tM} {a b : Nat} {sx : tX} {pc : Nat} {ls st : List Value} {h : tH} {Q : Int32 → tH → Prop} {k : Fin 4} {x : Int32} (hd : decode μ.2.1 pc = .ok (.iload_n k, 1)) (hl : ls[(k : Nat)]? = some (.int x)) (kk : tk_G μ a b sx (pc + 1) ls (.int x :: st) h Q) : tk_G μ a b sx pc ls st h Q := by
  intro γ p l e R s m args below meth c A H locs cells slots Fq lsA ad hC hX hB hR hW hL
  exact lv_iload_n hC.1 hC.2.1 hd rfl (hL.2.2 _ _ hl (by intro e; cases e)) (kk γ p l e R s m args below meth c A H locs cells slots Fq lsA ad hC hX hB hR hW hL)
theorem g_iload {μ : tM} {a b : Nat} {sx : tX} {pc : Nat} {ls st : List Value} {h : tH} {Q : Int32 → tH → Prop} {i : Nat} {x : Int32} (hd : decode μ.2.1 pc = .ok (.iload i, 2)) (hl : ls[i]? = some (.int x)) (kk : tk_G μ a b sx (pc + 2) ls (.int x :: st) h Q) : tk_G μ a b sx pc ls st h Q := by
  intro γ p l e R s m args below meth c A H locs cells slots Fq lsA ad hC hX hB hR hW hL
  exact lv_iload hC.1 hC.2.1 hd (hL.2.2 _ _ hl (by intro e; cases e)) (kk γ p l e R s m args below meth c A H locs cells slots Fq lsA ad hC hX hB hR hW hL)
theorem g_lload_n {μ : tM} {a b : Nat} {sx : tX} {pc : Nat} {ls st : List Value} {h : tH} {Q : Int32 → tH → Prop} {k : Fin 4} {x : Int64} (hd : decode μ.2.1 pc = .ok (.lload_n k, 1)) (hl : ls[(k : Nat)]? = some (.long x)) (kk : tk_G μ a b sx (pc + 1) ls (.long x :: st) h Q) : tk_G μ a b sx pc ls st h Q := by
  intro γ p l e R s m args below meth c A H locs cells slots Fq lsA ad hC hX hB hR hW hL
  exact lv_lload_n hC.1 hC.2.1 hd rfl (hL.2.2 _ _ hl (by intro e; cases e)) (kk γ p l e R s m args below meth c A H locs cells slots Fq lsA ad hC hX hB hR hW hL)
theorem g_lload {μ : tM} {a b : Nat} {sx : tX} {pc : Nat} {ls st : List Value} {h : tH} {Q : Int32 → tH → Prop} {i : Nat} {x : Int64} (hd : decode μ.2.1 pc = .ok (.lload i, 2)) (hl : ls[i]? = some (.long x)) (kk : tk_G μ a b sx (pc + 2) ls (.long x :: st) h Q) : tk_G μ a b sx pc ls st h Q := by
  intro γ p l e R s m args below meth c A H locs cells slots Fq lsA ad hC hX hB hR hW hL
  exact lv_lload hC.1 hC.2.1 hd (hL.2.2 _ _ hl (by intro e; cases e)) (kk γ p l e R s m args below meth c A H locs cells slots Fq lsA ad hC hX hB hR hW hL)
theorem g_aload_n {μ : tM} {a b : Nat} {sx : tX} {pc : Nat} {ls st : List Value} {h : tH} {Q : Int32 → tH → Prop} {k : Fin 4} {x : Nat} (hd : decode μ.2.1 pc = .ok (.aload_n k, 1)) (hl : ls[(k : Nat)]? = some (.ref x)) (kk : tk_G μ a b sx (pc + 1) ls (.ref x :: st) h Q) : tk_G μ a b sx pc ls st h Q := by
  intro γ p l e R s m args below meth c A H locs cells slots Fq lsA ad hC hX hB hR hW hL
  exact lv_aload_n hC.1 hC.2.1 hd rfl (hL.2.2 _ _ hl (by intro e; cases e)) (kk γ p l e R s m args below meth c A H locs cells slots Fq lsA ad hC hX hB hR hW hL)
theorem g_aload {μ : tM} {a b : Nat} {sx : tX} {pc : Nat} {ls st : List Value} {h : tH} {Q : Int32 → tH → Prop} {i : Nat} {x : Nat} (hd : decode μ.2.1 pc = .ok (.aload i, 2)) (hl : ls[i]? = some (.ref x)) (kk : tk_G μ a b sx (pc + 2) ls (.ref x :: st) h Q) : tk_G μ a b sx pc ls st h Q := by
  intro γ p l e R s m args below meth c A H locs cells slots Fq lsA ad hC hX hB hR hW hL
  exact lv_aload hC.1 hC.2.1 hd (hL.2.2 _ _ hl (by intro e; cases e)) (kk γ p l e R s m args below meth c A H locs cells slots Fq lsA ad hC hX hB hR hW hL)
def tk_prs (ad : Nat → Nat) (ls : List Value) : List (Nat × Value) := ls.zipIdx.filterMap (fun q => if q.1 = .null then none else some (q.2, tk_cv ad q.1))
theorem tk_prs_mem {ad : Nat → Nat} {ls : List Value} {i : Nat} {w : Value} : (i, w) ∈ tk_prs ad ls ↔ ∃ v, ls[i]? = some v ∧ v ≠ .null ∧ w = tk_cv ad v := by
  unfold tk_prs
  rw [List.mem_filterMap]
  constructor
  · rintro ⟨⟨v, j⟩, h1, h2⟩
    by_cases hv : v = .null
    · simp [hv] at h2
    · simp only [hv, if_false, Option.some.injEq, Prod.mk.injEq] at h2
      obtain ⟨e1, e2⟩ := h2
      subst e1
      exact ⟨v, by simpa [List.mk_mem_zipIdx_iff_getElem?] using h1, hv, e2.symm⟩
  · rintro ⟨v, h1, h2, h3⟩
    exact ⟨(v, i), by simpa [List.mk_mem_zipIdx_iff_getElem?] using h1, by simp [h2, h3]⟩
theorem tk_L.has {ad : Nat → Nat} {lsA : Array Slot} {n : Nat} {ls : List Value} (h : tk_L ad lsA n ls) : lv_has lsA n (tk_prs ad ls) := by
  refine ⟨h.1, h.2.1, fun q hq => ?_⟩
  obtain ⟨i, w⟩ := q
  obtain ⟨v, h1, h2, h3⟩ := tk_prs_mem.mp hq
  rw [h3]
  exact h.2.2 i v h1 h2
/-- no long stands just below place i -/
def tk_nl (ls : List Value) (i : Nat) : Bool := match i with
  | 0 => true
  | j + 1 => match ls[j]? with
    | some (.long _) => false
    | some (.double _) => false
    | _ => true
theorem tk_cat {ad : Nat → Nat} {v : Value} (h : (tk_cv ad v).category = 2) : (∃ x, v = .long x) ∨ ∃ x, v = .double x := by
  cases v <;> simp_all [tk_cv, Value.category]
theorem tk_L.set {ad : Nat → Nat} {lsB : Array Slot} {n i : Nat} {ls : List Value} {v : Value} (hn : tk_nl ls i = true) (h : lv_has lsB n ((i, tk_cv ad v) :: (tk_prs ad ls).filter (fun q => !(q.1 == i) && !(q.1 + 1 == i && q.2.category == 2)))) : tk_L ad lsB n (ls.set i v) := by
  refine ⟨h.1, h.2.1, fun j w hj hw => ?_⟩
  by_cases hji : j = i
  · subst hji
    have hl : j < ls.length := by
      have := (List.getElem?_eq_some_iff.mp hj).1
      simpa using this
    rw [List.getElem?_set_self hl] at hj
    cases hj
    exact h.2.2 (j, tk_cv ad v) List.mem_cons_self
  · rw [List.getElem?_set_ne (Ne.symm hji)] at hj
    refine h.2.2 (j, tk_cv ad w) (List.mem_cons_of_mem _ (List.mem_filter.mpr ⟨tk_prs_mem.mpr ⟨w, hj, hw, rfl⟩, ?_⟩))
    by_cases hc : j + 1 = i ∧ (tk_cv ad w).category = 2
    · exfalso
      obtain ⟨e, hc⟩ := hc
      subst e
      rcases tk_cat hc with ⟨x, rfl⟩ | ⟨x, rfl⟩ <;> simp [tk_nl, hj] at hn
    · simp only [Bool.and_eq_true, Bool.not_eq_true', beq_eq_false_iff_ne, ne_eq, Bool.and_eq_false_iff]
      refine ⟨hji, ?_⟩
      by_cases h1 : j + 1 = i
      · exact Or.inr (fun e => hc ⟨h1, e⟩)
      · exact Or.inl h1
theorem g_istore_n {μ : tM} {a b : Nat} {sx : tX} {pc : Nat} {ls st : List Value} {h : tH} {Q : Int32 → tH → Prop} {k : Fin 4} {x : Int32} {ls' : List Value} (hd : decode μ.2.1 pc = .ok (.istore_n k, 1)) (hn : tk_nl ls (k : Nat) = true) (hk : (k : Nat) < μ.2.2.1) (hl : ls.set (k : Nat) (.int x) = ls') (kk : tk_G μ a b sx (pc + 1) ls' st h Q) : tk_G μ a b sx pc ls (.int x :: st) h Q := by
  intro γ p l e R s m args below meth c A H locs cells slots Fq lsA ad hC hX hB hR hW hL
  subst hl
  exact lv_istore_n hC.1 hC.2.1 hd rfl hL.has hk rfl (fun lsB h2 => kk γ p l e R s m args below meth c A H locs cells slots Fq lsB ad hC hX hB hR hW (tk_L.set (v := .int x) hn h2))
theorem g_istore {μ : tM} {a b : Nat} {sx : tX} {pc : Nat} {ls st : List Value} {h : tH} {Q : Int32 → tH → Prop} {i : Nat} {x : Int32} {ls' : List Value} (hd : decode μ.2.1 pc = .ok (.istore i, 2)) (hn : tk_nl ls i = true) (hk : i < μ.2.2.1) (hl : ls.set i (.int x) = ls') (kk : tk_G μ a b sx (pc + 2) ls' st h Q) : tk_G μ a b sx pc ls (.int x :: st) h Q := by
  intro γ p l e R s m args below meth c A H locs cells slots Fq lsA ad hC hX hB hR hW hL
  subst hl
  exact lv_istore hC.1 hC.2.1 hd hL.has hk rfl (fun lsB h2 => kk γ p l e R s m args below meth c A H locs cells slots Fq lsB ad hC hX hB hR hW (tk_L.set (v := .int x) hn h2))
theorem g_astore_n {μ : tM} {a b : Nat} {sx : tX} {pc : Nat} {ls st : List Value} {h : tH} {Q : Int32 → tH → Prop} {k : Fin 4} {x : Nat} {ls' : List Value} (hd : decode μ.2.1 pc = .ok (.astore_n k, 1)) (hn : tk_nl ls (k : Nat) = true) (hk : (k : Nat) < μ.2.2.1) (hl : ls.set (k : Nat) (.ref x) = ls') (kk : tk_G μ a b sx (pc + 1) ls' st h Q) : tk_G μ a b sx pc ls (.ref x :: st) h Q := by
  intro γ p l e R s m args below meth c A H locs cells slots Fq lsA ad hC hX hB hR hW hL
  subst hl
  exact lv_astore_n hC.1 hC.2.1 hd rfl hL.has hk rfl (fun lsB h2 => kk γ p l e R s m args below meth c A H locs cells slots Fq lsB ad hC hX hB hR hW (tk_L.set (v := .ref x) hn h2))
theorem g_astore {μ : tM} {a b : Nat} {sx : tX} {pc : Nat} {ls st : List Value} {h : tH} {Q : Int32 → tH → Prop} {i : Nat} {x : Nat} {ls' : List Value} (hd : decode μ.2.1 pc = .ok (.astore i, 2)) (hn : tk_nl ls i = true) (hk : i < μ.2.2.1) (hl : ls.set i (.ref x) = ls') (kk : tk_G μ a b sx (pc + 2) ls' st h Q) : tk_G μ a b sx pc ls (.ref x :: st) h Q := by
  intro γ p l e R s m args below meth c A H locs cells slots Fq lsA ad hC hX hB hR hW hL
  subst hl
  exact lv_astore hC.1 hC.2.1 hd hL.has hk rfl (fun lsB h2 => kk γ p l e R s m args below meth c A H locs cells slots Fq lsB ad hC hX hB hR hW (tk_L.set (v := .ref x) hn h2))
theorem g_iinc {μ : tM} {a b : Nat} {sx : tX} {pc : Nat} {ls st : List Value} {h : tH} {Q : Int32 → tH → Prop} {i : Nat} {n : Int} {x v : Int32} {ls' : List Value} (hd : decode μ.2.1 pc = .ok (.iinc i n, 3)) (hx : ls[i]? = some (.int x)) (hn : tk_nl ls i = true) (hk : i < μ.2.2.1) (hv : x + Int32.ofInt n = v) (hl : ls.set i (.int v) = ls') (kk : tk_G μ a b sx (pc + 3) ls' st h Q) : tk_G μ a b sx pc ls st h Q := by
  intro γ p l e R s m args below meth c A H locs cells slots Fq lsA ad hC hX hB hR hW hL
  subst hl
  obtain ⟨z, hz⟩ := List.getElem?_of_mem (tk_prs_mem.mpr ⟨_, hx, (by intro e; cases e), rfl⟩ : (i, tk_cv ad (.int x)) ∈ tk_prs ad ls)
  exact lv_iinc (k := z) hC.1 hC.2.1 hd hL.has hz hv hk rfl (fun lsB h2 => kk γ p l e R s m args below meth c A H locs cells slots Fq lsB ad hC hX hB hR hW (tk_L.set (v := .int v) hn h2))
theorem g_iadd {μ : tM} {a b : Nat} {sx : tX} {pc : Nat} {ls st : List Value} {h : tH} {Q : Int32 → tH → Prop} {x y : Int32} (hd : decode μ.2.1 pc = .ok (.iadd, 1))  (k : tk_G μ a b sx (pc + 1) ls (.int (x + y) :: st) h Q) : tk_G μ a b sx pc ls (.int y :: .int x :: st) h Q := by
  intro γ p l e R s m args below meth c A H locs cells slots Fq lsA ad hC hX hB hR hW hL
  exact lv_iadd hC.1 hC.2.1 hd  (k γ p l e R s m args below meth c A H locs cells slots Fq lsA ad hC hX hB hR hW hL)
theorem g_isub {μ : tM} {a b : Nat} {sx : tX} {pc : Nat} {ls st : List Value} {h : tH} {Q : Int32 → tH → Prop} {x y : Int32} (hd : decode μ.2.1 pc = .ok (.isub, 1))  (k : tk_G μ a b sx (pc + 1) ls (.int (x - y) :: st) h Q) : tk_G μ a b sx pc ls (.int y :: .int x :: st) h Q := by
  intro γ p l e R s m args below meth c A H locs cells slots Fq lsA ad hC hX hB hR hW hL
  exact lv_isub hC.1 hC.2.1 hd  (k γ p l e R s m args below meth c A H locs cells slots Fq lsA ad hC hX hB hR hW hL)
theorem g_imul {μ : tM} {a b : Nat} {sx : tX} {pc : Nat} {ls st : List Value} {h : tH} {Q : Int32 → tH → Prop} {x y : Int32} (hd : decode μ.2.1 pc = .ok (.imul, 1))  (k : tk_G μ a b sx (pc + 1) ls (.int (x * y) :: st) h Q) : tk_G μ a b sx pc ls (.int y :: .int x :: st) h Q := by
  intro γ p l e R s m args below meth c A H locs cells slots Fq lsA ad hC hX hB hR hW hL
  exact lv_imul hC.1 hC.2.1 hd  (k γ p l e R s m args below meth c A H locs cells slots Fq lsA ad hC hX hB hR hW hL)
theorem g_iand {μ : tM} {a b : Nat} {sx : tX} {pc : Nat} {ls st : List Value} {h : tH} {Q : Int32 → tH → Prop} {x y : Int32} (hd : decode μ.2.1 pc = .ok (.iand, 1))  (k : tk_G μ a b sx (pc + 1) ls (.int (x &&& y) :: st) h Q) : tk_G μ a b sx pc ls (.int y :: .int x :: st) h Q := by
  intro γ p l e R s m args below meth c A H locs cells slots Fq lsA ad hC hX hB hR hW hL
  exact lv_iand hC.1 hC.2.1 hd  (k γ p l e R s m args below meth c A H locs cells slots Fq lsA ad hC hX hB hR hW hL)
theorem g_ior {μ : tM} {a b : Nat} {sx : tX} {pc : Nat} {ls st : List Value} {h : tH} {Q : Int32 → tH → Prop} {x y : Int32} (hd : decode μ.2.1 pc = .ok (.ior, 1))  (k : tk_G μ a b sx (pc + 1) ls (.int (x ||| y) :: st) h Q) : tk_G μ a b sx pc ls (.int y :: .int x :: st) h Q := by
  intro γ p l e R s m args below meth c A H locs cells slots Fq lsA ad hC hX hB hR hW hL
  exact lv_ior hC.1 hC.2.1 hd  (k γ p l e R s m args below meth c A H locs cells slots Fq lsA ad hC hX hB hR hW hL)
theorem g_ixor {μ : tM} {a b : Nat} {sx : tX} {pc : Nat} {ls st : List Value} {h : tH} {Q : Int32 → tH → Prop} {x y : Int32} (hd : decode μ.2.1 pc = .ok (.ixor, 1))  (k : tk_G μ a b sx (pc + 1) ls (.int (x ^^^ y) :: st) h Q) : tk_G μ a b sx pc ls (.int y :: .int x :: st) h Q := by
  intro γ p l e R s m args below meth c A H locs cells slots Fq lsA ad hC hX hB hR hW hL
  exact lv_ixor hC.1 hC.2.1 hd  (k γ p l e R s m args below meth c A H locs cells slots Fq lsA ad hC hX hB hR hW hL)
theorem g_ishl {μ : tM} {a b : Nat} {sx : tX} {pc : Nat} {ls st : List Value} {h : tH} {Q : Int32 → tH → Prop} {x y : Int32} (hd : decode μ.2.1 pc = .ok (.ishl, 1))  (k : tk_G μ a b sx (pc + 1) ls (.int (x <<< (y &&& 31)) :: st) h Q) : tk_G μ a b sx pc ls (.int y :: .int x :: st) h Q := by
  intro γ p l e R s m args below meth c A H locs cells slots Fq lsA ad hC hX hB hR hW hL
  exact lv_ishl hC.1 hC.2.1 hd  (k γ p l e R s m args below meth c A H locs cells slots Fq lsA ad hC hX hB hR hW hL)
theorem g_ishr {μ : tM} {a b : Nat} {sx : tX} {pc : Nat} {ls st : List Value} {h : tH} {Q : Int32 → tH → Prop} {x y : Int32} (hd : decode μ.2.1 pc = .ok (.ishr, 1))  (k : tk_G μ a b sx (pc + 1) ls (.int (x >>> (y &&& 31)) :: st) h Q) : tk_G μ a b sx pc ls (.int y :: .int x :: st) h Q := by
  intro γ p l e R s m args below meth c A H locs cells slots Fq lsA ad hC hX hB hR hW hL
  exact lv_ishr hC.1 hC.2.1 hd  (k γ p l e R s m args below meth c A H locs cells slots Fq lsA ad hC hX hB hR hW hL)
theorem g_ineg {μ : tM} {a b : Nat} {sx : tX} {pc : Nat} {ls st : List Value} {h : tH} {Q : Int32 → tH → Prop} {x : Int32} (hd : decode μ.2.1 pc = .ok (.ineg, 1))  (k : tk_G μ a b sx (pc + 1) ls (.int (-x) :: st) h Q) : tk_G μ a b sx pc ls (.int x :: st) h Q := by
  intro γ p l e R s m args below meth c A H locs cells slots Fq lsA ad hC hX hB hR hW hL
  exact lv_ineg hC.1 hC.2.1 hd  (k γ p l e R s m args below meth c A H locs cells slots Fq lsA ad hC hX hB hR hW hL)
theorem g_idiv {μ : tM} {a b : Nat} {sx : tX} {pc : Nat} {ls st : List Value} {h : tH} {Q : Int32 → tH → Prop} {x y : Int32} (hd : decode μ.2.1 pc = .ok (.idiv, 1)) (hne : ¬ y = 0) (k : tk_G μ a b sx (pc + 1) ls (.int (x / y) :: st) h Q) : tk_G μ a b sx pc ls (.int y :: .int x :: st) h Q := by
  intro γ p l e R s m args below meth c A H locs cells slots Fq lsA ad hC hX hB hR hW hL
  exact lv_idiv hC.1 hC.2.1 hd hne (k γ p l e R s m args below meth c A H locs cells slots Fq lsA ad hC hX hB hR hW hL)
theorem g_irem {μ : tM} {a b : Nat} {sx : tX} {pc : Nat} {ls st : List Value} {h : tH} {Q : Int32 → tH → Prop} {x y : Int32} (hd : decode μ.2.1 pc = .ok (.irem, 1)) (hne : ¬ y = 0) (k : tk_G μ a b sx (pc + 1) ls (.int (x - x / y * y) :: st) h Q) : tk_G μ a b sx pc ls (.int y :: .int x :: st) h Q := by
  intro γ p l e R s m args below meth c A H locs cells slots Fq lsA ad hC hX hB hR hW hL
  exact lv_irem hC.1 hC.2.1 hd hne (k γ p l e R s m args below meth c A H locs cells slots Fq lsA ad hC hX hB hR hW hL)
theorem g_land {μ : tM} {a b : Nat} {sx : tX} {pc : Nat} {ls st : List Value} {h : tH} {Q : Int32 → tH → Prop} {x y : Int64} (hd : decode μ.2.1 pc = .ok (.land, 1))  (k : tk_G μ a b sx (pc + 1) ls (.long (x &&& y) :: st) h Q) : tk_G μ a b sx pc ls (.long y :: .long x :: st) h Q := by
  intro γ p l e R s m args below meth c A H locs cells slots Fq lsA ad hC hX hB hR hW hL
  exact lv_land hC.1 hC.2.1 hd  (k γ p l e R s m args below meth c A H locs cells slots Fq lsA ad hC hX hB hR hW hL)
theorem g_lor {μ : tM} {a b : Nat} {sx : tX} {pc : Nat} {ls st : List Value} {h : tH} {Q : Int32 → tH → Prop} {x y : Int64} (hd : decode μ.2.1 pc = .ok (.lor, 1))  (k : tk_G μ a b sx (pc + 1) ls (.long (x ||| y) :: st) h Q) : tk_G μ a b sx pc ls (.long y :: .long x :: st) h Q := by
  intro γ p l e R s m args below meth c A H locs cells slots Fq lsA ad hC hX hB hR hW hL
  exact lv_lor hC.1 hC.2.1 hd  (k γ p l e R s m args below meth c A H locs cells slots Fq lsA ad hC hX hB hR hW hL)
theorem g_lsub {μ : tM} {a b : Nat} {sx : tX} {pc : Nat} {ls st : List Value} {h : tH} {Q : Int32 → tH → Prop} {x y : Int64} (hd : decode μ.2.1 pc = .ok (.lsub, 1))  (k : tk_G μ a b sx (pc + 1) ls (.long (x - y) :: st) h Q) : tk_G μ a b sx pc ls (.long y :: .long x :: st) h Q := by
  intro γ p l e R s m args below meth c A H locs cells slots Fq lsA ad hC hX hB hR hW hL
  exact lv_lsub hC.1 hC.2.1 hd  (k γ p l e R s m args below meth c A H locs cells slots Fq lsA ad hC hX hB hR hW hL)
theorem g_ladd {μ : tM} {a b : Nat} {sx : tX} {pc : Nat} {ls st : List Value} {h : tH} {Q : Int32 → tH → Prop} {x y : Int64} (hd : decode μ.2.1 pc = .ok (.ladd, 1))  (k : tk_G μ a b sx (pc + 1) ls (.long (x + y) :: st) h Q) : tk_G μ a b sx pc ls (.long y :: .long x :: st) h Q := by
  intro γ p l e R s m args below meth c A H locs cells slots Fq lsA ad hC hX hB hR hW hL
  exact lv_ladd hC.1 hC.2.1 hd  (k γ p l e R s m args below meth c A H locs cells slots Fq lsA ad hC hX hB hR hW hL)
theorem g_lshl {μ : tM} {a b : Nat} {sx : tX} {pc : Nat} {ls st : List Value} {h : tH} {Q : Int32 → tH → Prop} {x : Int64} {y : Int32} (hd : decode μ.2.1 pc = .ok (.lshl, 1))  (k : tk_G μ a b sx (pc + 1) ls (.long (x <<< (y.toInt64 &&& 63)) :: st) h Q) : tk_G μ a b sx pc ls (.int y :: .long x :: st) h Q := by
  intro γ p l e R s m args below meth c A H locs cells slots Fq lsA ad hC hX hB hR hW hL
  exact lv_lshl hC.1 hC.2.1 hd rfl (k γ p l e R s m args below meth c A H locs cells slots Fq lsA ad hC hX hB hR hW hL)
theorem g_lshr {μ : tM} {a b : Nat} {sx : tX} {pc : Nat} {ls st : List Value} {h : tH} {Q : Int32 → tH → Prop} {x : Int64} {y : Int32} (hd : decode μ.2.1 pc = .ok (.lshr, 1))  (k : tk_G μ a b sx (pc + 1) ls (.long (x >>> (y.toInt64 &&& 63)) :: st) h Q) : tk_G μ a b sx pc ls (.int y :: .long x :: st) h Q := by
  intro γ p l e R s m args below meth c A H locs cells slots Fq lsA ad hC hX hB hR hW hL
  exact lv_lshr hC.1 hC.2.1 hd rfl (k γ p l e R s m args below meth c A H locs cells slots Fq lsA ad hC hX hB hR hW hL)
theorem g_i2l {μ : tM} {a b : Nat} {sx : tX} {pc : Nat} {ls st : List Value} {h : tH} {Q : Int32 → tH → Prop} {x : Int32} (hd : decode μ.2.1 pc = .ok (.i2l, 1))  (k : tk_G μ a b sx (pc + 1) ls (.long x.toInt64 :: st) h Q) : tk_G μ a b sx pc ls (.int x :: st) h Q := by
  intro γ p l e R s m args below meth c A H locs cells slots Fq lsA ad hC hX hB hR hW hL
  exact lv_i2l hC.1 hC.2.1 hd rfl (k γ p l e R s m args below meth c A H locs cells slots Fq lsA ad hC hX hB hR hW hL)
theorem g_l2i {μ : tM} {a b : Nat} {sx : tX} {pc : Nat} {ls st : List Value} {h : tH} {Q : Int32 → tH → Prop} {x : Int64} (hd : decode μ.2.1 pc = .ok (.l2i, 1))  (k : tk_G μ a b sx (pc + 1) ls (.int x.toInt32 :: st) h Q) : tk_G μ a b sx pc ls (.long x :: st) h Q := by
  intro γ p l e R s m args below meth c A H locs cells slots Fq lsA ad hC hX hB hR hW hL
  exact lv_l2i hC.1 hC.2.1 hd rfl (k γ p l e R s m args below meth c A H locs cells slots Fq lsA ad hC hX hB hR hW hL)
theorem g_i2b {μ : tM} {a b : Nat} {sx : tX} {pc : Nat} {ls st : List Value} {h : tH} {Q : Int32 → tH → Prop} {x : Int32} (hd : decode μ.2.1 pc = .ok (.i2b, 1))  (k : tk_G μ a b sx (pc + 1) ls (.int x.toInt8.toInt32 :: st) h Q) : tk_G μ a b sx pc ls (.int x :: st) h Q := by
  intro γ p l e R s m args below meth c A H locs cells slots Fq lsA ad hC hX hB hR hW hL
  exact lv_i2b hC.1 hC.2.1 hd rfl (k γ p l e R s m args below meth c A H locs cells slots Fq lsA ad hC hX hB hR hW hL)
theorem g_i2s {μ : tM} {a b : Nat} {sx : tX} {pc : Nat} {ls st : List Value} {h : tH} {Q : Int32 → tH → Prop} {x : Int32} (hd : decode μ.2.1 pc = .ok (.i2s, 1))  (k : tk_G μ a b sx (pc + 1) ls (.int x.toInt16.toInt32 :: st) h Q) : tk_G μ a b sx pc ls (.int x :: st) h Q := by
  intro γ p l e R s m args below meth c A H locs cells slots Fq lsA ad hC hX hB hR hW hL
  exact lv_i2s hC.1 hC.2.1 hd rfl (k γ p l e R s m args below meth c A H locs cells slots Fq lsA ad hC hX hB hR hW hL)
theorem g_lcmp {μ : tM} {a b : Nat} {sx : tX} {pc : Nat} {ls st : List Value} {h : tH} {Q : Int32 → tH → Prop} {x y : Int64} (hd : decode μ.2.1 pc = .ok (.lcmp, 1))  (k : tk_G μ a b sx (pc + 1) ls (.int (lg_cmp x y) :: st) h Q) : tk_G μ a b sx pc ls (.long y :: .long x :: st) h Q := by
  intro γ p l e R s m args below meth c A H locs cells slots Fq lsA ad hC hX hB hR hW hL
  exact W.lcmp hC.1 hC.2.1 hd  (k γ p l e R s m args below meth c A H locs cells slots Fq lsA ad hC hX hB hR hW hL)
theorem tk_cat1 {ad : Nat → Nat} {v : Value} (h : v.category = 1) : (tk_cv ad v).category = 1 := by cases v <;> simp_all [tk_cv, Value.category]
theorem g_dup {μ : tM} {a b : Nat} {sx : tX} {pc : Nat} {ls st : List Value} {h : tH} {Q : Int32 → tH → Prop} {v : Value} (hd : decode μ.2.1 pc = .ok (.dup, 1)) (hv : v.category = 1) (k : tk_G μ a b sx (pc + 1) ls (v :: v :: st) h Q) : tk_G μ a b sx pc ls (v :: st) h Q := by
  intro γ p l e R s m args below meth c A H locs cells slots Fq lsA ad hC hX hB hR hW hL
  exact lv_dup hC.1 hC.2.1 hd (tk_cat1 hv) (k γ p l e R s m args below meth c A H locs cells slots Fq lsA ad hC hX hB hR hW hL)
theorem g_pop {μ : tM} {a b : Nat} {sx : tX} {pc : Nat} {ls st : List Value} {h : tH} {Q : Int32 → tH → Prop} {v : Value} (hd : decode μ.2.1 pc = .ok (.pop, 1)) (hv : v.category = 1) (k : tk_G μ a b sx (pc + 1) ls st h Q) : tk_G μ a b sx pc ls (v :: st) h Q := by
  intro γ p l e R s m args below meth c A H locs cells slots Fq lsA ad hC hX hB hR hW hL
  exact lv_pop hC.1 hC.2.1 hd (tk_cat1 hv) (k γ p l e R s m args below meth c A H locs cells slots Fq lsA ad hC hX hB hR hW hL)
theorem g_dup2 {μ : tM} {a b : Nat} {sx : tX} {pc : Nat} {ls st : List Value} {h : tH} {Q : Int32 → tH → Prop} {v w : Value} (hd : decode μ.2.1 pc = .ok (.dup2, 1)) (hv : v.category = 1) (hw : w.category = 1) (k : tk_G μ a b sx (pc + 1) ls (v :: w :: v :: w :: st) h Q) : tk_G μ a b sx pc ls (v :: w :: st) h Q := by
  intro γ p l e R s m args below meth c A H locs cells slots Fq lsA ad hC hX hB hR hW hL
  exact lv_dup2_11 hC.1 hC.2.1 hd (tk_cat1 hv) (tk_cat1 hw) (k γ p l e R s m args below meth c A H locs cells slots Fq lsA ad hC hX hB hR hW hL)
theorem g_if_eq {μ : tM} {a b : Nat} {sx : tX} {pc : Nat} {ls st : List Value} {h : tH} {Q : Int32 → tH → Prop} {x : Int32} {off : Int} {tgt : Nat} (hd : decode μ.2.1 pc = .ok (.ifCond .eq off, 3)) (ht : (pc : Int) + off = (tgt : Int)) (kt : x = 0 → tk_G μ a b sx tgt ls st h Q) (kf : ¬ x = 0 → tk_G μ a b sx (pc + 3) ls st h Q) : tk_G μ a b sx pc ls (.int x :: st) h Q := by
  intro γ p l e R s m args below meth c A H locs cells slots Fq lsA ad hC hX hB hR hW hL
  exact lv_if_eq hC.1 hC.2.1 hd ht (fun q => kt q γ p l e R s m args below meth c A H locs cells slots Fq lsA ad hC hX hB hR hW hL) (fun q => kf q γ p l e R s m args below meth c A H locs cells slots Fq lsA ad hC hX hB hR hW hL)
theorem g_icmp_eq {μ : tM} {a b : Nat} {sx : tX} {pc : Nat} {ls st : List Value} {h : tH} {Q : Int32 → tH → Prop} {x y : Int32} {off : Int} {tgt : Nat} (hd : decode μ.2.1 pc = .ok (.if_icmp .eq off, 3)) (ht : (pc : Int) + off = (tgt : Int)) (kt : x = y → tk_G μ a b sx tgt ls st h Q) (kf : ¬ x = y → tk_G μ a b sx (pc + 3) ls st h Q) : tk_G μ a b sx pc ls (.int y :: .int x :: st) h Q := by
  intro γ p l e R s m args below meth c A H locs cells slots Fq lsA ad hC hX hB hR hW hL
  exact lv_icmp_eq hC.1 hC.2.1 hd ht (fun q => kt q γ p l e R s m args below meth c A H locs cells slots Fq lsA ad hC hX hB hR hW hL) (fun q => kf q γ p l e R s m args below meth c A H locs cells slots Fq lsA ad hC hX hB hR hW hL)
theorem g_if_ne {μ : tM} {a b : Nat} {sx : tX} {pc : Nat} {ls st : List Value} {h : tH} {Q : Int32 → tH → Prop} {x : Int32} {off : Int} {tgt : Nat} (hd : decode μ.2.1 pc = .ok (.ifCond .ne off, 3)) (ht : (pc : Int) + off = (tgt : Int)) (kt : ¬ x = 0 → tk_G μ a b sx tgt ls st h Q) (kf : x = 0 → tk_G μ a b sx (pc + 3) ls st h Q) : tk_G μ a b sx pc ls (.int x :: st) h Q := by
  intro γ p l e R s m args below meth c A H locs cells slots Fq lsA ad hC hX hB hR hW hL
  exact lv_if_ne hC.1 hC.2.1 hd ht (fun q => kt q γ p l e R s m args below meth c A H locs cells slots Fq lsA ad hC hX hB hR hW hL) (fun q => kf q γ p l e R s m args below meth c A H locs cells slots Fq lsA ad hC hX hB hR hW hL)
theorem g_icmp_ne {μ : tM} {a b : Nat} {sx : tX} {pc : Nat} {ls st : List Value} {h : tH} {Q : Int32 → tH → Prop} {x y : Int32} {off : Int} {tgt : Nat} (hd : decode μ.2.1 pc = .ok (.if_icmp .ne off, 3)) (ht : (pc : Int) + off = (tgt : Int)) (kt : ¬ x = y → tk_G μ a b sx tgt ls st h Q) (kf : x = y → tk_G μ a b sx (pc + 3) ls st h Q) : tk_G μ a b sx pc ls (.int y :: .int x :: st) h Q := by
  intro γ p l e R s m args below meth c A H locs cells slots Fq lsA ad hC hX hB hR hW hL
  exact lv_icmp_ne hC.1 hC.2.1 hd ht (fun q => kt q γ p l e R s m args below meth c A H locs cells slots Fq lsA ad hC hX hB hR hW hL) (fun q => kf q γ p l e R s m args below meth c A H locs cells slots Fq lsA ad hC hX hB hR hW hL)
theorem g_if_lt {μ : tM} {a b : Nat} {sx : tX} {pc : Nat} {ls st : List Value} {h : tH} {Q : Int32 → tH → Prop} {x : Int32} {off : Int} {tgt : Nat} (hd : decode μ.2.1 pc = .ok (.ifCond .lt off, 3)) (ht : (pc : Int) + off = (tgt : Int)) (kt : x < 0 → tk_G μ a b sx tgt ls st h Q) (kf : ¬ x < 0 → tk_G μ a b sx (pc + 3) ls st h Q) : tk_G μ a b sx pc ls (.int x :: st) h Q := by
  intro γ p l e R s m args below meth c A H locs cells slots Fq lsA ad hC hX hB hR hW hL
  exact lv_if_lt hC.1 hC.2.1 hd ht (fun q => kt q γ p l e R s m args below meth c A H locs cells slots Fq lsA ad hC hX hB hR hW hL) (fun q => kf q γ p l e R s m args below meth c A H locs cells slots Fq lsA ad hC hX hB hR hW hL)
theorem g_icmp_lt {μ : tM} {a b : Nat} {sx : tX} {pc : Nat} {ls st : List Value} {h : tH} {Q : Int32 → tH → Prop} {x y : Int32} {off : Int} {tgt : Nat} (hd : decode μ.2.1 pc = .ok (.if_icmp .lt off, 3)) (ht : (pc : Int) + off = (tgt : Int)) (kt : x < y → tk_G μ a b sx tgt ls st h Q) (kf : ¬ x < y → tk_G μ a b sx (pc + 3) ls st h Q) : tk_G μ a b sx pc ls (.int y :: .int x :: st) h Q := by
  intro γ p l e R s m args below meth c A H locs cells slots Fq lsA ad hC hX hB hR hW hL
  exact lv_icmp_lt hC.1 hC.2.1 hd ht (fun q => kt q γ p l e R s m args below meth c A H locs cells slots Fq lsA ad hC hX hB hR hW hL) (fun q => kf q γ p l e R s m args below meth c A H locs cells slots Fq lsA ad hC hX hB hR hW hL)
theorem g_if_ge {μ : tM} {a b : Nat} {sx : tX} {pc : Nat} {ls st : List Value} {h : tH} {Q : Int32 → tH → Prop} {x : Int32} {off : Int} {tgt : Nat} (hd : decode μ.2.1 pc = .ok (.ifCond .ge off, 3)) (ht : (pc : Int) + off = (tgt : Int)) (kt : 0 ≤ x → tk_G μ a b sx tgt ls st h Q) (kf : ¬ 0 ≤ x → tk_G μ a b sx (pc + 3) ls st h Q) : tk_G μ a b sx pc ls (.int x :: st) h Q := by
  intro γ p l e R s m args below meth c A H locs cells slots Fq lsA ad hC hX hB hR hW hL
  exact lv_if_ge hC.1 hC.2.1 hd ht (fun q => kt q γ p l e R s m args below meth c A H locs cells slots Fq lsA ad hC hX hB hR hW hL) (fun q => kf q γ p l e R s m args below meth c A H locs cells slots Fq lsA ad hC hX hB hR hW hL)
theorem g_icmp_ge {μ : tM} {a b : Nat} {sx : tX} {pc : Nat} {ls st : List Value} {h : tH} {Q : Int32 → tH → Prop} {x y : Int32} {off : Int} {tgt : Nat} (hd : decode μ.2.1 pc = .ok (.if_icmp .ge off, 3)) (ht : (pc : Int) + off = (tgt : Int)) (kt : y ≤ x → tk_G μ a b sx tgt ls st h Q) (kf : ¬ y ≤ x → tk_G μ a b sx (pc + 3) ls st h Q) : tk_G μ a b sx pc ls (.int y :: .int x :: st) h Q := by
  intro γ p l e R s m args below meth c A H locs cells slots Fq lsA ad hC hX hB hR hW hL
  exact lv_icmp_ge hC.1 hC.2.1 hd ht (fun q => kt q γ p l e R s m args below meth c A H locs cells slots Fq lsA ad hC hX hB hR hW hL) (fun q => kf q γ p l e R s m args below meth c A H locs cells slots Fq lsA ad hC hX hB hR hW hL)
theorem g_if_gt {μ : tM} {a b : Nat} {sx : tX} {pc : Nat} {ls st : List Value} {h : tH} {Q : Int32 → tH → Prop} {x : Int32} {off : Int} {tgt : Nat} (hd : decode μ.2.1 pc = .ok (.ifCond .gt off, 3)) (ht : (pc : Int) + off = (tgt : Int)) (kt : 0 < x → tk_G μ a b sx tgt ls st h Q) (kf : ¬ 0 < x → tk_G μ a b sx (pc + 3) ls st h Q) : tk_G μ a b sx pc ls (.int x :: st) h Q := by
  intro γ p l e R s m args below meth c A H locs cells slots Fq lsA ad hC hX hB hR hW hL
  exact lv_if_gt hC.1 hC.2.1 hd ht (fun q => kt q γ p l e R s m args below meth c A H locs cells slots Fq lsA ad hC hX hB hR hW hL) (fun q => kf q γ p l e R s m args below meth c A H locs cells slots Fq lsA ad hC hX hB hR hW hL)
theorem g_icmp_gt {μ : tM} {a b : Nat} {sx : tX} {pc : Nat} {ls st : List Value} {h : tH} {Q : Int32 → tH → Prop} {x y : Int32} {off : Int} {tgt : Nat} (hd : decode μ.2.1 pc = .ok (.if_icmp .gt off, 3)) (ht : (pc : Int) + off = (tgt : Int)) (kt : y < x → tk_G μ a b sx tgt ls st h Q) (kf : ¬ y < x → tk_G μ a b sx (pc + 3) ls st h Q) : tk_G μ a b sx pc ls (.int y :: .int x :: st) h Q := by
  intro γ p l e R s m args below meth c A H locs cells slots Fq lsA ad hC hX hB hR hW hL
  exact lv_icmp_gt hC.1 hC.2.1 hd ht (fun q => kt q γ p l e R s m args below meth c A H locs cells slots Fq lsA ad hC hX hB hR hW hL) (fun q => kf q γ p l e R s m args below meth c A H locs cells slots Fq lsA ad hC hX hB hR hW hL)
theorem g_if_le {μ : tM} {a b : Nat} {sx : tX} {pc : Nat} {ls st : List Value} {h : tH} {Q : Int32 → tH → Prop} {x : Int32} {off : Int} {tgt : Nat} (hd : decode μ.2.1 pc = .ok (.ifCond .le off, 3)) (ht : (pc : Int) + off = (tgt : Int)) (kt : x ≤ 0 → tk_G μ a b sx tgt ls st h Q) (kf : ¬ x ≤ 0 → tk_G μ a b sx (pc + 3) ls st h Q) : tk_G μ a b sx pc ls (.int x :: st) h Q := by
  intro γ p l e R s m args below meth c A H locs cells slots Fq lsA ad hC hX hB hR hW hL
  exact lv_if_le hC.1 hC.2.1 hd ht (fun q => kt q γ p l e R s m args below meth c A H locs cells slots Fq lsA ad hC hX hB hR hW hL) (fun q => kf q γ p l e R s m args below meth c A H locs cells slots Fq lsA ad hC hX hB hR hW hL)
theorem g_icmp_le {μ : tM} {a b : Nat} {sx : tX} {pc : Nat} {ls st : List Value} {h : tH} {Q : Int32 → tH → Prop} {x y : Int32} {off : Int} {tgt : Nat} (hd : decode μ.2.1 pc = .ok (.if_icmp .le off, 3)) (ht : (pc : Int) + off = (tgt : Int)) (kt : x ≤ y → tk_G μ a b sx tgt ls st h Q) (kf : ¬ x ≤ y → tk_G μ a b sx (pc + 3) ls st h Q) : tk_G μ a b sx pc ls (.int y :: .int x :: st) h Q := by
  intro γ p l e R s m args below meth c A H locs cells slots Fq lsA ad hC hX hB hR hW hL
  exact lv_icmp_le hC.1 hC.2.1 hd ht (fun q => kt q γ p l e R s m args below meth c A H locs cells slots Fq lsA ad hC hX hB hR hW hL) (fun q => kf q γ p l e R s m args below meth c A H locs cells slots Fq lsA ad hC hX hB hR hW hL)
theorem g_goto {μ : tM} {a b : Nat} {sx : tX} {pc : Nat} {ls st : List Value} {h : tH} {Q : Int32 → tH → Prop} {off : Int} {tgt : Nat} (hd : decode μ.2.1 pc = .ok (.goto off, 3)) (ht : (pc : Int) + off = (tgt : Int)) (k : tk_G μ a b sx tgt ls st h Q) : tk_G μ a b sx pc ls st h Q := by
  intro γ p l e R s m args below meth c A H locs cells slots Fq lsA ad hC hX hB hR hW hL
  exact lv_goto hC.1 hC.2.1 hd ht (k γ p l e R s m args below meth c A H locs cells slots Fq lsA ad hC hX hB hR hW hL)
theorem g_tabIn {μ : tM} {a b : Nat} {sx : tX} {pc : Nat} {ls st : List Value} {h : tH} {Q : Int32 → tH → Prop} {dflt lo hi : Int} {offs : Array Int} {len : Nat} {x : Int32} {off : Int} {tgt : Nat} (hd : decode μ.2.1 pc = .ok (.tableswitch dflt lo hi offs, len)) (h1 : ¬ x.toInt < lo) (h2 : ¬ hi < x.toInt) (ho : offs[(x.toInt - lo).toNat]? = some off) (ht : (pc : Int) + off = (tgt : Int)) (k : tk_G μ a b sx tgt ls st h Q) : tk_G μ a b sx pc ls (.int x :: st) h Q := by
  intro γ p l e R s m args below meth c A H locs cells slots Fq lsA ad hC hX hB hR hW hL
  exact lv_tableIn hC.1 hC.2.1 hd h1 h2 ho ht (k γ p l e R s m args below meth c A H locs cells slots Fq lsA ad hC hX hB hR hW hL)
theorem g_tabOut {μ : tM} {a b : Nat} {sx : tX} {pc : Nat} {ls st : List Value} {h : tH} {Q : Int32 → tH → Prop} {dflt lo hi : Int} {offs : Array Int} {len : Nat} {x : Int32} {tgt : Nat} (hd : decode μ.2.1 pc = .ok (.tableswitch dflt lo hi offs, len)) (h1 : x.toInt < lo ∨ hi < x.toInt) (ht : (pc : Int) + dflt = (tgt : Int)) (k : tk_G μ a b sx tgt ls st h Q) : tk_G μ a b sx pc ls (.int x :: st) h Q := by
  intro γ p l e R s m args below meth c A H locs cells slots Fq lsA ad hC hX hB hR hW hL
  exact lv_tableOut hC.1 hC.2.1 hd h1 ht (k γ p l e R s m args below meth c A H locs cells slots Fq lsA ad hC hX hB hR hW hL)
theorem g_lookup {μ : tM} {a b : Nat} {sx : tX} {pc : Nat} {ls st : List Value} {h : tH} {Q : Int32 → tH → Prop} {dflt : Int} {ps : Array (Int × Int)} {len : Nat} {x : Int32} {off : Int} {tgt : Nat} (hd : decode μ.2.1 pc = .ok (.lookupswitch dflt ps, len)) (hp : (ps.toList.zip (ps.toList.drop 1)).all (fun (a, next) => a.1 < next.1) = true) (ho : Op.lookupswitch.offset ps.toList dflt x.toInt = off) (ht : (pc : Int) + off = (tgt : Int)) (k : tk_G μ a b sx tgt ls st h Q) : tk_G μ a b sx pc ls (.int x :: st) h Q := by
  intro γ p l e R s m args below meth c A H locs cells slots Fq lsA ad hC hX hB hR hW hL
  exact lv_lookup hC.1 hC.2.1 hd hp ho ht (k γ p l e R s m args below meth c A H locs cells slots Fq lsA ad hC hX hB hR hW hL)
theorem g_ldc2 {μ : tM} {a b : Nat} {sx : tX} {pc : Nat} {ls st : List Value} {h : tH} {Q : Int32 → tH → Prop} {index : Nat} {v : Int64} (hd : decode μ.2.1 pc = .ok (.ldc2_w index, 3)) (hw : Cond.constantLong μ.1.cls index v ∈ tk_TS) (k : tk_G μ a b sx (pc + 3) ls (.long v :: st) h Q) : tk_G μ a b sx pc ls st h Q := by
  intro γ p l e R s m args below meth c A H locs cells slots Fq lsA ad hC hX hB hR hW hL
  exact lv_ldc2 hC.1 hC.2.1 hC.2.2.2.1 (hC.2.2.2.2.1 _ hw) hd (k γ p l e R s m args below meth c A H locs cells slots Fq lsA ad hC hX hB hR hW hL)
theorem g_iret {μ : tM} {a b : Nat} {sx : tX} {pc : Nat} {ls st : List Value} {h : tH} {Q : Int32 → tH → Prop} {x : Int32} (hd : decode μ.2.1 pc = .ok (.ireturn, 1)) (hr : μ.2.2.2.1 ≠ none) (k : Q x h) : tk_G μ a b sx pc ls [.int x] h Q := by
  intro γ p l e R s m args below meth c A H locs cells slots Fq lsA ad hC hX hB hR hW hL
  exact (hR x h ad H locs cells slots lsA pc (Nat.le_add_right _ _) (Nat.le_add_right _ _) (Nat.le_refl _) tk_ad.rf k hW).1 hr hd
theorem g_vret {μ : tM} {a b : Nat} {sx : tX} {pc : Nat} {ls st : List Value} {h : tH} {Q : Int32 → tH → Prop} (hd : decode μ.2.1 pc = .ok (.return_, 1)) (hr : μ.2.2.2.1 = none) (k : Q 0 h) : tk_G μ a b sx pc ls [] h Q := by
  intro γ p l e R s m args below meth c A H locs cells slots Fq lsA ad hC hX hB hR hW hL
  exact (hR 0 h ad H locs cells slots lsA pc (Nat.le_add_right _ _) (Nat.le_add_right _ _) (Nat.le_refl _) tk_ad.rf k hW).2 hr rfl hd
