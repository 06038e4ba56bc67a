/-! CONSTRUCTORS: new cells -/
def tk_Fw (n : Nat) (F : tF) : Prop := ∀ i j k, F i j = some k → k < n
theorem tk_Fw.none {n : Nat} : tk_Fw n (fun _ _ => none) := fun _ _ _ h => by cases h
theorem tk_Fw.mono {n n' : Nat} {F : tF} (h : tk_Fw n F) (hn : n ≤ n') : tk_Fw n' F := fun i j k e => Nat.lt_of_lt_of_le (h i j k e) hn
theorem tk_Fw.up {n k j k' : Nat} {F : tF} (hk : k' < n) (h : tk_Fw n F) : tk_Fw n (tk_upF F k j (some k')) := by
  intro i l x e
  unfold tk_upF at e
  by_cases hi : i = k
  · rw [if_pos hi] at e
    unfold va_up at e
    by_cases hl : l = j
    · rw [if_pos hl] at e
      cases e
      exact hk
    · rw [if_neg hl] at e
      exact h _ _ _ e
  · rw [if_neg hi] at e
    exact h _ _ _ e
theorem tk_cell_ad {γ : tG} {ad ad' : Nat → Nat} {S : tS} {F : tF} {n i : Nat} (hF : tk_Fw n F) (had : ∀ k, k < n → ad' k = ad k) : tk_cell γ ad' S F i = tk_cell γ ad S F i := by
  have e : ∀ j, (F i j).map ad' = (F i j).map ad := by
    intro j
    cases hx : F i j with
    | none => rfl
    | some k =>
      show some (ad' k) = some (ad k)
      rw [had k (hF i j k hx)]
  funext q
  unfold tk_cell tk_fv
  simp only [e]
def tk_df (ci n : Nat) : List Value := (List.range n).map (fun j => if tk_isR ci j = true then .null else .int 0)
section CTOR
variable {μ : tM} {a b : Nat} {sx : tX} {pc : Nat} {ls st : List Value} {sh : List (Nat × Nat)} {S : tS} {F : tF} {Q : Int32 → tH → Prop} {n : Nat}
theorem tk_pushed {γ : tG} {p : Program} {l : Launch} {e : Env} {R : Room} {s : State} {m : MethodId} {args : Array Value} {below : List Frame} {meth : Method} {c : Code} {A : Nat → Prop} {H : Heap} {locs : List Loc} {cells slots : Nat} {Fq : State → Prop} {lsA : Array Slot} {ad : Nat → Nat} {q : Nat × Nat} {en : va_E} {k N addr : Nat} (hC : tk_C μ γ p R s m args meth c A) (hX : tk_X sx ad A s) (hB : cells + (a + 1) ≤ R.cells ∧ slots + (b + k) ≤ R.slots) (hR : tk_R μ γ p l e R s m args below meth c A sh.length ad (cells + (a + 1)) (slots + (b + k)) Fq Q) (hL : tk_L ad lsA μ.2.2.1 ls) (hN : sh.length = N) (h4 : N < 4096) (hFw : tk_Fw N F) (hwf : tk_wf N (ls ++ st) = true) (he : ∀ ad', tk_cell γ ad' S F N q = en) (hP : va_P γ.1 vwCl (tk_ws γ ad (sh, S, F) ++ [(addr, en)]) H) (hD : va_D A (tk_ws γ ad (sh, S, F) ++ [(addr, en)])) (hS : va_S A s.heap H locs) (kk : tk_G μ a b sx pc ls (.ref N :: st) (sh ++ [q], S, F) Q) : W p l e R s m args below meth c H locs (cells + 1) (slots + k) Fq (F0 m pc lsA (.ref addr :: st.map (tk_cv ad))) := by
  subst hN
  generalize hA' : (fun i => if i = sh.length then addr else ad i) = ad'
  have eN : ad' sh.length = addr := by rw [← hA']; exact if_pos rfl
  have eo : ∀ i, i < sh.length → ad' i = ad i := fun i hi => by rw [← hA']; exact if_neg (by omega)
  have had : tk_ad sh.length ad ad' := ⟨by rw [← hA']; exact if_neg (by omega), eo⟩
  have ews : tk_ws γ ad (sh, S, F) ++ [(addr, en)] = tk_ws γ ad' (sh ++ [q], S, F) := tk_ws_push eN eo (he ad') (fun i _ => tk_cell_ad hFw eo)
  rw [ews] at hP hD
  have hcv := tk_wf_cv had hwf
  have e1 : (Value.ref addr :: st.map (tk_cv ad)) = (Value.ref sh.length :: st).map (tk_cv ad') := by
    rw [List.map_cons]
    show _ = Value.ref (ad' sh.length) :: _
    rw [eN]
    refine congrArg (fun z => Value.ref addr :: z) (List.map_congr_left fun v hv => (hcv v (List.mem_append_right _ hv)).symm)
  rw [e1]
  refine kk γ p l e R s m args below meth c A H locs (cells + 1) (slots + k) Fq lsA ad' hC (fun L xs hs => ?_) ⟨by omega, by omega⟩ ?_ ⟨hP, hD, hS⟩ ⟨hL.1, hL.2.1, fun i v hi hv => ?_⟩
  · rw [had.1]
    exact hX L xs hs
  · intro x h2 ad2 H2 locs2 cells2 slots2 lsA2 pc2 c1 c2 c3 c4 c5 c6
    have c3 : (sh ++ [q]).length ≤ h2.1.length := c3
    rw [List.length_append] at c3
    have c4 : tk_ad (sh ++ [q]).length ad' ad2 := c4
    exact hR x h2 ad2 H2 locs2 cells2 slots2 lsA2 pc2 (by omega) (by omega) (by omega) (tk_ad.trans (by rw [List.length_append]; omega) had c4) c5 c6
  · rw [hcv v (List.mem_append_left _ (List.mem_of_getElem? hi))]
    exact hL.2.2 i v hi hv
theorem g_new {idx ci k N : Nat} {C : String} {T : u_T} {ty : Nat → FieldType} (hd : decode μ.2.1 pc = .ok (.new idx, 3)) (hc : vwCl[ci]? = some (C, T, k)) (hci : ci < 9) (hw : Cond.classLink μ.1.cls idx C ∈ tk_TS ∧ Cond.instantiable C k ∈ tk_TS ∧ Cond.initialized C ∈ tk_TS) (hlay : ∀ w ∈ u_ws C T k, w ∈ tk_TS) (hty : ∀ j, j < k → parseFieldDescriptor (T j).2.2.1 = some (ty j)) (hdf : ∀ j, j < k → defaultValue (ty j) = vp_V (tk_df ci k) j) (hN : sh.length = N) (h4 : N < 4096) (hFw : tk_Fw N F) (hwf : tk_wf N (ls ++ st) = true) (hS : ∀ j, S N j = 0) (hF : ∀ j, F N j = none) (kk : tk_G μ a b sx (pc + 3) ls (.ref N :: st) (sh ++ [(ci, k)], S, F) Q) : tk_G μ (a + 1) (b + k) sx pc ls st (sh, S, F) Q := by
  intro γ p l e R s m args below meth c A H locs cells slots Fq lsA ad hC hX hB hR hW hL
  have hts := hC.2.2.2.2.1
  refine va_new (D := γ.1) (cl := vwCl) (ci := ci) (C := C) (T := T) (N := k) (tys := tk_tys γ) (ws := tk_ws γ ad (sh, S, F)) hC.1 hC.2.1 hts hlay ty hty hC.2.2.2.1 (hts _ hw.1) (hts _ hw.2.1) (hts _ hw.2.2) hC.2.2.2.2.2.1.1 hW.1 hW.2.1 hW.2.2 hC.2.2.2.2.2.2.1 hc (fs := tk_df ci k) hdf (by omega) (by omega) hd (fun q H1 hP hD hS1 => ?_)
  refine tk_pushed hC hX hB hR hL hN h4 hFw hwf (fun ad' => ?_) hP hD hS1 kk
  rw [tk_cell_o hci]
  unfold tk_df
  refine congrArg (fun z => (Sum.inr (ci, z) : va_E)) (List.map_congr_left fun j _ => ?_)
  unfold tk_fv
  rw [hS j, hF j]
  rfl
theorem tk_arr : Cond.arrayClass .int ∈ tk_TS ∧ Cond.arrayClass .byte ∈ tk_TS := ⟨tk_in 86 (by decide +kernel) (by decide +kernel), tk_in 136 (by decide +kernel) (by decide +kernel)⟩
theorem g_newI {x : Int32} {k N : Nat} (hd : decode μ.2.1 pc = .ok (.newarray .int, 2)) (hx : ¬ x < 0) (hk : x.toNatClampNeg = k) (hby : k * 4 ≤ 536870912) (hN : sh.length = N) (h4 : N < 4096) (hFw : tk_Fw N F) (hwf : tk_wf N (ls ++ st) = true) (hS : ∀ j, S N j = 0) (kk : tk_G μ a b sx (pc + 2) ls (.ref N :: st) (sh ++ [(10, k)], S, F) Q) : tk_G μ (a + 1) (b + k) sx pc ls (.int x :: st) (sh, S, F) Q := by
  intro γ p l e R s m args below meth c A H locs cells slots Fq lsA ad hC hX hB hR hW hL
  have hts := hC.2.2.2.2.1
  have hK := hC.2.2.2.2.2.1.1
  refine va_newa (D := γ.1) (cl := vwCl) (tys := tk_tys γ) (ws := tk_ws γ ad (sh, S, F)) (atype := .int) (ty := .int) (N' := k) (a0 := (k, .inl (fun _ => 0))) hC.1 hC.2.1 (hts _ tk_arr.1) rfl hK hW.1 hW.2.1 hW.2.2 hC.2.2.2.2.2.2.1 (fun _ => rfl) hx hk hby (by omega) (by omega) hd (fun q cA H1 hK1 hP hD hS1 => ?_)
  have r0 : va_RA s γ.2.1 .int := (hK.2 0 _ rfl).2
  have r1 : va_RA s cA .int := (hK1.2 3 _ rfl).2
  have ec : cA = γ.2.1 := Option.some.inj (r1.symm.trans r0)
  subst ec
  refine tk_pushed hC hX hB hR hL hN h4 hFw hwf (fun ad' => ?_) hP hD hS1 kk
  rw [tk_cell_i]
  have e0 : S N = fun _ => 0 := funext hS
  rw [e0]
theorem g_newB {x : Int32} {k N : Nat} (hd : decode μ.2.1 pc = .ok (.newarray .byte, 2)) (hx : ¬ x < 0) (hk : x.toNatClampNeg = k) (hby : k * 1 ≤ 536870912) (hN : sh.length = N) (h4 : N < 4096) (hFw : tk_Fw N F) (hwf : tk_wf N (ls ++ st) = true) (hS : ∀ j, S N j = 0) (kk : tk_G μ a b sx (pc + 2) ls (.ref N :: st) (sh ++ [(9, k)], S, F) Q) : tk_G μ (a + 1) (b + k) sx pc ls (.int x :: st) (sh, S, F) Q := by
  intro γ p l e R s m args below meth c A H locs cells slots Fq lsA ad hC hX hB hR hW hL
  have hts := hC.2.2.2.2.1
  have hK := hC.2.2.2.2.2.1.1
  refine va_newa (D := γ.1) (cl := vwCl) (tys := tk_tys γ) (ws := tk_ws γ ad (sh, S, F)) (atype := .byte) (ty := .byte) (N' := k) (a0 := (k, .inl (fun _ => 0))) hC.1 hC.2.1 (hts _ tk_arr.2) rfl hK hW.1 hW.2.1 hW.2.2 hC.2.2.2.2.2.2.1 (fun _ => rfl) hx hk hby (by omega) (by omega) hd (fun q cA H1 hK1 hP hD hS1 => ?_)
  have r0 : va_RA s γ.2.2.1 .byte := (hK.2 1 _ rfl).2
  have r1 : va_RA s cA .byte := (hK1.2 3 _ rfl).2
  have ec : cA = γ.2.2.1 := Option.some.inj (r1.symm.trans r0)
  subst ec
  refine tk_pushed hC hX hB hR hL hN h4 hFw hwf (fun ad' => ?_) hP hD hS1 kk
  rw [tk_cell_b]
  have e0 : S N = fun _ => 0 := funext hS
  rw [e0]
theorem g_newQ {x : Int32} {idx k N : Nat} (hd : decode μ.2.1 pc = .ok (.anewarray idx, 3)) (hw : Cond.classLink μ.1.cls idx "TellKeys$Sheet" ∈ tk_TS) (hx : ¬ x < 0) (hk : x.toNatClampNeg = k) (hby : k * 4 ≤ 536870912) (hN : sh.length = N) (h4 : N < 4096) (hFw : tk_Fw N F) (hwf : tk_wf N (ls ++ st) = true) (hF : ∀ j, F N j = none) (kk : tk_G μ a b sx (pc + 3) ls (.ref N :: st) (sh ++ [(11, k)], S, F) Q) : tk_G μ (a + 1) (b + k) sx pc ls (.int x :: st) (sh, S, F) Q := by
  intro γ p l e R s m args below meth c A H locs cells slots Fq lsA ad hC hX hB hR hW hL
  have hts := hC.2.2.2.2.1
  have hK := hC.2.2.2.2.2.1.1
  have hNX := hC.2.2.2.2.2.1.2
  refine va_newq (D := γ.1) (cl := vwCl) (tys := tk_tys γ) (ws := tk_ws γ ad (sh, S, F)) (C := "TellKeys$Sheet") hC.1 hC.2.1 hC.2.2.2.1 (hts _ hw) hNX.2.2.2.2.2.2 hK hW.1 hW.2.1 hW.2.2 hC.2.2.2.2.2.2.1 hx hk hby (by omega) (by omega) hd (fun q cA H1 hK1 hP hD hS1 => ?_)
  obtain ⟨kA, comp, -, -, -, r0⟩ := (hK.2 2 _ rfl).2
  obtain ⟨kA', comp', -, -, -, r1⟩ := (hK1.2 3 _ rfl).2
  have ec : cA = γ.2.2.2 := Option.some.inj (r1.symm.trans r0)
  subst ec
  refine tk_pushed hC hX hB hR hL hN h4 hFw hwf (fun ad' => ?_) hP hD hS1 kk
  rw [tk_cell_q]
  have e0 : (fun j => (F N j).map ad') = fun _ => none := funext fun j => by rw [hF j]; rfl
  rw [e0]
theorem g_putRF {idx ci j k k' : Nat} {ty : FieldType} (hd : decode μ.2.1 pc = .ok (.putfield idx, 3)) (hf : tk_fl μ.1.cls idx ci j true ty) (hown : ∀ q, vwCl[ci]? = some q → q.1 = μ.1.cls) (hin : μ.1.name = "<init>") (hk : sh[k]? = some (ci, n)) (hj : j < n) (hc : ci < 9) (hr : tk_isR ci j = true) (hn : ∀ x, narrow ty (.ref x) = .ref x) (hfit : ∀ x, fits ty (.ref x) = true) (kk : tk_G μ a b sx (pc + 3) ls st (sh, S, tk_upF F k j (some k')) Q) : tk_G μ a b sx pc ls (.ref k' :: .ref k :: st) (sh, S, F) Q := by
  intro γ p l e R s m args below meth c A H locs cells slots Fq lsA ad hC hX hB hR hW hL
  obtain ⟨C, T, N, ty0, h1, h2, h3, h4, h6, h7, h8, h9, h5⟩ := hf
  have hws := tk_ws_get (γ := γ) (ad := ad) (h := (sh, S, F)) hk
  rw [tk_cell_o hc] at hws
  refine va_putF (D := γ.1) (ci := ci) (C := C) (T := T) (N := N) hC.1 hC.2.1 hC.2.2.2.2.1 h4 ty0 h8 h9 hC.2.2.2.1 hC.2.2.2.2.2.1.1 hW.1 hW.2.1 hW.2.2 k hws h1 j h2 (hC.2.2.2.2.1 _ h3) (fun _ h9 => h9) h6 (hC.2.2.2.2.2.2.2.1 hin) (h5.trans (hown _ h1)) (v := .ref (ad k')) h7 (hn _) (hfit _) (by simp [hj]) hd (fun H1 locs1 hP hD hS => ?_)
  have ee : (tk_ws γ ad (sh, S, F)).set k (ad k, .inr (ci, ((List.range n).map (tk_fv ad S F ci k)).set j (.ref (ad k')))) = tk_ws γ ad (sh, S, tk_upF F k j (some k')) := by
    refine tk_ws_set hk ?_ (fun i hi => ⟨rfl, if_neg hi⟩)
    rw [tk_cell_o hc, tk_fs_set (g := tk_fv ad S (tk_upF F k j (some k')) ci k)]
    · simp [tk_fv, hr, tk_upF, va_up, va_rf]
    · intro i hi
      simp [tk_fv, tk_upF, va_up, hi]
  have hP : va_P γ.1 vwCl ((tk_ws γ ad (sh, S, F)).set k (ad k, .inr (ci, ((List.range n).map (tk_fv ad S F ci k)).set j (.ref (ad k'))))) H1 := hP
  have hD : va_D A ((tk_ws γ ad (sh, S, F)).set k (ad k, .inr (ci, ((List.range n).map (tk_fv ad S F ci k)).set j (.ref (ad k'))))) := hD
  rw [ee] at hP hD
  exact kk γ p l e R s m args below meth c A H1 locs1 cells slots Fq lsA ad hC hX hB hR ⟨hP, hD, hS⟩ hL
theorem g_aast {i : Int32} {k k' n' : Nat} (hd : decode μ.2.1 pc = .ok (.aastore, 1)) (hk : sh[k]? = some (11, n)) (hin : vp_in i n) (hk' : sh[k']? = some (4, n')) (kk : tk_G μ a b sx (pc + 1) ls st (sh, S, tk_upF F k i.toNatClampNeg (some k')) Q) : tk_G μ a b sx pc ls (.ref k' :: .int i :: .ref k :: st) (sh, S, F) Q := by
  intro γ p l e R s m args below meth c A H locs cells slots Fq lsA ad hC hX hB hR hW hL
  have hws := tk_ws_get (γ := γ) (ad := ad) (h := (sh, S, F)) hk
  rw [tk_cell_q] at hws
  have hwv := tk_ws_get (γ := γ) (ad := ad) (h := (sh, S, F)) hk'
  rw [tk_cell_o (by decide)] at hwv
  refine va_astq (D := γ.1) (cl := vwCl) (tys := tk_tys γ) (r := (RX4, TX4, 3)) hC.1 hC.2.1 hC.2.2.2.2.2.1.1 hW.1 hW.2.1 hW.2.2 k 2 k' 4 hws rfl hwv rfl hin hd (fun H1 locs1 hP hD hS => ?_)
  have ee : (tk_ws γ ad (sh, S, F)).set k (ad k, .inl (γ.2.2.2, n, .inr (.inr (.inr (.inr (va_up (fun j => (F k j).map ad) i.toNatClampNeg (some (ad k')))))))) = tk_ws γ ad (sh, S, tk_upF F k i.toNatClampNeg (some k')) := by
    refine tk_ws_set hk ?_ (fun i hi => ⟨rfl, if_neg hi⟩)
    rw [tk_cell_q]
    have e0 : (fun j => (tk_upF F k i.toNatClampNeg (some k') k j).map ad) = va_up (fun j => (F k j).map ad) i.toNatClampNeg (some (ad k')) := by
      funext j
      unfold tk_upF va_up
      by_cases hj : j = i.toNatClampNeg
      · simp [hj]
      · simp [hj]
    rw [e0]
  rw [ee] at hP hD
  exact kk γ p l e R s m args below meth c A H1 locs1 cells slots Fq lsA ad hC hX hB hR ⟨hP, hD, hS⟩ hL
theorem tk_obj : Cond.instanceMethod Lib.objectInit ∈ tk_TS ∧ Cond.code Lib.objectInit ⟨#[0xb1]⟩ 1 none ∈ tk_TS := ⟨tk_in 58 (by decide +kernel) (by decide +kernel), tk_in 59 (by decide +kernel) (by decide +kernel)⟩
theorem g_objInit {idx k : Nat} {h : tH} (hd : decode μ.2.1 pc = .ok (.invokespecial idx, 3)) (hl : Cond.methodLink μ.1.cls idx Lib.objectInit ∈ tk_TS) (hdep : 0 < μ.2.2.2.2) (hst : (st.map fun v => v.category).sum ≤ 8) (kk : tk_G μ a b sx (pc + 3) ls st h Q) : tk_G μ a b sx pc ls (.ref k :: st) h Q := by
  intro γ p l e R s m args below meth c A H locs cells slots Fq lsA ad hC hX hB hR hW hL
  have e1 := hC.2.2.2.2.2.2.2.2.1
  have e2 := hC.2.2.2.2.2.2.2.2.2
  have e3 := tk_sum (ad := ad) hst
  have hts := hC.2.2.2.2.1
  exact W.objInit hC.1 hC.2.1 hC.2.2.2.1 (hts _ hl) (hts _ tk_obj.1) (hts _ tk_obj.2) rfl (hL.1.trans hC.2.2.1.symm) rfl hd (by omega) (by show 2 * 0 + _ + 12 ≤ _; omega) (kk γ p l e R s m args below meth c A H locs cells slots Fq lsA ad hC hX hB hR hW hL)
end CTOR
