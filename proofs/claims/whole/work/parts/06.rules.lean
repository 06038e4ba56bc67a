section CALLR
variable {μ ν : tM} {a b a' b' : Nat} {sx : tX} {pc : Nat} {ls st : List Value} {h : tH} {Q : Int32 → tH → Prop} {n idx : Nat}
theorem tk_sum {ad : Nat → Nat} {st : List Value} (h : (st.map fun v => v.category).sum ≤ 8) : ((st.map (tk_cv ad)).map fun v => v.category).sum ≤ 8 := by
  have e : (st.map (tk_cv ad)).map (fun v => v.category) = st.map fun v => v.category := by
    rw [List.map_map]
    exact List.map_congr_left fun v _ => tk_cvcat ad v
  rw [e]
  exact h
theorem g_callVi {k ci : Nat} {as : List Value} {ty : FieldType} {q : vw_C} (hd : decode μ.2.1 pc = .ok (.invokevirtual idx, 3)) (hν : tk_mc ν as.length) (hi : tk_mi ν) (hl : Cond.methodLink μ.1.cls idx ν.1 ∈ tk_TS) (hv : ν.2.2.2.1 = some ty) (hk : h.1[k]? = some (ci, n)) (hci : ci < 9) (hc : vwCl[ci]? = some q) (hcq : q.1 = ν.1.cls) (hdep : ν.2.2.2.2 < μ.2.2.2.2) (hst : (st.map fun v => v.category).sum ≤ 8) (hwf : tk_wf h.1.length (ls ++ st) = true)
    (kk : tk_Mt ν a' b' (.ref k :: as) h (fun x h' => tk_G μ a b sx (pc + 3) ls (.int x :: st) h' Q)) : tk_G μ (a' + a) (b' + b) sx pc ls (as.reverse ++ .ref k :: st) h Q := by
  intro γ p l e R s m args below meth c A H locs cells slots Fq lsA ad hC hX hB hR hW hL
  have hws := tk_ws_get (γ := γ) (ad := ad) (h := h) hk
  rw [tk_cell_o hci] at hws
  have hrec := va_recv hC.2.2.2.2.2.1.1 hW.1 hc hws
  rw [hcq] at hrec
  refine tk_backi (ν := ν) (vs := .ref k :: as) hv hwf hC hX hB hR hW hL ?_
  exact va_runV (b := ad k) (As := as.map (tk_cv ad)) ⟨hC.1, hC.2.1, hC.2.2.1, hC.2.2.2.1, hC.2.2.2.2.1⟩ (kk l γ ad H.size) ⟨tk_callB hν hl hdep hC, hC.2.2.2.2.1 _ hi.1, hC.2.2.2.2.1 _ hi.2⟩ ⟨tk_blind, hrec, (tk_preS hC hW (vs := .ref k :: as)).2⟩ rfl (by simp) hL.1 (by simp [tk_cv]) (by show 2 * 0 + _ ≤ 8; have := tk_sum (ad := ad) hst; omega) hd ⟨by omega, by omega⟩
theorem g_callVv {k ci : Nat} {as : List Value} {q : vw_C} (hd : decode μ.2.1 pc = .ok (.invokevirtual idx, 3)) (hν : tk_mc ν as.length) (hi : tk_mi ν) (hl : Cond.methodLink μ.1.cls idx ν.1 ∈ tk_TS) (hv : ν.2.2.2.1 = none) (hk : h.1[k]? = some (ci, n)) (hci : ci < 9) (hc : vwCl[ci]? = some q) (hcq : q.1 = ν.1.cls) (hdep : ν.2.2.2.2 < μ.2.2.2.2) (hst : (st.map fun v => v.category).sum ≤ 8) (hwf : tk_wf h.1.length (ls ++ st) = true)
    (kk : tk_Mt ν a' b' (.ref k :: as) h (fun _ h' => tk_G μ a b sx (pc + 3) ls st h' Q)) : tk_G μ (a' + a) (b' + b) sx pc ls (as.reverse ++ .ref k :: st) h Q := by
  intro γ p l e R s m args below meth c A H locs cells slots Fq lsA ad hC hX hB hR hW hL
  have hws := tk_ws_get (γ := γ) (ad := ad) (h := h) hk
  rw [tk_cell_o hci] at hws
  have hrec := va_recv hC.2.2.2.2.2.1.1 hW.1 hc hws
  rw [hcq] at hrec
  refine tk_backv (ν := ν) (vs := .ref k :: as) hv hwf hC hX hB hR hW hL ?_
  exact va_runV (b := ad k) (As := as.map (tk_cv ad)) ⟨hC.1, hC.2.1, hC.2.2.1, hC.2.2.2.1, hC.2.2.2.2.1⟩ (kk l γ ad H.size) ⟨tk_callB hν hl hdep hC, hC.2.2.2.2.1 _ hi.1, hC.2.2.2.2.1 _ hi.2⟩ ⟨tk_blind, hrec, (tk_preS hC hW (vs := .ref k :: as)).2⟩ rfl (by simp) hL.1 (by simp [tk_cv]) (by show 2 * 0 + _ ≤ 8; have := tk_sum (ad := ad) hst; omega) hd ⟨by omega, by omega⟩
theorem g_callSi {as : List Value} {ty : FieldType} (hd : decode μ.2.1 pc = .ok (.invokestatic idx, 3)) (hν : tk_mc ν as.length) (hi : Cond.static ν.1 ∈ tk_TS) (hl : Cond.methodLink μ.1.cls idx ν.1 ∈ tk_TS) (hv : ν.2.2.2.1 = some ty) (hdep : ν.2.2.2.2 < μ.2.2.2.2) (hst : (st.map fun v => v.category).sum ≤ 8) (hwf : tk_wf h.1.length (ls ++ st) = true)
    (kk : tk_Mt ν a' b' as h (fun x h' => tk_G μ a b sx (pc + 3) ls (.int x :: st) h' Q)) : tk_G μ (a' + a) (b' + b) sx pc ls (as.reverse ++ st) h Q := by
  intro γ p l e R s m args below meth c A H locs cells slots Fq lsA ad hC hX hB hR hW hL
  refine tk_backi (ν := ν) (vs := as) hv hwf hC hX hB hR hW hL ?_
  exact va_runS (As := as.map (tk_cv ad)) ⟨hC.1, hC.2.1, hC.2.2.1, hC.2.2.2.1, hC.2.2.2.2.1⟩ (kk l γ ad H.size) ⟨tk_callB hν hl hdep hC, hC.2.2.2.2.1 _ hi⟩ (tk_preS hC hW (vs := as)) rfl (by simp) hL.1 (by simp) (by show 2 * 0 + _ ≤ 8; have := tk_sum (ad := ad) hst; omega) hd ⟨by omega, by omega⟩
theorem g_callSv {as : List Value} (hd : decode μ.2.1 pc = .ok (.invokestatic idx, 3)) (hν : tk_mc ν as.length) (hi : Cond.static ν.1 ∈ tk_TS) (hl : Cond.methodLink μ.1.cls idx ν.1 ∈ tk_TS) (hv : ν.2.2.2.1 = none) (hdep : ν.2.2.2.2 < μ.2.2.2.2) (hst : (st.map fun v => v.category).sum ≤ 8) (hwf : tk_wf h.1.length (ls ++ st) = true)
    (kk : tk_Mt ν a' b' as h (fun _ h' => tk_G μ a b sx (pc + 3) ls st h' Q)) : tk_G μ (a' + a) (b' + b) sx pc ls (as.reverse ++ st) h Q := by
  intro γ p l e R s m args below meth c A H locs cells slots Fq lsA ad hC hX hB hR hW hL
  refine tk_backv (ν := ν) (vs := as) hv hwf hC hX hB hR hW hL ?_
  exact va_runS (As := as.map (tk_cv ad)) ⟨hC.1, hC.2.1, hC.2.2.1, hC.2.2.2.1, hC.2.2.2.2.1⟩ (kk l γ ad H.size) ⟨tk_callB hν hl hdep hC, hC.2.2.2.2.1 _ hi⟩ (tk_preS hC hW (vs := as)) rfl (by simp) hL.1 (by simp) (by show 2 * 0 + _ ≤ 8; have := tk_sum (ad := ad) hst; omega) hd ⟨by omega, by omega⟩
/-- a constructor without parameters -/
theorem g_callI {k : Nat} (hd : decode μ.2.1 pc = .ok (.invokespecial idx, 3)) (hν : tk_mc ν 0) (hi : Cond.instanceMethod ν.1 ∈ tk_TS) (hy : ν.1.name = "<init>") (hl : Cond.methodLink μ.1.cls idx ν.1 ∈ tk_TS) (hv : ν.2.2.2.1 = none) (hdep : ν.2.2.2.2 < μ.2.2.2.2) (hst : (st.map fun v => v.category).sum ≤ 8) (hwf : tk_wf h.1.length (ls ++ st) = true)
    (kk : tk_Mt ν a' b' [.ref k] h (fun _ h' => tk_G μ a b sx (pc + 3) ls st h' Q)) : tk_G μ (a' + a) (b' + b) sx pc ls (.ref k :: st) h Q := by
  intro γ p l e R s m args below meth c A H locs cells slots Fq lsA ad hC hX hB hR hW hL
  refine tk_backv (ν := ν) (vs := [.ref k]) hv hwf hC hX hB hR hW hL ?_
  have hb := tk_callB (a' := a') (b' := b') hν hl hdep hC
  rw [hv] at hb
  exact va_runI (b := ad k) (As := []) ⟨hC.1, hC.2.1, hC.2.2.1, hC.2.2.2.1, hC.2.2.2.2.1⟩ (kk l γ ad H.size) ⟨hb, hy, hC.2.2.2.2.1 _ hi⟩ (tk_preS hC hW (vs := [.ref k])) rfl rfl hL.1 rfl (by show 2 * 0 + _ ≤ 8; have := tk_sum (ad := ad) hst; omega) hd ⟨by omega, by omega⟩
/-- a private constructor of a nest mate -/
theorem g_callIN {k : Nat} {host : String} (hd : decode μ.2.1 pc = .ok (.invokespecial idx, 3)) (hν : tk_mc ν 0) (hi : Cond.instanceMethod ν.1 ∈ tk_TS) (hy : ν.1.name = "<init>") (hl : ∀ U, tk_NX U → va_Nw (.methodLinkNest μ.1.cls idx ν.1 host) U) (hv : ν.2.2.2.1 = none) (hdep : ν.2.2.2.2 < μ.2.2.2.2) (hst : (st.map fun v => v.category).sum ≤ 8) (hwf : tk_wf h.1.length (ls ++ st) = true)
    (kk : tk_Mt ν a' b' [.ref k] h (fun _ h' => tk_G μ a b sx (pc + 3) ls st h' Q)) : tk_G μ (a' + a) (b' + b) sx pc ls (.ref k :: st) h Q := by
  intro γ p l e R s m args below meth c A H locs cells slots Fq lsA ad hC hX hB hR hW hL
  refine tk_backv (ν := ν) (vs := [.ref k]) hv hwf hC hX hB hR hW hL ?_
  have e1 := hC.2.2.2.2.2.2.2.2.1
  have e2 := hC.2.2.2.2.2.2.2.2.2
  have hb : va_CN R s args μ.1.cls idx ν.1 host ν.2.1 ν.2.2.1 ν.2.2.2.1 (tk_wd ν) (tk_rm ν a' b') a' b' 0 := by
    have hG := tk_wdG hν
    obtain ⟨h1, h2, h3, h4⟩ := hν
    exact va_cnB 0 hC.2.2.2.2.1 hG rfl rfl rfl (hl s hC.2.2.2.2.2.1.2) (hC.2.2.2.2.1 _ h2) h3 ⟨by show ν.2.2.2.2 + 1 ≤ R.frames; omega, by show 8 + (ν.2.2.1 + 11) + 64 * ν.2.2.2.2 ≤ R.locals; omega⟩
  rw [hv] at hb
  exact va_runIN (b := ad k) (As := []) ⟨hC.1, hC.2.1, hC.2.2.1, hC.2.2.2.1, hC.2.2.2.2.1⟩ (kk l γ ad H.size) ⟨hb, hy, hC.2.2.2.2.1 _ hi⟩ (tk_preS hC hW (vs := [.ref k])) rfl rfl hL.1 rfl (by show 2 * 0 + _ ≤ 8; have := tk_sum (ad := ad) hst; omega) hd ⟨by omega, by omega⟩
theorem tk_in_max : (Cond.static Lib.Math.max.name ∈ tk_TS ∧ Cond.initialized "java/lang/Math" ∈ tk_TS ∧ Cond.code Lib.Math.max.name Lib.Math.max.code 2 (some .int) ∈ tk_TS) ∧ (Cond.static Lib.Math.min.name ∈ tk_TS ∧ Cond.code Lib.Math.min.name Lib.Math.min.code 2 (some .int) ∈ tk_TS) ∧ (Cond.static Lib.Math.abs.name ∈ tk_TS ∧ Cond.code Lib.Math.abs.name Lib.Math.abs.code 1 (some .int) ∈ tk_TS) ∧ (Cond.native arraycopyName ∈ tk_TS ∧ Cond.static arraycopyName ∈ tk_TS ∧ Cond.initialized "java/lang/System" ∈ tk_TS) := ⟨⟨tk_in 477 (by decide +kernel) (by decide +kernel), tk_in 50 (by decide +kernel) (by decide +kernel), tk_in 478 (by decide +kernel) (by decide +kernel)⟩, ⟨tk_in 393 (by decide +kernel) (by decide +kernel), tk_in 394 (by decide +kernel) (by decide +kernel)⟩, ⟨tk_in 281 (by decide +kernel) (by decide +kernel), tk_in 282 (by decide +kernel) (by decide +kernel)⟩, ⟨tk_in 367 (by decide +kernel) (by decide +kernel), tk_in 366 (by decide +kernel) (by decide +kernel), tk_in 51 (by decide +kernel) (by decide +kernel)⟩⟩
theorem g_max {x y : Int32} (hd : decode μ.2.1 pc = .ok (.invokestatic idx, 3)) (hl : Cond.methodLink μ.1.cls idx Lib.Math.max.name ∈ tk_TS) (hdep : 0 < μ.2.2.2.2) (hst : (st.map fun v => v.category).sum ≤ 8) (k : tk_G μ a b sx (pc + 3) ls (.int (if x < y then y else x) :: st) h Q) : tk_G μ a b sx pc ls (.int y :: .int x :: st) h Q := by
  intro γ p l e R s m args below meth c A H locs cells slots Fq lsA ad hC hX hB hR hW hL
  have e1 := hC.2.2.2.2.2.2.2.2.1
  have e2 := hC.2.2.2.2.2.2.2.2.2
  have e3 := tk_sum (ad := ad) hst
  exact va_mmax hC.1 hC.2.1 (hC.2.2.1.trans hL.1.symm) hC.2.2.2.1 (hC.2.2.2.2.1 _ hl) (hC.2.2.2.2.1 _ tk_in_max.1.1) (hC.2.2.2.2.1 _ tk_in_max.1.2.1) (hC.2.2.2.2.1 _ tk_in_max.1.2.2) (by omega) (by omega) (by omega) (by omega) hd (k γ p l e R s m args below meth c A H locs cells slots Fq lsA ad hC hX hB hR hW hL)
theorem g_min {x y : Int32} (hd : decode μ.2.1 pc = .ok (.invokestatic idx, 3)) (hl : Cond.methodLink μ.1.cls idx Lib.Math.min.name ∈ tk_TS) (hdep : 0 < μ.2.2.2.2) (hst : (st.map fun v => v.category).sum ≤ 8) (k : tk_G μ a b sx (pc + 3) ls (.int (if y < x then y else x) :: st) h Q) : tk_G μ a b sx pc ls (.int y :: .int x :: st) h Q := by
  intro γ p l e R s m args below meth c A H locs cells slots Fq lsA ad hC hX hB hR hW hL
  have e1 := hC.2.2.2.2.2.2.2.2.1
  have e2 := hC.2.2.2.2.2.2.2.2.2
  have e3 := tk_sum (ad := ad) hst
  exact va_mmin hC.1 hC.2.1 (hC.2.2.1.trans hL.1.symm) hC.2.2.2.1 (hC.2.2.2.2.1 _ hl) (hC.2.2.2.2.1 _ tk_in_max.2.1.1) (hC.2.2.2.2.1 _ tk_in_max.1.2.1) (hC.2.2.2.2.1 _ tk_in_max.2.1.2) (by omega) (by omega) (by omega) (by omega) hd (k γ p l e R s m args below meth c A H locs cells slots Fq lsA ad hC hX hB hR hW hL)
theorem g_abs {x : Int32} (hd : decode μ.2.1 pc = .ok (.invokestatic idx, 3)) (hl : Cond.methodLink μ.1.cls idx Lib.Math.abs.name ∈ tk_TS) (hdep : 0 < μ.2.2.2.2) (hst : (st.map fun v => v.category).sum ≤ 8) (k : tk_G μ a b sx (pc + 3) ls (.int (if 0 ≤ x then x else 0 - x) :: st) h Q) : tk_G μ a b sx pc ls (.int x :: st) h Q := by
  intro γ p l e R s m args below meth c A H locs cells slots Fq lsA ad hC hX hB hR hW hL
  have e1 := hC.2.2.2.2.2.2.2.2.1
  have e2 := hC.2.2.2.2.2.2.2.2.2
  have e3 := tk_sum (ad := ad) hst
  exact va_mabs hC.1 hC.2.1 (hC.2.2.1.trans hL.1.symm) hC.2.2.2.1 (hC.2.2.2.2.1 _ hl) (hC.2.2.2.2.1 _ tk_in_max.2.2.1.1) (hC.2.2.2.2.1 _ tk_in_max.1.2.1) (hC.2.2.2.2.1 _ tk_in_max.2.2.1.2) (by omega) (by omega) (by omega) (by omega) hd (k γ p l e R s m args below meth c A H locs cells slots Fq lsA ad hC hX hB hR hW hL)
theorem g_acopy {sh : List (Nat × Nat)} {S : tS} {F : tF} {k0 k1 n0 n1 : Nat} {sp dp c1 : Int32} (hd : decode μ.2.1 pc = .ok (.invokestatic idx, 3)) (hl : Cond.methodLink μ.1.cls idx arraycopyName ∈ tk_TS) (hdep : 0 < μ.2.2.2.2) (hst : (st.map fun v => v.category).sum ≤ 8) (hk0 : sh[k0]? = some (10, n0)) (hk1 : sh[k1]? = some (10, n1)) (h1 : ¬ sp < 0) (h2 : ¬ dp < 0) (h3 : ¬ c1 < 0) (h4 : sp.toNatClampNeg + c1.toNatClampNeg ≤ n0) (h5 : dp.toNatClampNeg + c1.toNatClampNeg ≤ n1)
    (kk : tk_G μ a b sx (pc + 3) ls st (sh, tk_upR S k1 (va_cpy (S k0) (S k1) sp.toNatClampNeg dp.toNatClampNeg c1.toNatClampNeg), F) Q) : tk_G μ a b sx pc ls (.int c1 :: .int dp :: .ref k1 :: .int sp :: .ref k0 :: st) (sh, S, F) Q := by
  intro γ p l e R s m args below meth c A H locs cells slots Fq lsA ad hC hX hB hR hW hL
  have e1 := hC.2.2.2.2.2.2.2.2.1
  have e2 := hC.2.2.2.2.2.2.2.2.2
  have e3 := tk_sum (ad := ad) hst
  have hw0 := tk_ws_get (γ := γ) (ad := ad) (h := (sh, S, F)) hk0
  have hw1 := tk_ws_get (γ := γ) (ad := ad) (h := (sh, S, F)) hk1
  rw [tk_cell_i] at hw0 hw1
  have e4 : nativeFrameWords "java/lang/System" "arraycopy" 5 ≤ 7 := by decide
  refine va_copyi (D := γ.1) hC.1 hC.2.1 (hC.2.2.1.trans hL.1.symm) hC.2.2.2.1 (hC.2.2.2.2.1 _ hl) (hC.2.2.2.2.1 _ tk_in_max.2.2.2.1) (hC.2.2.2.2.1 _ tk_in_max.2.2.2.2.1) (hC.2.2.2.2.1 _ tk_in_max.2.2.2.2.2) hC.2.2.2.2.2.1.1 hW.1 hW.2.1 hW.2.2 k0 k1 0 0 (ty := .int) hw0 hw1 rfl rfl rfl h1 h2 h3 h4 h5 (fun _ _ => rfl) (by omega) (by omega) hd (fun H1 locs1 hP hD hS => ?_)
  have ee : (tk_ws γ ad (sh, S, F)).set k1 (ad k1, .inl (γ.2.1, n1, .inl (va_cpy (S k0) (S k1) sp.toNatClampNeg dp.toNatClampNeg c1.toNatClampNeg))) = tk_ws γ ad (sh, tk_upR S k1 (va_cpy (S k0) (S k1) sp.toNatClampNeg dp.toNatClampNeg c1.toNatClampNeg), F) :=
    tk_ws_set hk1 (by rw [tk_cell_i, tk_upR_s]) (fun i hi => ⟨tk_upR_n hi, rfl⟩)
  have hP : va_P γ.1 vwCl ((tk_ws γ ad (sh, S, F)).set k1 (ad k1, .inl (γ.2.1, n1, .inl (va_cpy (S k0) (S k1) sp.toNatClampNeg dp.toNatClampNeg c1.toNatClampNeg)))) H1 := hP
  have hD : va_D A ((tk_ws γ ad (sh, S, F)).set k1 (ad k1, .inl (γ.2.1, n1, .inl (va_cpy (S k0) (S k1) sp.toNatClampNeg dp.toNatClampNeg c1.toNatClampNeg)))) := hD
  rw [ee] at hP hD
  exact kk γ p l e R s m args below meth c A H1 locs1 cells slots Fq lsA ad hC hX hB hR ⟨hP, hD, hS⟩ hL
end CALLR
