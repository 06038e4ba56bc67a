/-! CELLS: fields and rows -/
/-- a place of the constant pool that names field j of the objects of kind ci -/
def tk_fl (own : String) (idx ci j : Nat) (fin : Bool) (ty : FieldType) : Prop := ∃ (C : String) (T : u_T) (N : Nat) (ty0 : Nat → FieldType), vwCl[ci]? = some (C, T, N) ∧ j < N ∧ Cond.fieldLink own idx (T j).1 (T j).2.1 (T j).2.2.1 ∈ tk_TS ∧ (∀ w ∈ u_ws C T N, w ∈ tk_TS) ∧ (T j).2.2.2 = fin ∧ parseFieldDescriptor (T j).2.2.1 = some ty ∧ (∀ k, k < N → parseFieldDescriptor (T k).2.2.1 = some (ty0 k)) ∧ (∀ a, a < N → ∀ b, b < N → a ≠ b → (T a).2.1 ≠ (T b).2.1) ∧ (T j).1 = C
theorem tk_cell_o {γ : tG} {ad : Nat → Nat} {S : tS} {F : tF} {k ci n : Nat} (h : ci < 9) : tk_cell γ ad S F k (ci, n) = .inr (ci, (List.range n).map (tk_fv ad S F ci k)) := by
  unfold tk_cell
  rw [if_pos h]
theorem tk_cell_b {γ : tG} {ad : Nat → Nat} {S : tS} {F : tF} {k n : Nat} : tk_cell γ ad S F k (9, n) = .inl (γ.2.2.1, n, .inl (S k)) := by
  unfold tk_cell
  rw [if_neg (show ¬ 9 < 9 by decide), if_pos rfl]
theorem tk_cell_i {γ : tG} {ad : Nat → Nat} {S : tS} {F : tF} {k n : Nat} : tk_cell γ ad S F k (10, n) = .inl (γ.2.1, n, .inl (S k)) := by
  unfold tk_cell
  rw [if_neg (show ¬ 10 < 9 by decide), if_neg (show ¬ 10 = 9 by decide), if_pos rfl]
theorem tk_cell_q {γ : tG} {ad : Nat → Nat} {S : tS} {F : tF} {k n : Nat} : tk_cell γ ad S F k (11, n) = .inl (γ.2.2.2, n, .inr (.inr (.inr (.inr (fun j => (F k j).map ad))))) := by
  unfold tk_cell
  rw [if_neg (show ¬ 11 < 9 by decide), if_neg (show ¬ 11 = 9 by decide), if_neg (show ¬ 11 = 10 by decide)]
theorem tk_fs_set {n j : Nat} {f g : Nat → Value} {v : Value} (hv : g j = v) (hg : ∀ i, i ≠ j → g i = f i) : ((List.range n).map f).set j v = (List.range n).map g := by
  apply List.ext_getElem?
  intro i
  by_cases hi : i = j
  · subst hi
    by_cases hn : i < n
    · rw [List.getElem?_set_self (by simpa using hn)]
      simp [hn, hv]
    · rw [List.getElem?_eq_none (by simp; omega), List.getElem?_eq_none (by simp; omega)]
  · rw [List.getElem?_set_ne (Ne.symm hi)]
    by_cases hn : i < n
    · simp [hn, hg i hi]
    · rw [List.getElem?_eq_none (by simp; omega), List.getElem?_eq_none (by simp; omega)]
theorem tk_upR_s {S : tS} {k : Nat} {f : Nat → Int32} : tk_upR S k f k = f := if_pos rfl
theorem tk_upR_n {S : tS} {k i : Nat} {f : Nat → Int32} (h : i ≠ k) : tk_upR S k f i = S i := if_neg h
theorem tk_up_s {S : tS} {k j : Nat} {x : Int32} : tk_up S k j x k = upd (S k) j x := if_pos rfl
theorem tk_up_n {S : tS} {k j i : Nat} {x : Int32} (h : i ≠ k) : tk_up S k j x i = S i := if_neg h
theorem tk_up_ss {S : tS} {k j : Nat} {x : Int32} : tk_up S k j x k j = x := by rw [tk_up_s]; exact if_pos rfl
theorem tk_up_sn {S : tS} {k j i : Nat} {x : Int32} (h : i ≠ j) : tk_up S k j x k i = S k i := by rw [tk_up_s]; exact if_neg h
section HEAP
variable {μ : tM} {a b : Nat} {sx : tX} {pc : Nat} {ls st : List Value} {sh : List (Nat × Nat)} {S : tS} {F : tF} {Q : Int32 → tH → Prop} {k n : Nat}
theorem g_getI {idx ci j : Nat} {fin : Bool} {ty : FieldType} (hd : decode μ.2.1 pc = .ok (.getfield idx, 3)) (hf : tk_fl μ.1.cls idx ci j fin ty) (hk : sh[k]? = some (ci, n)) (hj : j < n) (hc : ci < 9) (hr : tk_isR ci j = false) (kk : tk_G μ a b sx (pc + 3) ls (.int (S k j) :: st) (sh, S, F) Q) : tk_G μ a b sx pc ls (.ref k :: st) (sh, S, F) Q := by
  intro γ p l e R s m args below meth c A H locs cells slots Fq lsA ad hC hX hB hR hW hL
  obtain ⟨C, T, N, ty0, h1, h2, h3, h4, -, -, -, -, h5⟩ := hf
  have hws := tk_ws_get (γ := γ) (ad := ad) (h := (sh, S, F)) hk
  rw [tk_cell_o hc] at hws
  exact va_get (D := γ.1) (ci := ci) (C := C) (T := T) (N := N) hC.1 hC.2.1 hC.2.2.2.2.1 h4 hC.2.2.2.1 hC.2.2.2.2.2.1.1 hW.1 k hws h1 j h2 (hC.2.2.2.2.1 _ h3) (fun _ h9 => h9) (v := .int (S k j)) (by simp [hj, tk_fv, hr]) hd (kk γ p l e R s m args below meth c A H locs cells slots Fq lsA ad hC hX hB hR hW hL)
theorem g_getR {idx ci j k' : Nat} {fin : Bool} {ty : FieldType} (hd : decode μ.2.1 pc = .ok (.getfield idx, 3)) (hf : tk_fl μ.1.cls idx ci j fin ty) (hk : sh[k]? = some (ci, n)) (hj : j < n) (hc : ci < 9) (hr : tk_isR ci j = true) (hF : F k j = some k') (kk : tk_G μ a b sx (pc + 3) ls (.ref k' :: st) (sh, S, F) Q) : tk_G μ a b sx pc ls (.ref k :: st) (sh, S, F) Q := by
  intro γ p l e R s m args below meth c A H locs cells slots Fq lsA ad hC hX hB hR hW hL
  obtain ⟨C, T, N, ty0, h1, h2, h3, h4, -, -, -, -, h5⟩ := hf
  have hws := tk_ws_get (γ := γ) (ad := ad) (h := (sh, S, F)) hk
  rw [tk_cell_o hc] at hws
  exact va_get (D := γ.1) (ci := ci) (C := C) (T := T) (N := N) hC.1 hC.2.1 hC.2.2.2.2.1 h4 hC.2.2.2.1 hC.2.2.2.2.2.1.1 hW.1 k hws h1 j h2 (hC.2.2.2.2.1 _ h3) (fun _ h9 => h9) (v := .ref (ad k')) (by simp [hj, tk_fv, hr, hF, va_rf]) hd (kk γ p l e R s m args below meth c A H locs cells slots Fq lsA ad hC hX hB hR hW hL)
theorem g_putI {idx ci j : Nat} {ty : FieldType} {x : Int32} (hd : decode μ.2.1 pc = .ok (.putfield idx, 3)) (hf : tk_fl μ.1.cls idx ci j false ty) (hk : sh[k]? = some (ci, n)) (hj : j < n) (hc : ci < 9) (hr : tk_isR ci j = false) (hn : narrow ty (.int x) = .int x) (hfit : fits ty (.int x) = true) (kk : tk_G μ a b sx (pc + 3) ls st (sh, tk_up S k j x, F) Q) : tk_G μ a b sx pc ls (.int x :: .ref k :: st) (sh, S, F) Q := by
  intro γ p l e R s m args below meth c A H locs cells slots Fq lsA ad hC hX hB hR hW hL
  obtain ⟨C, T, N, ty0, h1, h2, h3, h4, h6, h7, h8, h9, h5⟩ := hf
  have hws := tk_ws_get (γ := γ) (ad := ad) (h := (sh, S, F)) hk
  rw [tk_cell_o hc] at hws
  refine va_put (D := γ.1) (ci := ci) (C := C) (T := T) (N := N) hC.1 hC.2.1 hC.2.2.2.2.1 h4 ty0 h8 h9 hC.2.2.2.1 hC.2.2.2.2.2.1.1 hW.1 hW.2.1 hW.2.2 k hws h1 j h2 (hC.2.2.2.2.1 _ h3) (fun _ h9 => h9) h6 (v := .int x) h7 hn hfit (by simp [hj]) hd (fun H1 locs1 hP hD hS => ?_)
  have ee : (tk_ws γ ad (sh, S, F)).set k (ad k, .inr (ci, ((List.range n).map (tk_fv ad S F ci k)).set j (.int x))) = tk_ws γ ad (sh, tk_up S k j x, F) := by
    refine tk_ws_set hk ?_ (fun i hi => ⟨tk_up_n hi, rfl⟩)
    rw [tk_cell_o hc, tk_fs_set (g := tk_fv ad (tk_up S k j x) F ci k)]
    · simp [tk_fv, hr, tk_up_ss]
    · intro i hi
      simp [tk_fv, tk_up_sn hi]
  have hP : va_P γ.1 vwCl ((tk_ws γ ad (sh, S, F)).set k (ad k, .inr (ci, ((List.range n).map (tk_fv ad S F ci k)).set j (.int x)))) H1 := hP
  have hD : va_D A ((tk_ws γ ad (sh, S, F)).set k (ad k, .inr (ci, ((List.range n).map (tk_fv ad S F ci k)).set j (.int x)))) := hD
  rw [ee] at hP hD
  exact kk γ p l e R s m args below meth c A H1 locs1 cells slots Fq lsA ad hC hX hB hR ⟨hP, hD, hS⟩ hL
theorem g_iald {i : Int32} (hd : decode μ.2.1 pc = .ok (.iaload, 1)) (hk : sh[k]? = some (10, n)) (hin : vp_in i n) (kk : tk_G μ a b sx (pc + 1) ls (.int (S k i.toNatClampNeg) :: st) (sh, S, F) Q) : tk_G μ a b sx pc ls (.int i :: .ref k :: st) (sh, S, F) Q := by
  intro γ p l e R s m args below meth c A H locs cells slots Fq lsA ad hC hX hB hR hW hL
  have hws := tk_ws_get (γ := γ) (ad := ad) (h := (sh, S, F)) hk
  rw [tk_cell_i] at hws
  exact va_iald (D := γ.1) hC.1 hC.2.1 hC.2.2.2.2.2.1.1 hW.1 k 0 hws rfl hin hd (kk γ p l e R s m args below meth c A H locs cells slots Fq lsA ad hC hX hB hR hW hL)
theorem g_bald {i : Int32} (hd : decode μ.2.1 pc = .ok (.baload, 1)) (hk : sh[k]? = some (9, n)) (hin : vp_in i n) (kk : tk_G μ a b sx (pc + 1) ls (.int (S k i.toNatClampNeg) :: st) (sh, S, F) Q) : tk_G μ a b sx pc ls (.int i :: .ref k :: st) (sh, S, F) Q := by
  intro γ p l e R s m args below meth c A H locs cells slots Fq lsA ad hC hX hB hR hW hL
  have hws := tk_ws_get (γ := γ) (ad := ad) (h := (sh, S, F)) hk
  rw [tk_cell_b] at hws
  exact va_bald (D := γ.1) hC.1 hC.2.1 hC.2.2.2.2.2.1.1 hW.1 k 1 hws rfl hin hd (kk γ p l e R s m args below meth c A H locs cells slots Fq lsA ad hC hX hB hR hW hL)
theorem g_aald {i : Int32} {k' : Nat} (hd : decode μ.2.1 pc = .ok (.aaload, 1)) (hk : sh[k]? = some (11, n)) (hin : vp_in i n) (hF : F k i.toNatClampNeg = some k') (kk : tk_G μ a b sx (pc + 1) ls (.ref k' :: st) (sh, S, F) Q) : tk_G μ a b sx pc ls (.int i :: .ref k :: st) (sh, S, F) Q := by
  intro γ p l e R s m args below meth c A H locs cells slots Fq lsA ad hC hX hB hR hW hL
  have hws := tk_ws_get (γ := γ) (ad := ad) (h := (sh, S, F)) hk
  rw [tk_cell_q] at hws
  refine va_aldq (D := γ.1) (C := "TellKeys$Sheet") hC.1 hC.2.1 hC.2.2.2.2.2.1.1 hW.1 k 2 hws rfl hin hd ?_
  have ee : va_rf ((F k i.toNatClampNeg).map ad) = .ref (ad k') := by rw [hF]; rfl
  show W p l e R s m args below meth c H locs cells slots Fq (F0 m (pc + 1) lsA (va_rf ((F k i.toNatClampNeg).map ad) :: st.map (tk_cv ad)))
  rw [ee]
  exact kk γ p l _ R s m args below meth c A H locs cells slots Fq lsA ad hC hX hB hR hW hL
theorem g_iast {i x : Int32} (hd : decode μ.2.1 pc = .ok (.iastore, 1)) (hk : sh[k]? = some (10, n)) (hin : vp_in i n) (kk : tk_G μ a b sx (pc + 1) ls st (sh, tk_up S k i.toNatClampNeg x, F) Q) : tk_G μ a b sx pc ls (.int x :: .int i :: .ref k :: st) (sh, S, F) Q := by
  intro γ p l e R s m args below meth c A H locs cells slots Fq lsA ad hC hX hB hR hW hL
  have hws := tk_ws_get (γ := γ) (ad := ad) (h := (sh, S, F)) hk
  rw [tk_cell_i] at hws
  refine va_iast (D := γ.1) hC.1 hC.2.1 hC.2.2.2.2.2.1.1 hW.1 hW.2.1 hW.2.2 k 0 hws rfl hin hd (fun H1 locs1 hP hD hS => ?_)
  have ee : (tk_ws γ ad (sh, S, F)).set k (ad k, .inl (γ.2.1, n, .inl (upd (S k) i.toNatClampNeg x))) = tk_ws γ ad (sh, tk_up S k i.toNatClampNeg x, F) :=
    tk_ws_set hk (by rw [tk_cell_i, tk_up_s]) (fun i hi => ⟨tk_up_n hi, rfl⟩)
  rw [ee] at hP hD
  exact kk γ p l _ R s m args below meth c A H1 locs1 cells slots Fq lsA ad hC hX hB hR ⟨hP, hD, hS⟩ hL
theorem g_bast {i x : Int32} (hd : decode μ.2.1 pc = .ok (.bastore, 1)) (hk : sh[k]? = some (9, n)) (hin : vp_in i n) (kk : tk_G μ a b sx (pc + 1) ls st (sh, tk_up S k i.toNatClampNeg (vp_nar .byte x), F) Q) : tk_G μ a b sx pc ls (.int x :: .int i :: .ref k :: st) (sh, S, F) Q := by
  intro γ p l e R s m args below meth c A H locs cells slots Fq lsA ad hC hX hB hR hW hL
  have hws := tk_ws_get (γ := γ) (ad := ad) (h := (sh, S, F)) hk
  rw [tk_cell_b] at hws
  refine va_bast (D := γ.1) hC.1 hC.2.1 hC.2.2.2.2.2.1.1 hW.1 hW.2.1 hW.2.2 k 1 hws rfl hin hd (fun H1 locs1 hP hD hS => ?_)
  have ee : (tk_ws γ ad (sh, S, F)).set k (ad k, .inl (γ.2.2.1, n, .inl (upd (S k) i.toNatClampNeg (vp_nar .byte x)))) = tk_ws γ ad (sh, tk_up S k i.toNatClampNeg (vp_nar .byte x), F) :=
    tk_ws_set hk (by rw [tk_cell_b, tk_up_s]) (fun i hi => ⟨tk_up_n hi, rfl⟩)
  rw [ee] at hP hD
  exact kk γ p l _ R s m args below meth c A H1 locs1 cells slots Fq lsA ad hC hX hB hR ⟨hP, hD, hS⟩ hL
theorem g_sld {i : Int32} {L : Nat} {xs : Nat → Int32} {h : tH} (hd : decode μ.2.1 pc = .ok (.iaload, 1)) (hin : vp_in i L) (kk : tk_G μ a b (some (L, xs)) (pc + 1) ls (.int (xs i.toNatClampNeg) :: st) h Q) : tk_G μ a b (some (L, xs)) pc ls (.int i :: .ref 4096 :: st) h Q := by
  intro γ p l e R s m args below meth c A H locs cells slots Fq lsA ad hC hX hB hR hW hL
  obtain ⟨h1, h2, h3⟩ := hX L xs rfl
  exact va_sld hC.1 hC.2.1 h1 h2 h3 hW.2.2 hin hd (kk γ p l e R s m args below meth c A H locs cells slots Fq lsA ad hC hX hB hR hW hL)
theorem g_slen {L : Nat} {xs : Nat → Int32} {h : tH} (hd : decode μ.2.1 pc = .ok (.arraylength, 1)) (kk : tk_G μ a b (some (L, xs)) (pc + 1) ls (.int (Int32.ofNat L) :: st) h Q) : tk_G μ a b (some (L, xs)) pc ls (.ref 4096 :: st) h Q := by
  intro γ p l e R s m args below meth c A H locs cells slots Fq lsA ad hC hX hB hR hW hL
  obtain ⟨h1, h2, h3⟩ := hX L xs rfl
  exact va_slen hC.1 hC.2.1 h1 h2 h3 hW.2.2 hd (kk γ p l e R s m args below meth c A H locs cells slots Fq lsA ad hC hX hB hR hW hL)
end HEAP
