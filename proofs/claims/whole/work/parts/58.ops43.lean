/-! DOES -/
theorem sp8_does {Q : Int32 → tS → Prop} {M : tS} {n m w : Nat} {o1 o2 lk : Nat → Nat} (hM : HM M n o1 o2 lk m) (hw : w ≤ 396) (k : ∀ x M', RAM M n o1 o2 lk m (M 55 w) (M 55 (w + 1)) (M 55 (w + 2)) (M 55 (w + 3)) x M' → (x < 0 → Q 0 M') ∧ (¬ x < 0 → Q 1 M')) : tk_Ms mX8_does [.ref 45, .int (nI w)] M Q := by
  have h8 := hM.2.2.1
  have hm := hM.2.2.2
  have fin : ∀ {x : Int32} {M' : tS}, RAM M n o1 o2 lk m (M 55 w) (M 55 (w + 1)) (M 55 (w + 2)) (M 55 (w + 3)) x M' → (x < 0 → tk_okQ mX8_does Q 0 M') ∧ (¬ x < 0 → tk_okQ mX8_does Q 1 M') := fun h => by
    obtain ⟨k1, k2⟩ := k _ _ h
    exact ⟨fun z => ok0 (k1 z), fun z => ok1 (k2 z)⟩
  have e1 : nI w + 1 = nI (w + 1) := nI_1 _
  have e2 : nI w + 2 = nI (w + 2) := nI_add w 2
  have e3 : nI w + 3 = nI (w + 3) := nI_add w 3
  have c0 : (nI w).toNatClampNeg = w := nI_c (by omega)
  have c1 : (nI (w + 1)).toNatClampNeg = w + 1 := nI_c (by omega)
  have c2 : (nI (w + 2)).toNatClampNeg = w + 2 := nI_c (by omega)
  have c3 : (nI (w + 3)).toNatClampNeg = w + 3 := nI_c (by omega)
  refine w_X8_does _ ?_
  rw [e1, e2, e3, c0, c1, c2, c3]
  refine ⟨vp_in_nI (by omega) (by omega), vp_in_nI (by omega) (by omega), vp_in_nI (by omega) (by omega), fun z1 => ⟨fun z2 => ⟨fun z3 => sp8_next (fun x M' h => fin (Or.inr (Or.inr (Or.inr ⟨⟨z1, z2, z3⟩, h⟩)))), fun z3 => sp8_change h8 hm (fun x M' h => fin (Or.inr (Or.inr (Or.inl ⟨z3, h⟩))))⟩, fun z2 => sp8_wash h8 hm (fun x M' h => fin (Or.inr (Or.inl ⟨z2, h⟩)))⟩, fun z1 => ⟨vp_in_nI (by omega) (by omega), sp8_visit hM (fun x M' h => fin (Or.inl ⟨z1, h⟩))⟩⟩
