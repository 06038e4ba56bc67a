/-! NEXT, apart; AN ACT -/
def RNC (C : tS) (x : Int32) (C' : tS) : Prop := (C 0 2 < 999 ∧ x = C 0 2 + 1 ∧ C' = tk_up C 0 2 (C 0 2 + 1)) ∨ (¬ C 0 2 < 999 ∧ x = -3 ∧ C' = C)
def RNM (M : tS) (x : Int32) (M' : tS) : Prop := (¬ M 45 10 = 999 ∧ x = M 45 10 + 1 ∧ M' = tk_up M 45 10 (M 45 10 + 1)) ∨ (M 45 10 = 999 ∧ x = -3 ∧ M' = M)
theorem sp7_next {Q : Int32 → tS → Prop} {C : tS} (k : ∀ x C', RNC C x C' → Q x C') : tk_Ms mX7_next [.ref 0] C Q :=
  w_X7_next ⟨fun c => okI (by decide) (k _ _ (Or.inl ⟨c, rfl, rfl⟩)), fun c => okI (by decide) (k _ _ (Or.inr ⟨c, rfl, rfl⟩))⟩
theorem sp8_next {Q : Int32 → tS → Prop} {M : tS} (k : ∀ x M', RNM M x M' → Q x M') : tk_Ms mX8_next [.ref 45] M Q :=
  w_X8_next ⟨fun c => okI (by decide) (k _ _ (Or.inl ⟨c, rfl, rfl⟩)), fun c => okI (by decide) (k _ _ (Or.inr ⟨c, rfl, rfl⟩))⟩
theorem pure_next {C M C' M' : tS} {x y : Int32} (hI : Inv (mix C M)) (h1 : RNC C x C') (h2 : RNM M y M') : x = y ∧ Inv (mix C' M') := by
  have hI0 := hI
  obtain ⟨i1, i2, ⟨n, i3, i4, i5, i6⟩, ⟨e, ht1, ht2⟩, i8⟩ := hI
  have e : M 45 10 = C 0 2 := e
  have ht1 : 0 ≤ (C 0 2).toInt := ht1
  have ht2 : (C 0 2).toInt ≤ 999 := ht2
  rcases h1 with ⟨c, x1, e1⟩ | ⟨c, x1, e1⟩
  · rw [xlt] at c
    simp only [Int32.reduceToInt] at c
    rcases h2 with ⟨d, x2, e2⟩ | ⟨d, x2, e2⟩
    · have a1 : (C 0 2 + 1).toInt = (C 0 2).toInt + 1 := addT1 (by omega)
      rw [e] at x2 e2
      refine ⟨x1.trans x2.symm, ?_⟩
      subst e1; subst e2
      refine ⟨i1, i2, ⟨n, i3, i4, i5, fun i hi => ?_⟩, ⟨rfl, ?_, ?_⟩, i8⟩
      · obtain ⟨t1, t2, t3, t4, t5, t6, t7, t8, t9, t10, t11, t12, t13, t14, t15⟩ := i6 i hi
        refine ⟨t1, t2, t3, t4, t5, t6, t7, t8, t9, t10, t11, t12, t13, t14, ?_⟩
        have t15 : (C 10 i).toInt ≤ (C 0 2).toInt := t15
        show (C 10 i).toInt ≤ (C 0 2 + 1).toInt
        omega
      · show 0 ≤ (C 0 2 + 1).toInt
        omega
      · show (C 0 2 + 1).toInt ≤ 999
        omega
    · rw [e, xeq] at d
      simp only [Int32.reduceToInt] at d
      omega
  · rw [xlt] at c
    simp only [Int32.reduceToInt] at c
    rcases h2 with ⟨d, x2, e2⟩ | ⟨d, x2, e2⟩
    · exact absurd (by rw [e, xeq]; simp only [Int32.reduceToInt]; omega) d
    · subst e1; subst e2
      exact ⟨x1.trans x2.symm, hI0⟩
/-- what an act does, on either half: sign, and its three numbers -/
def RAC (C : tS) (n : Nat) (o1 o2 lk : Nat → Nat) (m : Nat) (s p q r x : Int32) (C' : tS) : Prop :=
  (s = 118 ∧ RVC C n o1 o2 lk m p q r x C') ∨ (s = 119 ∧ RWC C m p q x C') ∨ (s = 99 ∧ RG m 8 C p q x C') ∨ ((¬ s = 118 ∧ ¬ s = 119 ∧ ¬ s = 99) ∧ RNC C x C')
def RAM (M : tS) (n : Nat) (o1 o2 lk : Nat → Nat) (m : Nat) (s p q r x : Int32) (M' : tS) : Prop :=
  (s = 118 ∧ RVM M n o1 o2 lk m p q r x M') ∨ (s = 119 ∧ RWM M m p q x M') ∨ (s = 99 ∧ RG m 51 M p q x M') ∨ ((¬ s = 118 ∧ ¬ s = 119 ∧ ¬ s = 99) ∧ RNM M x M')
theorem pure_act {C M C' M' : tS} {n m : Nat} {o1 o2 lk : Nat → Nat} {s p q r x y : Int32} (hI : Inv (mix C M)) (hm : C 5 0 = nI m) (h8 : m ≤ 8) (hK : ∀ i, i < m → M 51 i = C 8 i ∧ M 50 i = C 7 i) (h1 : RAC C n o1 o2 lk m s p q r x C') (h2 : RAM M n o1 o2 lk m s p q r y M') : x = y ∧ Inv (mix C' M') := by
  have d1 : (118 : Int32) ≠ 119 := by decide
  have d2 : (118 : Int32) ≠ 99 := by decide
  have d3 : (119 : Int32) ≠ 99 := by decide
  rcases h1 with ⟨e, h1⟩ | ⟨e, h1⟩ | ⟨e, h1⟩ | ⟨e, h1⟩
  · rcases h2 with ⟨e2, h2⟩ | ⟨e2, h2⟩ | ⟨e2, h2⟩ | ⟨e2, h2⟩
    · exact pure_visit hI hm h8 hK h1 h2
    · exact absurd (e.symm.trans e2) d1
    · exact absurd (e.symm.trans e2) d2
    · exact absurd e e2.1
  · rcases h2 with ⟨e2, h2⟩ | ⟨e2, h2⟩ | ⟨e2, h2⟩ | ⟨e2, h2⟩
    · exact absurd (e2.symm.trans e) d1
    · exact pure_wash hI hm h8 h1 h2
    · exact absurd (e.symm.trans e2) d3
    · exact absurd e e2.2.1
  · rcases h2 with ⟨e2, h2⟩ | ⟨e2, h2⟩ | ⟨e2, h2⟩ | ⟨e2, h2⟩
    · exact absurd (e2.symm.trans e) d2
    · exact absurd (e2.symm.trans e) d3
    · exact pure_change hI hm h8 h1 h2
    · exact absurd e e2.2.2
  · rcases h2 with ⟨e2, h2⟩ | ⟨e2, h2⟩ | ⟨e2, h2⟩ | ⟨e2, h2⟩
    · exact absurd e2 e.1
    · exact absurd e2 e.2.1
    · exact absurd e2 e.2.2
    · exact pure_next hI h1 h2
/-- the numbers of the act that is held, in the order of its sign -/
def actP (C : tS) : Int32 := if C 27 0 = 99 then C 27 2 else C 27 1
def actQ (C : tS) : Int32 := if C 27 0 = 118 then C 27 3 else if C 27 0 = 99 then C 27 3 else C 27 2
theorem sp7_doAct {Q : Int32 → tS → Prop} {C : tS} {n m : Nat} {o1 o2 lk : Nat → Nat} (hC : HC C n o1 o2 lk m) (k : ∀ x C', RAC C n o1 o2 lk m (C 27 0) (actP C) (actQ C) (C 27 4) x C' → (x < 0 → Q 0 C') ∧ (¬ x < 0 → Q 1 C')) : tk_Ms mX7_doAct [.ref 0] C Q := by
  have h8 := hC.2.2.1
  have hm := hC.2.2.2
  have fin : ∀ {x : Int32} {C' : tS}, RAC C n o1 o2 lk m (C 27 0) (actP C) (actQ C) (C 27 4) x C' → (x < 0 → tk_okQ mX7_doAct Q 0 C') ∧ (¬ x < 0 → tk_okQ mX7_doAct Q 1 C') := fun h => by
    obtain ⟨k1, k2⟩ := k _ _ h
    exact ⟨fun z => ok0 (k1 z), fun z => ok1 (k2 z)⟩
  refine w_X7_doAct ⟨fun e => sp7_change h8 hm (fun x C' h => fin (Or.inr (Or.inr (Or.inl ⟨e, ?_⟩)))), fun e => sp7_visit hC (fun x C' h => fin (Or.inl ⟨e, ?_⟩)), fun e => sp7_wash h8 hm (fun x C' h => fin (Or.inr (Or.inl ⟨e, ?_⟩))), fun e => sp7_next (fun x C' h => fin (Or.inr (Or.inr (Or.inr ⟨⟨e.2.1, e.2.2, e.1⟩, h⟩))))⟩
  · unfold actP actQ
    rw [if_pos e, if_neg (by rw [e]; decide), if_pos e]
    exact h
  · unfold actP actQ
    rw [if_neg (by rw [e]; decide), if_pos e]
    exact h
  · unfold actP actQ
    rw [if_neg (by rw [e]; decide), if_neg (by rw [e]; decide), if_neg (by rw [e]; decide)]
    exact h
