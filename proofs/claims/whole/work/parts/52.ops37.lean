/-! WASH, CHANGE, NEXT, apart -/
def Pw (m : Nat) (a b : Int32) : Prop := (0 ≤ a.toInt ∧ a.toInt ≤ 3) ∧ 0 ≤ b.toInt ∧ b.toInt < (m : Int)
def RWC (C : tS) (m : Nat) (a b x : Int32) (C' : tS) : Prop :=
  (¬ Pw m a b ∧ x = -1 ∧ C' = C) ∨ (Pw m a b ∧ ((¬ (C 8 b.toNatClampNeg = a ∧ C 6 b.toNatClampNeg = 3) ∧ x = -2 ∧ C' = C) ∨ ((C 8 b.toNatClampNeg = a ∧ C 6 b.toNatClampNeg = 3) ∧ x = C 9 b.toNatClampNeg / 2 ∧ ((¬ C 9 b.toNatClampNeg / 2 = 0 ∧ C' = tk_up C 9 b.toNatClampNeg (C 9 b.toNatClampNeg / 2)) ∨ (C 9 b.toNatClampNeg / 2 = 0 ∧ C' = tk_up (tk_up C 9 b.toNatClampNeg (C 9 b.toNatClampNeg / 2)) 10 b.toNatClampNeg 0)))))
def RWM (M : tS) (m : Nat) (a b x : Int32) (M' : tS) : Prop :=
  (¬ Pw m a b ∧ x = -1 ∧ M' = M) ∨ (Pw m a b ∧ ((¬ (M 51 b.toNatClampNeg = a ∧ M 49 b.toNatClampNeg = 3) ∧ x = -2 ∧ M' = M) ∨ ((M 51 b.toNatClampNeg = a ∧ M 49 b.toNatClampNeg = 3) ∧ x = M 52 b.toNatClampNeg / 2 ∧ M' = tk_up M 52 b.toNatClampNeg (M 52 b.toNatClampNeg / 2))))
theorem sp7_wash {Q : Int32 → tS → Prop} {C : tS} {m : Nat} {a b : Int32} (h8 : m ≤ 8) (hm : C 5 0 = nI m) (k : ∀ x C', RWC C m a b x C' → Q x C') : tk_Ms mX7_wash [.ref 0, .int a, .int b] C Q := by
  have tm : (C 5 0).toInt = (m : Int) := by rw [hm, nI_t (by omega)]
  refine w_X7_wash a b (sp_X7_isSister (fun h => zf (okI (by decide) (k _ _ (Or.inl ⟨fun g => h g.1, rfl, rfl⟩)))) (fun ha => zt (sp_X3_has (fun h => zf' (okI (by decide) (k _ _ (Or.inl ⟨fun g => h (by rw [tm]; exact g.2), rfl, rfl⟩)))) (fun h => zt' ?_))))
  rw [tm] at h
  have hP : Pw m a b := ⟨ha, h⟩
  have v : vp_in b 8 := vin h.1 (by omega)
  refine ⟨v, fun z => okI (by decide) (k _ _ (Or.inr ⟨hP, Or.inl ⟨fun g => z g.1, rfl, rfl⟩⟩)), fun z => ⟨v, fun w => ?_, fun w => okI (by decide) (k _ _ (Or.inr ⟨hP, Or.inl ⟨fun g => w g.2, rfl, rfl⟩⟩))⟩⟩
  refine w_X3_halve b ⟨v, v, v, fun c => okI (by decide) ⟨v, okI (by decide) ?_⟩, fun c => ⟨v, okI (by decide) ⟨v, okI (by decide) ?_⟩⟩⟩
  · rw [tk_up_ss] at c ⊢
    exact k _ _ (Or.inr ⟨hP, Or.inr ⟨⟨z, w⟩, rfl, Or.inl ⟨c, rfl⟩⟩⟩)
  · rw [tk_up_ss] at c
    rw [tk_up_n (show 9 ≠ 10 by decide), tk_up_ss]
    exact k _ _ (Or.inr ⟨hP, Or.inr ⟨⟨z, w⟩, rfl, Or.inr ⟨c, rfl⟩⟩⟩)
theorem sp8_wash {Q : Int32 → tS → Prop} {M : tS} {m : Nat} {a b : Int32} (h8 : m ≤ 8) (hm : M 45 9 = nI m) (k : ∀ x M', RWM M m a b x M' → Q x M') : tk_Ms mX8_wash [.ref 45, .int a, .int b] M Q := by
  have tm : (M 45 9).toInt = (m : Int) := by rw [hm, nI_t (by omega)]
  refine w_X8_wash a b (sp_X8_isSister (fun h => zf (okI (by decide) (k _ _ (Or.inl ⟨fun g => h g.1, rfl, rfl⟩)))) (fun ha => zt (sp_X8_isKey (by omega) (fun h => zf' (okI (by decide) (k _ _ (Or.inl ⟨fun g => h (by rw [tm]; exact g.2), rfl, rfl⟩)))) (fun h => zt' ?_))))
  rw [tm] at h
  have hP : Pw m a b := ⟨ha, h⟩
  have v : vp_in b 8 := vin h.1 (by omega)
  refine ⟨v, fun z => okI (by decide) (k _ _ (Or.inr ⟨hP, Or.inl ⟨fun g => z g.1, rfl, rfl⟩⟩)), fun z => ⟨v, fun w => ⟨v, v, v, okI (by decide) ?_⟩, fun w => okI (by decide) (k _ _ (Or.inr ⟨hP, Or.inl ⟨fun g => w g.2, rfl, rfl⟩⟩))⟩⟩
  rw [tk_up_ss]
  exact k _ _ (Or.inr ⟨hP, Or.inr ⟨⟨z, w⟩, rfl, rfl⟩⟩)
theorem kOf {S : tS} {m : Nat} (hI : Inv S) (hm : S 5 0 = nI m) (h8 : m ≤ 8) : ∀ i, i < m → kOk S i ∧ True := fun i hi => by
  obtain ⟨n, hn, e1, e2, hK⟩ := hI.keys
  have : n = m := nI_ij (by omega) (by omega) (e1.symm.trans hm)
  subst this
  exact ⟨hK i hi, trivial⟩
theorem pure_wash {C M C' M' : tS} {m : Nat} {a b x y : Int32} (hI : Inv (mix C M)) (hm : C 5 0 = nI m) (h8 : m ≤ 8) (h1 : RWC C m a b x C') (h2 : RWM M m a b y M') : x = y ∧ Inv (mix C' M') := by
  have hI0 := hI
  obtain ⟨i1, i2, ⟨n', i3, i4, i5, i6⟩, i7, i8⟩ := hI
  have enm : n' = m := nI_ij (by omega) (by omega) (i4.symm.trans hm)
  subst enm
  rcases h1 with ⟨p1, x1, e1⟩ | ⟨p1, h1⟩
  · rcases h2 with ⟨p2, x2, e2⟩ | ⟨p2, _⟩
    · subst e1; subst e2
      exact ⟨x1.trans x2.symm, hI0⟩
    · exact absurd p2 p1
  · rcases h2 with ⟨p2, _⟩ | ⟨p2, h2⟩
    · exact absurd p1 p2
    · have tb := tn p1.2.1
      have hj : b.toNatClampNeg < n' := by have := p1.2.2; omega
      generalize b.toNatClampNeg = j at *
      obtain ⟨t1, t2, t3, t4, t5, t6, t7, t8, t9, t10, t11, t12, t13, t14, t15⟩ := i6 j hj
      have t1 : M 49 j = C 6 j := t1
      have t3 : M 51 j = C 8 j := t3
      have t4 : M 52 j = C 9 j := t4
      have t5 : C 9 j ≠ 0 → M 53 j = C 10 j := t5
      have t12 : 0 ≤ (C 9 j).toInt := t12
      have t13 : (C 9 j).toInt ≤ 30 := t13
      have hh := half t12 t13
      have td : 0 ≤ (C 0 2).toInt := i7.2.1
      rw [t1, t3, t4] at h2
      rcases h1 with ⟨q1, x1, e1⟩ | ⟨q1, x1, h1⟩
      · rcases h2 with ⟨q2, x2, e2⟩ | ⟨q2, x2, e2⟩
        · subst e1; subst e2
          exact ⟨x1.trans x2.symm, hI0⟩
        · exact absurd q2 q1
      · rcases h2 with ⟨q2, x2, e2⟩ | ⟨q2, x2, e2⟩
        · exact absurd q1 q2
        · refine ⟨x1.trans x2.symm, ?_⟩
          subst e2
          rcases h1 with ⟨c, e1⟩ | ⟨c, e1⟩
          · subst e1
            refine ⟨i1, i2, ⟨n', i3, i4, i5, fun i hi => ?_⟩, i7, i8⟩
            show M 49 i = C 6 i ∧ M 50 i = C 7 i ∧ M 51 i = C 8 i ∧ upd (M 52) j (C 9 j / 2) i = upd (C 9) j (C 9 j / 2) i ∧ (upd (C 9) j (C 9 j / 2) i ≠ 0 → M 53 i = C 10 i) ∧ (upd (C 9) j (C 9 j / 2) i = 0 → C 10 i = 0) ∧ 0 ≤ (C 6 i).toInt ∧ (C 6 i).toInt ≤ 3 ∧ (C 7 i = 0 ∨ C 7 i = 1) ∧ 0 ≤ (C 8 i).toInt ∧ (C 8 i).toInt ≤ 4 ∧ 0 ≤ (upd (C 9) j (C 9 j / 2) i).toInt ∧ (upd (C 9) j (C 9 j / 2) i).toInt ≤ 30 ∧ 0 ≤ (C 10 i).toInt ∧ (C 10 i).toInt ≤ (C 0 2).toInt
            by_cases hij : i = j
            · subst hij
              rw [upd_s, upd_s]
              exact ⟨t1, t2, t3, rfl, fun _ => t5 (fun m0 => c (by rw [m0]; rfl)), fun m0 => absurd m0 c, t7, t8, t9, t10, t11, hh.1, hh.2, t14, t15⟩
            · rw [upd_n hij, upd_n hij]
              exact i6 i hi
          · subst e1
            refine ⟨i1, i2, ⟨n', i3, i4, i5, fun i hi => ?_⟩, i7, i8⟩
            show M 49 i = C 6 i ∧ M 50 i = C 7 i ∧ M 51 i = C 8 i ∧ upd (M 52) j (C 9 j / 2) i = upd (C 9) j (C 9 j / 2) i ∧ (upd (C 9) j (C 9 j / 2) i ≠ 0 → M 53 i = upd (C 10) j 0 i) ∧ (upd (C 9) j (C 9 j / 2) i = 0 → upd (C 10) j 0 i = 0) ∧ 0 ≤ (C 6 i).toInt ∧ (C 6 i).toInt ≤ 3 ∧ (C 7 i = 0 ∨ C 7 i = 1) ∧ 0 ≤ (C 8 i).toInt ∧ (C 8 i).toInt ≤ 4 ∧ 0 ≤ (upd (C 9) j (C 9 j / 2) i).toInt ∧ (upd (C 9) j (C 9 j / 2) i).toInt ≤ 30 ∧ 0 ≤ (upd (C 10) j 0 i).toInt ∧ (upd (C 10) j 0 i).toInt ≤ (C 0 2).toInt
            by_cases hij : i = j
            · subst hij
              rw [upd_s, upd_s, upd_s]
              exact ⟨t1, t2, t3, rfl, fun m0 => absurd c m0, fun _ => rfl, t7, t8, t9, t10, t11, hh.1, hh.2, by decide, td⟩
            · rw [upd_n hij, upd_n hij, upd_n hij]
              exact i6 i hi
def Pg (m : Nat) (a b : Int32) : Prop := (0 ≤ a.toInt ∧ a.toInt < (m : Int)) ∧ 0 ≤ b.toInt ∧ b.toInt ≤ 4
/-- a change, in one row of holders -/
def RG (m : Nat) (k : Nat) (C : tS) (a b x : Int32) (C' : tS) : Prop :=
  (¬ Pg m a b ∧ x = -1 ∧ C' = C) ∨ (Pg m a b ∧ ((C k a.toNatClampNeg = b ∧ x = -2 ∧ C' = C) ∨ (¬ C k a.toNatClampNeg = b ∧ x = C k a.toNatClampNeg ∧ C' = tk_up C k a.toNatClampNeg b)))
theorem sp7_change {Q : Int32 → tS → Prop} {C : tS} {m : Nat} {a b : Int32} (h8 : m ≤ 8) (hm : C 5 0 = nI m) (k : ∀ x C', RG m 8 C a b x C' → Q x C') : tk_Ms mX7_change [.ref 0, .int a, .int b] C Q := by
  have tm : (C 5 0).toInt = (m : Int) := by rw [hm, nI_t (by omega)]
  refine w_X7_change a b (sp_X3_has (fun h => zf (okI (by decide) (k _ _ (Or.inl ⟨fun g => h (by rw [tm]; exact g.1), rfl, rfl⟩)))) (fun h => zt ⟨fun c => okI (by decide) (k _ _ (Or.inl ⟨fun g => ?_, rfl, rfl⟩)), fun c => ⟨fun d => ?_, fun d => okI (by decide) (k _ _ (Or.inl ⟨fun g => ?_, rfl, rfl⟩))⟩⟩))
  · have := g.2.1; rw [lt0] at c; omega
  · rw [tm] at h
    rw [lt0] at c
    rw [xle] at d
    simp only [Int32.reduceToInt] at d
    have v : vp_in a 8 := vin h.1 (by omega)
    have hP : Pg m a b := ⟨h, by omega, d⟩
    exact ⟨v, fun z => ⟨v, okI (by decide) (k _ _ (Or.inr ⟨hP, Or.inr ⟨z, rfl, rfl⟩⟩))⟩, fun z => okI (by decide) (k _ _ (Or.inr ⟨hP, Or.inl ⟨z, rfl, rfl⟩⟩))⟩
  · have := g.2.2; rw [xle] at d; simp only [Int32.reduceToInt] at d; omega
theorem sp8_change {Q : Int32 → tS → Prop} {M : tS} {m : Nat} {a b : Int32} (h8 : m ≤ 8) (hm : M 45 9 = nI m) (k : ∀ x M', RG m 51 M a b x M' → Q x M') : tk_Ms mX8_change [.ref 45, .int a, .int b] M Q := by
  have tm : (M 45 9).toInt = (m : Int) := by rw [hm, nI_t (by omega)]
  have i4 : (0 : Int64).toInt ≤ b.toInt64.toInt ∧ b.toInt64.toInt ≤ (4 : Int64).toInt ↔ 0 ≤ b.toInt ∧ b.toInt ≤ 4 := by rw [l64]; exact Iff.rfl
  refine w_X8_change a b (sp_X8_isKey (by omega) (fun h => zf (okI (by decide) (k _ _ (Or.inl ⟨fun g => h (by rw [tm]; exact g.1), rfl, rfl⟩)))) (fun h => zt (sp_X8_in (fun d => zf' (okI (by decide) (k _ _ (Or.inl ⟨fun g => d (i4.mpr g.2), rfl, rfl⟩)))) (fun d => zt' ?_))))
  rw [tm] at h
  have v : vp_in a 8 := vin h.1 (by omega)
  have hP : Pg m a b := ⟨h, i4.mp d⟩
  exact ⟨v, fun z => ⟨v, okI (by decide) (k _ _ (Or.inr ⟨hP, Or.inr ⟨z, rfl, rfl⟩⟩))⟩, fun z => okI (by decide) (k _ _ (Or.inr ⟨hP, Or.inl ⟨z, rfl, rfl⟩⟩))⟩
theorem pure_change {C M C' M' : tS} {m : Nat} {a b x y : Int32} (hI : Inv (mix C M)) (hm : C 5 0 = nI m) (h8 : m ≤ 8) (h1 : RG m 8 C a b x C') (h2 : RG m 51 M a b y M') : x = y ∧ Inv (mix C' M') := by
  have hI0 := hI
  obtain ⟨i1, i2, ⟨n', i3, i4, i5, i6⟩, i7, i8⟩ := hI
  have enm : n' = m := nI_ij (by omega) (by omega) (i4.symm.trans hm)
  subst enm
  rcases h1 with ⟨p1, x1, e1⟩ | ⟨p1, h1⟩
  · rcases h2 with ⟨p2, x2, e2⟩ | ⟨p2, _⟩
    · subst e1; subst e2
      exact ⟨x1.trans x2.symm, hI0⟩
    · exact absurd p2 p1
  · rcases h2 with ⟨p2, _⟩ | ⟨p2, h2⟩
    · exact absurd p1 p2
    · have tb := tn p1.1.1
      have hj : a.toNatClampNeg < n' := by have := p1.1.2; omega
      have hb := p1.2
      generalize a.toNatClampNeg = j at *
      have t3 : M 51 j = C 8 j := (i6 j hj).2.2.1
      rw [t3] at h2
      rcases h1 with ⟨q1, x1, e1⟩ | ⟨q1, x1, e1⟩
      · rcases h2 with ⟨q2, x2, e2⟩ | ⟨q2, x2, e2⟩
        · subst e1; subst e2
          exact ⟨x1.trans x2.symm, hI0⟩
        · exact absurd q1 q2
      · rcases h2 with ⟨q2, x2, e2⟩ | ⟨q2, x2, e2⟩
        · exact absurd q2 q1
        · refine ⟨x1.trans x2.symm, ?_⟩
          subst e1; subst e2
          refine ⟨i1, i2, ⟨n', i3, i4, i5, fun i hi => ?_⟩, i7, i8⟩
          obtain ⟨t1, t2, t3, t4, t5, t6, t7, t8, t9, t10, t11, t12⟩ := i6 i hi
          show M 49 i = C 6 i ∧ M 50 i = C 7 i ∧ upd (M 51) j b i = upd (C 8) j b i ∧ M 52 i = C 9 i ∧ (C 9 i ≠ 0 → M 53 i = C 10 i) ∧ (C 9 i = 0 → C 10 i = 0) ∧ 0 ≤ (C 6 i).toInt ∧ (C 6 i).toInt ≤ 3 ∧ (C 7 i = 0 ∨ C 7 i = 1) ∧ 0 ≤ (upd (C 8) j b i).toInt ∧ (upd (C 8) j b i).toInt ≤ 4 ∧ 0 ≤ (C 9 i).toInt ∧ (C 9 i).toInt ≤ 30 ∧ 0 ≤ (C 10 i).toInt ∧ (C 10 i).toInt ≤ (C 0 2).toInt
          by_cases hij : i = j
          · subst hij
            rw [upd_s, upd_s]
            exact ⟨t1, t2, rfl, t4, t5, t6, t7, t8, t9, hb.1, hb.2, t12⟩
          · rw [upd_n hij, upd_n hij]
            exact ⟨t1, t2, t3, t4, t5, t6, t7, t8, t9, t10, t11, t12⟩
