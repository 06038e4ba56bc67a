/-! KEY, TOLD, OF, CHANGE -/
def Pk (a b : Int32) : Prop := (0 ≤ a.toInt ∧ a.toInt ≤ 3) ∧ 0 ≤ b.toInt ∧ b.toInt ≤ 1
def stK (S : tS) (n : Nat) (p q x : Int32) : tS := tk_up (tk_up (tk_up (tk_up (tk_up (tk_up S 6 n p) 7 n q) 8 n 4) 9 n 0) 10 n 0) 5 0 x
theorem sp_X3_add {Q : Int32 → tS → Prop} {S : tS} {p q : Int32} (hn : 0 ≤ (S 5 0).toInt) (kF : ¬ (S 5 0).toInt < 8 → Q (-3) S) (kA : (S 5 0).toInt < 8 → Q (S 5 0) (stK S (S 5 0).toNatClampNeg p q (S 5 0 + 1))) : tk_Ms mX3_add [.ref 5, .int p, .int q] S Q := by
  refine w_X3_add p q ⟨fun c => ?_, fun c => okI (by decide) (kF (by simp only [xlt, xle, xeq, Int32.reduceToInt, tneg1, l64, Int64.reduceToInt] at *; omega))⟩
  have c' : (S 5 0).toInt < 8 := (by simp only [xlt, xle, xeq, Int32.reduceToInt, tneg1, l64, Int64.reduceToInt] at *; omega)
  have v : vp_in (S 5 0) 8 := vin hn (by omega)
  exact ⟨v, v, v, v, v, okI (by decide) (by rw [add_sub1]; exact kA c')⟩
theorem sp_X7_key {Q : Int32 → tS → Prop} {S : tS} {a b : Int32} (hn : 0 ≤ (S 5 0).toInt) (k0 : ¬ Pk a b → Q (-1) S) (kF : Pk a b → ¬ (S 5 0).toInt < 8 → Q (-3) S) (kA : Pk a b → (S 5 0).toInt < 8 → Q (S 5 0) (stK S (S 5 0).toNatClampNeg a b (S 5 0 + 1))) : tk_Ms mX7_key [.ref 0, .int a, .int b] S Q := by
  refine w_X7_key a b (sp_X7_isKind (fun h => zf (okI (by decide) (k0 (fun g => h g.1)))) (fun ha => zt ⟨fun d => okI (by decide) (k0 (fun g => ?_)), fun d => ⟨fun e => ?_, fun e => okI (by decide) (k0 (fun g => ?_))⟩⟩)) 
  · have h := g.2.1
    have d' : b.toInt < 0 := by rw [xlt] at d; simpa only [Int32.reduceToInt] using d
    omega
  · have hP : Pk a b := ⟨ha, by rw [xlt] at d; simp only [Int32.reduceToInt] at d; omega, by rw [xle] at e; simpa only [Int32.reduceToInt] using e⟩
    exact sp_X3_add hn (fun h => okI (by decide) (kF hP h)) (fun h => okI (by decide) (kA hP h))
  · have h := g.2.2
    rw [xle] at e
    simp only [Int32.reduceToInt] at e
    exact e h
theorem sp_X8_key {Q : Int32 → tS → Prop} {S : tS} {a b : Int32} (hn : 0 ≤ (S 45 9).toInt) (hn2 : (S 45 9).toInt ≤ 8) (k0 : ¬ Pk a b → Q (-1) S) (kF : Pk a b → ¬ (S 45 9).toInt < 8 → Q (-3) S) (kA : Pk a b → (S 45 9).toInt < 8 → Q (S 45 9) (tk_up (tk_up (tk_up (tk_up (tk_up (tk_up S 49 (S 45 9).toNatClampNeg a) 50 (S 45 9).toNatClampNeg b) 51 (S 45 9).toNatClampNeg 4) 52 (S 45 9).toNatClampNeg 0) 53 (S 45 9).toNatClampNeg 0) 45 9 (S 45 9 + 1))) : tk_Ms mX8_key [.ref 45, .int a, .int b] S Q := by
  refine w_X8_key a b (sp_X8_in (fun h => zf (okI (by decide) (k0 (fun g => h ?_)))) (fun ha => zt (sp_X8_in (fun h => zf' (okI (by decide) (k0 (fun g => h ?_)))) (fun h => zt' ?_))))
  · simp only [l64, Int64.reduceToInt]
    exact g.1
  · simp only [l64, Int64.reduceToInt]
    exact g.2
  · simp only [l64, Int64.reduceToInt] at h ha
    have hP : Pk a b := ⟨ha, h⟩
    refine ⟨fun d => ?_, fun d => okI (by decide) (kF hP ?_)⟩
    · have d' : (S 45 9).toInt < 8 := by rw [xeq] at d; simp only [Int32.reduceToInt] at d; omega
      have v : vp_in (S 45 9) 8 := vin hn (by omega)
      exact ⟨v, v, v, v, v, okI (by decide) (by rw [add_sub1]; exact kA hP d')⟩
    · rw [xeq] at d
      simp only [Int32.reduceToInt] at d
      omega
theorem pr_key {S : tS} (hI : Inv S) (a b : Int32) : tk_Ms mX7_key [.ref 0, .int a, .int b] S (fun x S1 => tk_Ms mX8_key [.ref 45, .int a, .int b] S1 (fun y S2 => x = y ∧ Inv S2)) := by
  have hI0 := hI
  obtain ⟨hD, hE, ⟨n, hn, e1, e2, hK⟩, hT, hB, hM, h0, h1, h2, h3⟩ := hI
  have t1 : (S 5 0).toInt = n := by rw [e1]; exact nI_t (by omega)
  have t2 : (S 45 9).toInt = n := by rw [e2]; exact nI_t (by omega)
  have q0 : 0 ≤ (S 5 0).toInt := by omega
  have q1 : 0 ≤ (S 45 9).toInt := by omega
  have q2 : (S 45 9).toInt ≤ 8 := by omega
  refine sp_X7_key q0 (fun h => sp_X8_key q1 q2 (fun _ => ⟨rfl, hI0⟩) (fun g => absurd g h) (fun g => absurd g h)) (fun g h => sp_X8_key q1 q2 (fun g' => absurd g g') (fun _ _ => ⟨rfl, hI0⟩) (fun _ h' => by omega)) (fun g h => sp_X8_key q1 q2 (fun g' => absurd g g') (fun _ h' => absurd (show (S 45 9).toInt < 8 by omega) h') (fun _ h' => ⟨?_, ?_⟩))
  · show S 5 0 = S 45 9
    rw [e1, e2]
  · have c1 : (S 5 0).toNatClampNeg = n := by rw [e1]; exact nI_c (by omega)
    have c2 : (S 45 9).toNatClampNeg = n := by rw [e2]; exact nI_c (by omega)
    have hlt : n < 8 := by omega
    show Inv (tk_up (tk_up (tk_up (tk_up (tk_up (tk_up (stK S (S 5 0).toNatClampNeg a b (S 5 0 + 1)) 49 (S 45 9).toNatClampNeg a) 50 (S 45 9).toNatClampNeg b) 51 (S 45 9).toNatClampNeg 4) 52 (S 45 9).toNatClampNeg 0) 53 (S 45 9).toNatClampNeg 0) 45 9 (S 45 9 + 1))
    rw [c1, c2]
    refine ⟨hD, hE, ⟨n + 1, by omega, ?_, ?_, fun i hi => ?_⟩, hT, hB, hM, h0, h1, h2, h3⟩
    · show S 5 0 + 1 = _
      rw [e1, nI_1]
    · show S 45 9 + 1 = _
      rw [e2, nI_1]
    · show upd (S 49) n a i = upd (S 6) n a i ∧ upd (S 50) n b i = upd (S 7) n b i ∧ upd (S 51) n 4 i = upd (S 8) n 4 i ∧ upd (S 52) n 0 i = upd (S 9) n 0 i ∧ (upd (S 9) n 0 i ≠ 0 → upd (S 53) n 0 i = upd (S 10) n 0 i) ∧ (upd (S 9) n 0 i = 0 → upd (S 10) n 0 i = 0) ∧ 0 ≤ (upd (S 6) n a i).toInt ∧ (upd (S 6) n a i).toInt ≤ 3 ∧ (upd (S 7) n b i = 0 ∨ upd (S 7) n b i = 1) ∧ 0 ≤ (upd (S 8) n 4 i).toInt ∧ (upd (S 8) n 4 i).toInt ≤ 4 ∧ 0 ≤ (upd (S 9) n 0 i).toInt ∧ (upd (S 9) n 0 i).toInt ≤ 30 ∧ 0 ≤ (upd (S 10) n 0 i).toInt ∧ (upd (S 10) n 0 i).toInt ≤ (S 0 2).toInt
      by_cases hi2 : i = n
      · subst hi2
        simp only [upd_s]
        refine ⟨trivial, trivial, trivial, trivial, fun e => absurd rfl e, fun _ => trivial, g.1.1, g.1.2, ?_, by decide, by decide, by decide, by decide, by decide, hT.2.1⟩
        rcases (show b.toInt = 0 ∨ b.toInt = 1 by have := g.2.1; have := g.2.2; omega) with z | z
        · exact Or.inl (by rw [xeq, z]; rfl)
        · exact Or.inr (by rw [xeq, z]; rfl)
      · simp only [upd_n hi2]
        exact hK i (by omega)
/-- a number in range is a place -/
theorem plc {p x : Int32} {n : Nat} (e : x = nI n) (hn : n < 1000) (h : 0 ≤ p.toInt ∧ p.toInt < x.toInt) : p.toNatClampNeg < n ∧ p = nI p.toNatClampNeg := by
  rw [e, nI_t (by omega)] at h
  have := tn h.1
  exact ⟨by omega, nI_of_t h.1⟩
theorem pr_told {S : tS} (hI : Inv S) (a b : Int32) : tk_Ms mX7_told [.ref 0, .int a, .int b] S (fun x S1 => tk_Ms mX8_told [.ref 45, .int a, .int b] S1 (fun y S2 => x = y ∧ Inv S2)) := by
  have hI0 := hI
  obtain ⟨hD, hE, ⟨n, hn, e1, e2, hK⟩, hT, hB, hM, h0, h1, h2, h3⟩ := hI
  have e3 : S 45 9 = S 5 0 := by rw [e1, e2]
  have q1 : 0 ≤ (S 45 9).toInt := by rw [e2, nI_t (by omega)]; omega
  refine w_X7_told a b (sp_X3_has (fun h => zf' (okI (by decide) (w_X8_told a b (sp_X8_isKey q1 (fun _ => zf' (okI (by decide) ⟨rfl, hI0⟩)) (fun g => absurd (by rw [← e3]; exact g) h))))) (fun h => zt' ?_))
  have v : vp_in a 8 := vin h.1 (by have := h.2; rw [e1, nI_t (by omega)] at this; omega)
  obtain ⟨hlt, -⟩ := plc e1 (by omega) h
  have key := hK _ hlt
  have hm : ∀ {x : Int32}, (∀ (T : (b = 0 → (vp_in a 8 ∧ (tk_okQ mX8_told (fun y S2 => x = y ∧ Inv S2)) (S 49 a.toNatClampNeg) S)) ∧ ((b = 1 → (vp_in a 8 ∧ (tk_okQ mX8_told (fun y S2 => x = y ∧ Inv S2)) (S 50 a.toNatClampNeg) S)) ∧ ((b = 2 → (vp_in a 8 ∧ (tk_okQ mX8_told (fun y S2 => x = y ∧ Inv S2)) (S 51 a.toNatClampNeg) S)) ∧ ((b = 3 → (vp_in a 8 ∧ (tk_okQ mX8_told (fun y S2 => x = y ∧ Inv S2)) (S 52 a.toNatClampNeg) S)) ∧ ((b = 4 → (vp_in a 8 ∧ ((¬ (S 52 a.toNatClampNeg) = 0 → (vp_in a 8 ∧ (tk_okQ mX8_told (fun y S2 => x = y ∧ Inv S2)) (S 53 a.toNatClampNeg) S)) ∧ ((S 52 a.toNatClampNeg) = 0 → (tk_okQ mX8_told (fun y S2 => x = y ∧ Inv S2)) 0 S)))) ∧ (¬ b = 0 ∧ ¬ b = 1 ∧ ¬ b = 2 ∧ ¬ b = 3 ∧ ¬ b = 4 → (tk_okQ mX8_told (fun y S2 => x = y ∧ Inv S2)) (-1) S)))))), tk_Ms mX8_told [.ref 45, .int a, .int b] S (fun y S2 => x = y ∧ Inv S2)) := fun T => w_X8_told a b (sp_X8_isKey q1 (fun g => absurd (by rw [e3]; exact h) g) (fun _ => zt' T))
  have no : ∀ {u w : Int32} {P : Prop}, b = u → u ≠ w → b = w → P := fun h1 h2 h3 => absurd (h1.symm.trans h3) h2
  refine ⟨fun c => ⟨v, okI (by decide) (hm ⟨fun _ => ⟨v, okI (by decide) ⟨key.1.symm, hI0⟩⟩, no c (by decide), no c (by decide), no c (by decide), no c (by decide), fun g => absurd c g.1⟩)⟩, fun c => ⟨v, okI (by decide) (hm ⟨no c (by decide), fun _ => ⟨v, okI (by decide) ⟨key.2.1.symm, hI0⟩⟩, no c (by decide), no c (by decide), no c (by decide), fun g => absurd c g.2.1⟩)⟩, fun c => ⟨v, okI (by decide) (hm ⟨no c (by decide), no c (by decide), fun _ => ⟨v, okI (by decide) ⟨key.2.2.1.symm, hI0⟩⟩, no c (by decide), no c (by decide), fun g => absurd c g.2.2.1⟩)⟩, fun c => ⟨v, okI (by decide) (hm ⟨no c (by decide), no c (by decide), no c (by decide), fun _ => ⟨v, okI (by decide) ⟨key.2.2.2.1.symm, hI0⟩⟩, no c (by decide), fun g => absurd c g.2.2.2.1⟩)⟩, fun c => ⟨v, okI (by decide) (hm ⟨no c (by decide), no c (by decide), no c (by decide), no c (by decide), fun _ => ⟨v, fun z => ⟨v, okI (by decide) ⟨(key.2.2.2.2.1 (by rw [← key.2.2.2.1]; exact z)).symm, hI0⟩⟩, fun z => okI (by decide) ⟨key.2.2.2.2.2.1 (by rw [← key.2.2.2.1]; exact z), hI0⟩⟩, fun g => absurd c g.2.2.2.2⟩)⟩, fun c => okI (by decide) (hm ⟨fun z => absurd z c.1, fun z => absurd z c.2.1, fun z => absurd z c.2.2.1, fun z => absurd z c.2.2.2.1, fun z => absurd z c.2.2.2.2, fun _ => okI (by decide) ⟨rfl, hI0⟩⟩)⟩
theorem pr_of {S : tS} (hI : Inv S) (a b : Int32) : tk_Ms mX7_of [.ref 0, .int a, .int b] S (fun x S1 => tk_Ms mX8_of [.ref 45, .int a, .int b] S1 (fun y S2 => x = y ∧ Inv S2)) := by
  have hI0 := hI
  obtain ⟨⟨n, hn, e1, e2, hD⟩, hE, hK, hT, hB, hM, h0, h1, h2, h3⟩ := hI
  have t1 : (S 1 0).toInt = n := by rw [e1]; exact nI_t (by omega)
  have t2 : (S 45 3).toInt = n := by rw [e2]; exact nI_t (by omega)
  have e : (S 45 3 - 1).toInt = (n : Int) - 1 := by rw [subT] <;> simp only [Int32.reduceToInt] <;> omega
  have b0 : b = 0 ↔ b.toInt = 0 := by rw [xeq]; rfl
  have b1 : b = 1 ↔ b.toInt = 1 := by rw [xeq]; rfl
  have b2 : b = 2 ↔ b.toInt = 2 := by rw [xeq]; rfl
  have hm : ∀ {x : Int32}, (¬ (0 ≤ a.toInt ∧ a.toInt < (S 1 0).toInt) ∨ ¬ (0 ≤ b.toInt ∧ b.toInt ≤ 2) → x = -1) → (0 ≤ a.toInt ∧ a.toInt < (S 1 0).toInt → 0 ≤ b.toInt ∧ b.toInt ≤ 2 → x = if b = 0 then S 2 a.toNatClampNeg else if b = 1 then S 3 a.toNatClampNeg else S 4 a.toNatClampNeg) → tk_Ms mX8_of [.ref 45, .int a, .int b] S (fun y S2 => x = y ∧ Inv S2) := by
    intro x k0 k1
    refine w_X8_of a b (sp_X8_in (fun h => zf (okI (by decide) ⟨k0 (Or.inl (fun g => h ?_)), hI0⟩)) (fun h => zt (sp_X8_in (fun g => zf' (okI (by decide) ⟨k0 (Or.inr (fun z => g ?_)), hI0⟩)) (fun g => zt' ?_))))
    · simp only [l64, Int64.reduceToInt, e]
      omega
    · simp only [l64, Int64.reduceToInt]
      exact z
    · simp only [l64, Int64.reduceToInt, e] at h g
      have ha : 0 ≤ a.toInt ∧ a.toInt < (S 1 0).toInt := by omega
      have v : vp_in a 17 := vin h.1 (by omega)
      obtain ⟨hlt, -⟩ := plc e1 (by omega) ha
      have key := hD _ hlt
      have kk := k1 ha g
      refine ⟨fun c => ⟨fun d => ⟨v, okI (by decide) ⟨?_, hI0⟩⟩, fun d => ⟨v, okI (by decide) ⟨?_, hI0⟩⟩⟩, fun c => ⟨v, okI (by decide) ⟨?_, hI0⟩⟩⟩
      · rw [kk, if_neg c, if_neg d, key.2.2.1]
      · rw [kk, if_neg c, if_pos d, key.2.1]
      · rw [kk, if_pos c, key.1]
  refine w_X7_of a b (sp_X2_has (fun h => zf' (okI (by decide) (hm (fun _ => rfl) (fun g => absurd g h)))) (fun h => zt' ?_))
  have v : vp_in a 17 := vin h.1 (by omega)
  refine ⟨fun c => ⟨v, okI (by decide) (hm (fun g => ?_) (fun _ _ => by rw [if_pos c]))⟩, fun c => ⟨v, okI (by decide) (hm (fun g => ?_) (fun _ _ => by rw [if_neg (by rw [b0]; rw [b1] at c; omega), if_pos c]))⟩, fun c => ⟨v, okI (by decide) (hm (fun g => ?_) (fun _ _ => by rw [if_neg (by rw [b0]; rw [b2] at c; omega), if_neg (by rw [b1]; rw [b2] at c; omega)]))⟩, fun c => okI (by decide) (hm (fun _ => rfl) (fun _ g => ?_))⟩
  · exfalso; rw [b0] at c; omega
  · exfalso; rw [b1] at c; omega
  · exfalso; rw [b2] at c; omega
  · exfalso; rw [b0, b1, b2] at c; omega
