/-! SMALL METHODS: ranges and tests -/

theorem zf {A B : Prop} (a : A) : ((0 : Int32) = 0 → A) ∧ (¬ (0 : Int32) = 0 → B) := ⟨fun _ => a, fun e => absurd rfl e⟩
theorem zt {A B : Prop} (b : B) : ((1 : Int32) = 0 → A) ∧ (¬ (1 : Int32) = 0 → B) := ⟨fun e => absurd e (by decide), fun _ => b⟩
theorem zf' {A B : Prop} (b : B) : (¬ (0 : Int32) = 0 → A) ∧ ((0 : Int32) = 0 → B) := ⟨fun e => absurd rfl e, fun _ => b⟩
theorem zt' {A B : Prop} (a : A) : (¬ (1 : Int32) = 0 → A) ∧ ((1 : Int32) = 0 → B) := ⟨fun _ => a, fun e => absurd e (by decide)⟩
theorem sp_X2_has {Q : Int32 → tS → Prop} {S : tS} {p : Int32} (k0 : ¬ (0 ≤ p.toInt ∧ p.toInt < (S 1 0).toInt) → Q 0 S) (k1 : 0 ≤ p.toInt ∧ p.toInt < (S 1 0).toInt → Q 1 S) : tk_Ms mX2_has [.ref 1, .int p] S Q :=
  w_X2_has p ⟨fun c => ok0 (k0 (by simp only [xlt, xle, xeq, Int32.reduceToInt, tneg1, l64, Int64.reduceToInt] at *; omega)), fun c => ⟨fun d => ok0 (k0 (by simp only [xlt, xle, xeq, Int32.reduceToInt, tneg1, l64, Int64.reduceToInt] at *; omega)), fun d => ok1 (k1 (by simp only [xlt, xle, xeq, Int32.reduceToInt, tneg1, l64, Int64.reduceToInt] at *; omega))⟩⟩
theorem sp_X3_has {Q : Int32 → tS → Prop} {S : tS} {p : Int32} (k0 : ¬ (0 ≤ p.toInt ∧ p.toInt < (S 5 0).toInt) → Q 0 S) (k1 : 0 ≤ p.toInt ∧ p.toInt < (S 5 0).toInt → Q 1 S) : tk_Ms mX3_has [.ref 5, .int p] S Q :=
  w_X3_has p ⟨fun c => ok0 (k0 (by simp only [xlt, xle, xeq, Int32.reduceToInt, tneg1, l64, Int64.reduceToInt] at *; omega)), fun c => ⟨fun d => ok0 (k0 (by simp only [xlt, xle, xeq, Int32.reduceToInt, tneg1, l64, Int64.reduceToInt] at *; omega)), fun d => ok1 (k1 (by simp only [xlt, xle, xeq, Int32.reduceToInt, tneg1, l64, Int64.reduceToInt] at *; omega))⟩⟩
theorem sp_X7_isPlace {Q : Int32 → tS → Prop} {S : tS} {p : Int32} (k0 : ¬ (0 ≤ p.toInt ∧ p.toInt ≤ 10) → Q 0 S) (k1 : 0 ≤ p.toInt ∧ p.toInt ≤ 10 → Q 1 S) : tk_Ms mX7_isPlace [.int p] S Q :=
  w_X7_isPlace p ⟨fun c => ok0 (k0 (by simp only [xlt, xle, xeq, Int32.reduceToInt, tneg1, l64, Int64.reduceToInt] at *; omega)), fun c => ⟨fun d => ok0 (k0 (by simp only [xlt, xle, xeq, Int32.reduceToInt, tneg1, l64, Int64.reduceToInt] at *; omega)), fun d => ok1 (k1 (by simp only [xlt, xle, xeq, Int32.reduceToInt, tneg1, l64, Int64.reduceToInt] at *; omega))⟩⟩
theorem sp_X7_isKind {Q : Int32 → tS → Prop} {S : tS} {p : Int32} (k0 : ¬ (0 ≤ p.toInt ∧ p.toInt ≤ 3) → Q 0 S) (k1 : 0 ≤ p.toInt ∧ p.toInt ≤ 3 → Q 1 S) : tk_Ms mX7_isKind [.int p] S Q :=
  w_X7_isKind p ⟨fun c => ok0 (k0 (by simp only [xlt, xle, xeq, Int32.reduceToInt, tneg1, l64, Int64.reduceToInt] at *; omega)), fun c => ⟨fun d => ok0 (k0 (by simp only [xlt, xle, xeq, Int32.reduceToInt, tneg1, l64, Int64.reduceToInt] at *; omega)), fun d => ok1 (k1 (by simp only [xlt, xle, xeq, Int32.reduceToInt, tneg1, l64, Int64.reduceToInt] at *; omega))⟩⟩
theorem sp_X7_isSister {Q : Int32 → tS → Prop} {S : tS} {p : Int32} (k0 : ¬ (0 ≤ p.toInt ∧ p.toInt ≤ 3) → Q 0 S) (k1 : 0 ≤ p.toInt ∧ p.toInt ≤ 3 → Q 1 S) : tk_Ms mX7_isSister [.int p] S Q :=
  w_X7_isSister p ⟨fun c => ok0 (k0 (by simp only [xlt, xle, xeq, Int32.reduceToInt, tneg1, l64, Int64.reduceToInt] at *; omega)), fun c => ⟨fun d => ok0 (k0 (by simp only [xlt, xle, xeq, Int32.reduceToInt, tneg1, l64, Int64.reduceToInt] at *; omega)), fun d => ok1 (k1 (by simp only [xlt, xle, xeq, Int32.reduceToInt, tneg1, l64, Int64.reduceToInt] at *; omega))⟩⟩
theorem sp_X7_isStay {Q : Int32 → tS → Prop} {S : tS} {p : Int32} (k0 : ¬ (0 ≤ p.toInt ∧ p.toInt ≤ 30) → Q 0 S) (k1 : 0 ≤ p.toInt ∧ p.toInt ≤ 30 → Q 1 S) : tk_Ms mX7_isStay [.int p] S Q :=
  w_X7_isStay p ⟨fun c => ok0 (k0 (by simp only [xlt, xle, xeq, Int32.reduceToInt, tneg1, l64, Int64.reduceToInt] at *; omega)), fun c => ⟨fun d => ok0 (k0 (by simp only [xlt, xle, xeq, Int32.reduceToInt, tneg1, l64, Int64.reduceToInt] at *; omega)), fun d => ok1 (k1 (by simp only [xlt, xle, xeq, Int32.reduceToInt, tneg1, l64, Int64.reduceToInt] at *; omega))⟩⟩
theorem sp_X7_isSheet {Q : Int32 → tS → Prop} {S : tS} {p : Int32} (k0 : ¬ (0 ≤ p.toInt ∧ p.toInt ≤ 3) → Q 0 S) (k1 : 0 ≤ p.toInt ∧ p.toInt ≤ 3 → Q 1 S) : tk_Ms mX7_isSheet [.int p] S Q :=
  w_X7_isSheet p ⟨fun c => ok0 (k0 (by simp only [xlt, xle, xeq, Int32.reduceToInt, tneg1, l64, Int64.reduceToInt] at *; omega)), fun c => ⟨fun d => ok0 (k0 (by simp only [xlt, xle, xeq, Int32.reduceToInt, tneg1, l64, Int64.reduceToInt] at *; omega)), fun d => ok1 (k1 (by simp only [xlt, xle, xeq, Int32.reduceToInt, tneg1, l64, Int64.reduceToInt] at *; omega))⟩⟩
theorem sp_X7_isLane {Q : Int32 → tS → Prop} {S : tS} {p : Int32} (k0 : ¬ (0 ≤ p.toInt ∧ p.toInt ≤ 2) → Q 0 S) (k1 : 0 ≤ p.toInt ∧ p.toInt ≤ 2 → Q 1 S) : tk_Ms mX7_isLane [.int p] S Q :=
  w_X7_isLane p ⟨fun c => ok0 (k0 (by simp only [xlt, xle, xeq, Int32.reduceToInt, tneg1, l64, Int64.reduceToInt] at *; omega)), fun c => ⟨fun d => ok0 (k0 (by simp only [xlt, xle, xeq, Int32.reduceToInt, tneg1, l64, Int64.reduceToInt] at *; omega)), fun d => ok1 (k1 (by simp only [xlt, xle, xeq, Int32.reduceToInt, tneg1, l64, Int64.reduceToInt] at *; omega))⟩⟩
theorem sp_X7_isDayAhead {Q : Int32 → tS → Prop} {S : tS} {p : Int32} (k0 : ¬ ((S 0 2).toInt ≤ p.toInt ∧ p.toInt ≤ 999) → Q 0 S) (k1 : (S 0 2).toInt ≤ p.toInt ∧ p.toInt ≤ 999 → Q 1 S) : tk_Ms mX7_isDayAhead [.ref 0, .int p] S Q :=
  w_X7_isDayAhead p ⟨fun c => ok0 (k0 (by simp only [xlt, xle, xeq, Int32.reduceToInt, tneg1, l64, Int64.reduceToInt] at *; omega)), fun c => ⟨fun d => ok0 (k0 (by simp only [xlt, xle, xeq, Int32.reduceToInt, tneg1, l64, Int64.reduceToInt] at *; omega)), fun d => ok1 (k1 (by simp only [xlt, xle, xeq, Int32.reduceToInt, tneg1, l64, Int64.reduceToInt] at *; omega))⟩⟩
theorem sp_X5_isDigit {Q : Int32 → tS → Prop} {S : tS} {p : Int32} (k0 : ¬ (48 ≤ p.toInt ∧ p.toInt ≤ 57) → Q 0 S) (k1 : 48 ≤ p.toInt ∧ p.toInt ≤ 57 → Q 1 S) : tk_Ms mX5_isDigit [.int p] S Q :=
  w_X5_isDigit p ⟨fun c => ok0 (k0 (by simp only [xlt, xle, xeq, Int32.reduceToInt, tneg1, l64, Int64.reduceToInt] at *; omega)), fun c => ⟨fun d => ok0 (k0 (by simp only [xlt, xle, xeq, Int32.reduceToInt, tneg1, l64, Int64.reduceToInt] at *; omega)), fun d => ok1 (k1 (by simp only [xlt, xle, xeq, Int32.reduceToInt, tneg1, l64, Int64.reduceToInt] at *; omega))⟩⟩
theorem sp_X7_mayHaveDoor {Q : Int32 → tS → Prop} {S : tS} {p q : Int32} (hp : 0 ≤ p.toInt ∧ p.toInt ≤ 10) (hq : 0 ≤ q.toInt ∧ q.toInt ≤ 10) (k0 : ¬ (p ≠ q ∧ ¬ (p.toInt = 0 ∧ q.toInt = 10) ∧ ¬ (p.toInt = 10 ∧ q.toInt = 0)) → Q 0 S) (k1 : p ≠ q ∧ ¬ (p.toInt = 0 ∧ q.toInt = 10) ∧ ¬ (p.toInt = 10 ∧ q.toInt = 0) → Q 1 S) : tk_Ms mX7_mayHaveDoor [.int p, .int q] S Q := by
  have e1 : (p - q).toInt = p.toInt - q.toInt := subT (by omega) (by omega)
  have e2 : (0 - (p - q)).toInt = 0 - (p.toInt - q.toInt) := by rw [subT, e1]; rfl; rw [e1]; simp only [Int32.reduceToInt]; omega; rw [e1]; simp only [Int32.reduceToInt]; omega
  have e3 : (if 0 ≤ (p - q) then (p - q) else 0 - (p - q)) = 10 ↔ (p.toInt = 0 ∧ q.toInt = 10) ∨ (p.toInt = 10 ∧ q.toInt = 0) := by
    by_cases h : 0 ≤ p - q
    · rw [if_pos h]
      rw [xle, e1] at h
      rw [xeq, e1]
      simp only [Int32.reduceToInt] at h ⊢
      omega
    · rw [if_neg h]
      rw [xle, e1] at h
      rw [xeq, e2]
      simp only [Int32.reduceToInt] at h ⊢
      omega
  refine w_X7_mayHaveDoor p q ⟨fun c => ok0 (k0 (fun h => h.1 c)), fun c => ⟨fun d => ok0 (k0 (fun h => ?_)), fun d => ok1 (k1 ⟨c, fun h => d (e3.mpr (Or.inl h)), fun h => d (e3.mpr (Or.inr h))⟩)⟩⟩
  rcases e3.mp d with h2 | h2
  · exact h.2.1 h2
  · exact h.2.2 h2
theorem sp_X8_in {Q : Int32 → tS → Prop} {S : tS} {p lo hi : Int64} (k0 : ¬ (lo.toInt ≤ p.toInt ∧ p.toInt ≤ hi.toInt) → Q 0 S) (k1 : lo.toInt ≤ p.toInt ∧ p.toInt ≤ hi.toInt → Q 1 S) : tk_Ms mX8_in [.long p, .long lo, .long hi] S Q := by
  refine w_X8_in p lo hi ⟨fun c => ok0 (k0 ?_), fun c => ⟨fun d => ok0 (k0 ?_), fun d => ok1 (k1 ?_)⟩⟩
  · rw [cmpL] at c; omega
  · rw [cmpG] at d; omega
  · rw [cmpL] at c; rw [cmpG] at d; omega
theorem sp_X8_isPlace {Q : Int32 → tS → Prop} {S : tS} {p : Int32} (k0 : ¬ (0 ≤ p.toInt ∧ p.toInt ≤ 10) → Q 0 S) (k1 : 0 ≤ p.toInt ∧ p.toInt ≤ 10 → Q 1 S) : tk_Ms mX8_isPlace [.int p] S Q :=
  w_X8_isPlace p (sp_X8_in (fun h => ok0 (k0 (by simp only [xlt, xle, xeq, Int32.reduceToInt, tneg1, l64, Int64.reduceToInt] at *; omega))) (fun h => ok1 (k1 (by simp only [xlt, xle, xeq, Int32.reduceToInt, tneg1, l64, Int64.reduceToInt] at *; omega))))
theorem sp_X8_isSister {Q : Int32 → tS → Prop} {S : tS} {p : Int32} (k0 : ¬ (0 ≤ p.toInt ∧ p.toInt ≤ 3) → Q 0 S) (k1 : 0 ≤ p.toInt ∧ p.toInt ≤ 3 → Q 1 S) : tk_Ms mX8_isSister [.int p] S Q :=
  w_X8_isSister p (sp_X8_in (fun h => ok0 (k0 (by simp only [xlt, xle, xeq, Int32.reduceToInt, tneg1, l64, Int64.reduceToInt] at *; omega))) (fun h => ok1 (k1 (by simp only [xlt, xle, xeq, Int32.reduceToInt, tneg1, l64, Int64.reduceToInt] at *; omega))))
theorem sp_X8_isKey {Q : Int32 → tS → Prop} {S : tS} {p : Int32} (hk : 0 ≤ (S 45 9).toInt) (k0 : ¬ (0 ≤ p.toInt ∧ p.toInt < (S 45 9).toInt) → Q 0 S) (k1 : 0 ≤ p.toInt ∧ p.toInt < (S 45 9).toInt → Q 1 S) : tk_Ms mX8_isKey [.ref 45, .int p] S Q := by
  have a := (S 45 9).toInt_lt
  have e : (S 45 9 - 1).toInt = (S 45 9).toInt - 1 := by rw [subT] <;> simp only [Int32.reduceToInt] <;> omega
  exact w_X8_isKey p (sp_X8_in (fun h => ok0 (k0 (by simp only [l64, Int64.reduceToInt, e] at h; omega))) (fun h => ok1 (k1 (by simp only [l64, Int64.reduceToInt, e] at h; omega))))
theorem sp_X8_canJoin {Q : Int32 → tS → Prop} {S : tS} {p q : Int32} (k0 : ¬ (p ≠ q ∧ ¬ (p.toInt = 0 ∧ q.toInt = 10) ∧ ¬ (p.toInt = 10 ∧ q.toInt = 0)) → Q 0 S) (k1 : p ≠ q ∧ ¬ (p.toInt = 0 ∧ q.toInt = 10) ∧ ¬ (p.toInt = 10 ∧ q.toInt = 0) → Q 1 S) : tk_Ms mX8_canJoin [.int p, .int q] S Q := by
  have m0 : ∀ x : Int32, x = 0 ↔ x.toInt = 0 := fun x => by rw [xeq]; simp only [Int32.reduceToInt]
  have m10 : ∀ x : Int32, x = 10 ↔ x.toInt = 10 := fun x => by rw [xeq]; simp only [Int32.reduceToInt]
  have mp : p = q ↔ p.toInt = q.toInt := xeq
  refine w_X8_canJoin p q ?_
  simp only [m0, m10, mp, ne_eq] at k0 k1 ⊢
  simp only [Int32.reduceToInt, true_implies, not_true_eq_false, false_implies, true_and, and_true]
  refine ⟨fun c1 => ⟨fun c2 => ⟨fun c3 => ok0 (k0 (by omega)), fun c3 => ok1 (k1 (by omega))⟩, fun c2 => ⟨fun c3 => ⟨fun c4 => ok0 (k0 (by omega)), fun c4 => ok1 (k1 (by omega))⟩, fun c3 => ⟨fun c4 => ok0 (k0 (by omega)), fun c4 => ?_⟩⟩⟩, fun c1 => ⟨fun c2 => ⟨fun c4 => ok0 (k0 (by omega)), fun c4 => ?_⟩, fun c2 => ⟨fun c3 => ⟨fun c4 => ok0 (k0 (by omega)), fun c4 => ok1 (k1 (by omega))⟩, fun c3 => ⟨fun c5 => ⟨fun c4 => ok0 (k0 (by omega)), fun c4 => ok1 (k1 (by omega))⟩, fun c5 => ⟨fun c4 => ok0 (k0 (by omega)), fun c4 => ?_⟩⟩⟩⟩⟩
  all_goals exact ⟨fun _ => ok0 (k0 (by omega)), fun e => absurd e (by decide)⟩
theorem sp_X8_isSheet {Q : Int32 → tS → Prop} {S : tS} {p q : Int32} (k0 : ¬ ((0 ≤ p.toInt ∧ p.toInt ≤ 3) ∧ 0 ≤ q.toInt ∧ q.toInt ≤ 2) → Q 0 S) (k1 : (0 ≤ p.toInt ∧ p.toInt ≤ 3) ∧ 0 ≤ q.toInt ∧ q.toInt ≤ 2 → Q 1 S) : tk_Ms mX8_isSheet [.int p, .int q] S Q :=
  w_X8_isSheet p q (sp_X8_in (fun h => zf (ok0 (k0 (by simp only [xlt, xle, xeq, Int32.reduceToInt, tneg1, l64, Int64.reduceToInt] at *; omega)))) (fun h => zt (sp_X8_in (fun h2 => zf (ok0 (k0 (by simp only [xlt, xle, xeq, Int32.reduceToInt, tneg1, l64, Int64.reduceToInt] at *; omega)))) (fun h2 => zt (ok1 (k1 (by simp only [xlt, xle, xeq, Int32.reduceToInt, tneg1, l64, Int64.reduceToInt] at *; omega)))))))
theorem sp_X2_isAt {Q : Int32 → tS → Prop} {S : tS} {p q : Int32} (hp : vp_in p 17) (k0 : ¬ (S 2 p.toNatClampNeg = q ∨ S 3 p.toNatClampNeg = q) → Q 0 S) (k1 : S 2 p.toNatClampNeg = q ∨ S 3 p.toNatClampNeg = q → Q 1 S) : tk_Ms mX2_isAt [.ref 1, .int p, .int q] S Q :=
  w_X2_isAt p q ⟨hp, fun c => ok1 (k1 (Or.inl c)), fun c => ⟨hp, fun d => ok0 (k0 (fun h => h.elim c d)), fun d => ok1 (k1 (Or.inr d))⟩⟩
/-- a door that lets pass with a set of keys -/
def bpass (set lock : Int32) : Prop := lock = 8 ∨ ¬ (set >>> (lock &&& 31)) &&& 1 = 0
theorem sp_X2_canPass {Q : Int32 → tS → Prop} {S : tS} {p q : Int32} (hp : vp_in p 17) (k0 : ¬ (((0 ≤ p.toInt ∧ p.toInt < (S 1 0).toInt) ∨ p.toInt = 16) ∧ bpass q (S 4 p.toNatClampNeg)) → Q 0 S) (k1 : ((0 ≤ p.toInt ∧ p.toInt < (S 1 0).toInt) ∨ p.toInt = 16) ∧ bpass q (S 4 p.toNatClampNeg) → Q 1 S) : tk_Ms mX2_canPass [.ref 1, .int p, .int q] S Q := by
  have m16 : p = 16 ↔ p.toInt = 16 := by rw [xeq]; simp only [Int32.reduceToInt]
  have m0 : p < 0 ↔ p.toInt < 0 := by rw [xlt]; simp only [Int32.reduceToInt]
  have ml : p < S 1 0 ↔ p.toInt < (S 1 0).toInt := xlt
  have tail : ((0 ≤ p.toInt ∧ p.toInt < (S 1 0).toInt) ∨ p.toInt = 16) → (vp_in p 17 ∧ ((S 4 p.toNatClampNeg = 8 → tk_okQ mX2_canPass Q 1 S) ∧ (¬ S 4 p.toNatClampNeg = 8 → (vp_in p 17 ∧ (((q >>> ((S 4 p.toNatClampNeg) &&& 31)) &&& 1 = 0 → tk_okQ mX2_canPass Q 0 S) ∧ (¬ (q >>> ((S 4 p.toNatClampNeg) &&& 31)) &&& 1 = 0 → tk_okQ mX2_canPass Q 1 S)))))) := by
    intro h
    refine ⟨hp, fun c => ok1 (k1 ⟨h, Or.inl c⟩), fun c => ⟨hp, fun d => ok0 (k0 (fun e => ?_)), fun d => ok1 (k1 ⟨h, Or.inr d⟩)⟩⟩
    rcases e.2 with e | e
    · exact c e
    · exact e d
  refine w_X2_canPass p q ⟨fun c => ⟨fun d => zf (ok0 (k0 (fun e => ?_))), fun d => zt (tail (Or.inr (m16.mp d)))⟩, fun c => ⟨fun d => zt (tail (Or.inl ?_)), fun d => ⟨fun g => zf (ok0 (k0 (fun e => ?_))), fun g => zt (tail (Or.inr (m16.mp g)))⟩⟩⟩
  · rw [m0] at c; rw [m16] at d; omega
  · rw [m0] at c; rw [ml] at d; omega
  · rw [m16] at g; rw [ml] at d; omega
/-- what a kind shows of a stain, days behind it -/
def shw (kind stain days : Int) : Int := if kind = 1 ∨ kind = 3 then (if 0 < days - 2 then (if days - 2 < stain then days - 2 else stain) else (if 0 < stain then 0 else stain)) else if kind = 2 then (if 2 * days < stain then 2 * days else stain) else (if days < stain then days else stain)
