/-! WHAT HOLDS BETWEEN TWO CALLS: the object and the reference hold the same house, keys, day, tape, image, sheets -/
def iD (cn mn : Int32) (a b c a' b' c' : Nat → Int32) : Prop := ∃ n : Nat, n ≤ 16 ∧ cn = nI n ∧ mn = nI n ∧ ∀ i, i < n → a' i = a i ∧ b' i = b i ∧ c' i = c i ∧ 0 ≤ (a i).toInt ∧ (a i).toInt ≤ 10 ∧ 0 ≤ (b i).toInt ∧ (b i).toInt ≤ 10 ∧ a i ≠ b i ∧ 0 ≤ (c i).toInt ∧ (c i).toInt ≤ 8
def iE (a b c a' b' c' : Nat → Int32) : Prop := a 16 = 0 ∧ b 16 = 10 ∧ c 16 = 8 ∧ a' 16 = 0 ∧ b' 16 = 10 ∧ c' 16 = 8
def iK (cn mn td : Int32) (k t w m g k' t' w' m' g' : Nat → Int32) : Prop := ∃ n : Nat, n ≤ 8 ∧ cn = nI n ∧ mn = nI n ∧ ∀ i, i < n → k' i = k i ∧ t' i = t i ∧ w' i = w i ∧ m' i = m i ∧ (m i ≠ 0 → g' i = g i) ∧ (m i = 0 → g i = 0) ∧ 0 ≤ (k i).toInt ∧ (k i).toInt ≤ 3 ∧ (t i = 0 ∨ t i = 1) ∧ 0 ≤ (w i).toInt ∧ (w i).toInt ≤ 4 ∧ 0 ≤ (m i).toInt ∧ (m i).toInt ≤ 30 ∧ 0 ≤ (g i).toInt ∧ (g i).toInt ≤ td.toInt
def iT (td td' : Int32) : Prop := td' = td ∧ 0 ≤ td.toInt ∧ td.toInt ≤ 999
def iB (cn mn : Int32) (s s' : Nat → Int32) : Prop := ∃ n : Nat, n ≤ 160 ∧ cn = nI n ∧ mn = nI n ∧ ∀ i, i < n → s' i = s i ∧ 32 ≤ (s i).toInt ∧ (s i).toInt ≤ 126
def iQ (lane size : Int32) (it : Nat → Int32) (q : Nat) (lanes sizes items : Nat → Int32) : Prop := ((size = -1 ∧ lanes q = -1) ∨ (0 ≤ size.toInt ∧ size.toInt ≤ 24 ∧ sizes q = size ∧ lanes q = lane ∧ 0 ≤ lane.toInt ∧ lane.toInt ≤ 2)) ∧ ∀ j, j < 24 → items (24 * q + j) = it j
def iM (f f' cn ck td : Int32) (a b c k t w m g K : Nat → Int32) : Prop := f' = f ∧ (f = 0 ∨ (f = 1 ∧ iD cn (K 88) a b c K (fun i => K (16 + i)) (fun i => K (32 + i)) ∧ iK ck (K 89) td k t w m g (fun i => K (48 + i)) (fun i => K (56 + i)) (fun i => K (64 + i)) (fun i => K (72 + i)) (fun i => K (80 + i)) ∧ iT td (K 90)))
def Inv (S : tS) : Prop := iD (S 1 0) (S 45 3) (S 2) (S 3) (S 4) (S 46) (S 47) (S 48) ∧ iE (S 2) (S 3) (S 4) (S 46) (S 47) (S 48) ∧ iK (S 5 0) (S 45 9) (S 0 2) (S 6) (S 7) (S 8) (S 9) (S 10) (S 49) (S 50) (S 51) (S 52) (S 53) ∧ iT (S 0 2) (S 45 10) ∧ iB (S 21 0) (S 45 12) (S 22) (S 54) ∧ iM (S 0 6) (S 45 17) (S 11 0) (S 15 0) (S 0 5) (S 12) (S 13) (S 14) (S 16) (S 17) (S 18) (S 19) (S 20) (S 57) ∧ iQ (S 37 0) (S 37 1) (S 38) 0 (S 58) (S 59) (S 60) ∧ iQ (S 39 0) (S 39 1) (S 40) 1 (S 58) (S 59) (S 60) ∧ iQ (S 41 0) (S 41 1) (S 42) 2 (S 58) (S 59) (S 60) ∧ iQ (S 43 0) (S 43 1) (S 44) 3 (S 58) (S 59) (S 60)
theorem pr_next {S : tS} (hI : Inv S) : tk_Ms mX7_next [.ref 0] S (fun x S1 => tk_Ms mX8_next [.ref 45] S1 (fun y S2 => x = y ∧ Inv S2)) := by
  obtain ⟨h1, h2, h3, ⟨e, ht1, ht2⟩, h5⟩ := hI
  refine w_X7_next ⟨fun c => okI (by decide) ?_, fun c => okI (by decide) ?_⟩
  · have c' : (S 0 2).toInt < 999 := (by simp only [xlt, xle, xeq, Int32.reduceToInt, tneg1, l64, Int64.reduceToInt] at *; omega)
    have a1 : (S 0 2 + 1).toInt = (S 0 2).toInt + 1 := addT1 (by omega)
    refine w_X8_next ⟨fun d => okI (by decide) ?_, fun d => ?_⟩
    · refine ⟨?_, h1, h2, ?_, ?_, h5⟩
      · show S 0 2 + 1 = S 45 10 + 1
        rw [e]
      · obtain ⟨n, g1, g2, g3, g4⟩ := h3
        refine ⟨n, g1, g2, g3, fun i hi => ?_⟩
        obtain ⟨j1, j2, j3, j4, j5, j6, j7, j8, j9, j10, j11, j12, j13, j14, j15⟩ := g4 i hi
        refine ⟨j1, j2, j3, j4, j5, j6, j7, j8, j9, j10, j11, j12, j13, j14, ?_⟩
        show (S 10 i).toInt ≤ (S 0 2 + 1).toInt
        omega
      · refine ⟨?_, ?_, ?_⟩
        · show S 45 10 + 1 = S 0 2 + 1
          rw [e]
        · show 0 ≤ (S 0 2 + 1).toInt
          omega
        · show (S 0 2 + 1).toInt ≤ 999
          omega
    · have d : S 45 10 = 999 := d
      rw [e, xeq] at d
      simp only [Int32.reduceToInt] at d
      omega
  · have c' : ¬ (S 0 2).toInt < 999 := (by simp only [xlt, xle, xeq, Int32.reduceToInt, tneg1, l64, Int64.reduceToInt] at *; omega)
    refine w_X8_next ⟨fun d => ?_, fun d => okI (by decide) ⟨rfl, h1, h2, h3, ⟨e, ht1, ht2⟩, h5⟩⟩
    rw [e, xeq] at d
    simp only [Int32.reduceToInt] at d
    omega
