/-! DOOR, KEY, TOLD, OF, CHANGE, WASH, SHOWN -/
def Pj (a b : Int32) : Prop := a ≠ b ∧ ¬ (a.toInt = 0 ∧ b.toInt = 10) ∧ ¬ (a.toInt = 10 ∧ b.toInt = 0)
def Pd (a b c : Int32) : Prop := (0 ≤ a.toInt ∧ a.toInt ≤ 10) ∧ (0 ≤ b.toInt ∧ b.toInt ≤ 10) ∧ Pj a b ∧ 0 ≤ c.toInt ∧ c.toInt ≤ 8
def stD (S : tS) (n : Nat) (p q r x : Int32) : tS := tk_up (tk_up (tk_up (tk_up S 2 n p) 3 n q) 4 n r) 1 0 x
theorem sp_X2_add {Q : Int32 → tS → Prop} {S : tS} {p q r : Int32} (hn : 0 ≤ (S 1 0).toInt) (kF : ¬ (S 1 0).toInt < 16 → Q (-3) S) (kA : (S 1 0).toInt < 16 → Q (S 1 0) (stD S (S 1 0).toNatClampNeg p q r (S 1 0 + 1))) : tk_Ms mX2_add [.ref 1, .int p, .int q, .int r] S Q := by
  refine w_X2_add p q r ⟨fun c => ?_, fun c => okI (by decide) (kF (by simp only [xlt, xle, xeq, Int32.reduceToInt, tneg1, l64, Int64.reduceToInt] at *; omega))⟩
  have c' : (S 1 0).toInt < 16 := (by simp only [xlt, xle, xeq, Int32.reduceToInt, tneg1, l64, Int64.reduceToInt] at *; omega)
  have v : vp_in (S 1 0) 17 := vin hn (by omega)
  exact ⟨v, v, v, okI (by decide) (by rw [add_sub1]; exact kA c')⟩
theorem sp_X2_add_23 {Q : Int32 → tS → Prop} {S : tS} {p q r : Int32} (hn : 0 ≤ (S 23 0).toInt) (kF : ¬ (S 23 0).toInt < 16 → Q (-3) S) (kA : (S 23 0).toInt < 16 → Q (S 23 0) (tk_up (tk_up (tk_up (tk_up S 24 (S 23 0).toNatClampNeg p) 25 (S 23 0).toNatClampNeg q) 26 (S 23 0).toNatClampNeg r) 23 0 (S 23 0 + 1))) : tk_Ms mX2_add [.ref 23, .int p, .int q, .int r] S Q := by
  refine w_X2_add_23 p q r ⟨fun c => ?_, fun c => okI (by decide) (kF (by simp only [xlt, xle, xeq, Int32.reduceToInt, tneg1, l64, Int64.reduceToInt] at *; omega))⟩
  have c' : (S 23 0).toInt < 16 := (by simp only [xlt, xle, xeq, Int32.reduceToInt, tneg1, l64, Int64.reduceToInt] at *; omega)
  have v : vp_in (S 23 0) 17 := vin hn (by omega)
  exact ⟨v, v, v, okI (by decide) (by rw [add_sub1]; exact kA c')⟩
theorem sp_X7_door {Q : Int32 → tS → Prop} {S : tS} {a b c : Int32} (hn : 0 ≤ (S 1 0).toInt) (k0 : ¬ Pd a b c → Q (-1) S) (kF : Pd a b c → ¬ (S 1 0).toInt < 16 → Q (-3) S) (kA : Pd a b c → (S 1 0).toInt < 16 → Q (S 1 0) (stD S (S 1 0).toNatClampNeg a b c (S 1 0 + 1))) : tk_Ms mX7_door [.ref 0, .int a, .int b, .int c] S Q := by
  refine w_X7_door a b c (sp_X7_isPlace (fun h => zf (okI (by decide) (k0 (fun g => h g.1)))) (fun ha => zt (sp_X7_isPlace (fun h => zf (okI (by decide) (k0 (fun g => h g.2.1)))) (fun hb => zt (sp_X7_mayHaveDoor ha hb (fun h => zf (okI (by decide) (k0 (fun g => h g.2.2.1)))) (fun hj => zt ⟨fun d => okI (by decide) (k0 (fun g => ?_)), fun d => ⟨fun e => ?_, fun e => okI (by decide) (k0 (fun g => ?_))⟩⟩)))))) 
  · have h := g.2.2.2.1
    have d' : c.toInt < 0 := by rw [xlt] at d; simpa only [Int32.reduceToInt] using d
    omega
  · have hP : Pd a b c := ⟨ha, hb, hj, by rw [xlt] at d; simp only [Int32.reduceToInt] at d; omega, by rw [xle] at e; simpa only [Int32.reduceToInt] using e⟩
    exact sp_X2_add hn (fun h => okI (by decide) (kF hP h)) (fun h => okI (by decide) (kA hP h))
  · have h := g.2.2.2.2
    rw [xle] at e
    simp only [Int32.reduceToInt] at e
    exact e h
theorem sp_X8_door {Q : Int32 → tS → Prop} {S : tS} {a b c : Int32} (hn : 0 ≤ (S 45 3).toInt) (hn2 : (S 45 3).toInt ≤ 16) (k0 : ¬ Pd a b c → Q (-1) S) (kF : Pd a b c → ¬ (S 45 3).toInt < 16 → Q (-3) S) (kA : Pd a b c → (S 45 3).toInt < 16 → Q (S 45 3) (tk_up (tk_up (tk_up (tk_up S 46 (S 45 3).toNatClampNeg a) 47 (S 45 3).toNatClampNeg b) 48 (S 45 3).toNatClampNeg c) 45 3 (S 45 3 + 1))) : tk_Ms mX8_door [.ref 45, .int a, .int b, .int c] S Q := by
  refine w_X8_door a b c (sp_X8_isPlace (fun h => zf (okI (by decide) (k0 (fun g => h g.1)))) (fun ha => zt (sp_X8_isPlace (fun h => zf (okI (by decide) (k0 (fun g => h g.2.1)))) (fun hb => zt (sp_X8_canJoin (fun h => zf (okI (by decide) (k0 (fun g => h g.2.2.1)))) (fun hj => zt (sp_X8_in (fun h => zf' (okI (by decide) (k0 (fun g => h ?_)))) (fun h => zt' ?_))))))))
  · have h1 := g.2.2.2
    simp only [l64, Int64.reduceToInt]
    exact h1
  · simp only [l64, Int64.reduceToInt] at h
    have hP : Pd a b c := ⟨ha, hb, hj, h⟩
    refine ⟨fun d => ?_, fun d => okI (by decide) (kF hP ?_)⟩
    · have d' : (S 45 3).toInt < 16 := by rw [xeq] at d; simp only [Int32.reduceToInt] at d; omega
      have v : vp_in (S 45 3) 17 := vin hn (by omega)
      exact ⟨v, v, v, okI (by decide) (by rw [add_sub1]; exact kA hP d')⟩
    · rw [xeq] at d
      simp only [Int32.reduceToInt] at d
      omega
theorem pr_door {S : tS} (hI : Inv S) (a b c : Int32) : tk_Ms mX7_door [.ref 0, .int a, .int b, .int c] S (fun x S1 => tk_Ms mX8_door [.ref 45, .int a, .int b, .int c] S1 (fun y S2 => x = y ∧ Inv S2)) := by
  have hI0 := hI
  obtain ⟨⟨n, hn, e1, e2, hD⟩, ⟨s1, s2, s3, s4, s5, s6⟩, hK, hT, hB, hM, h0, h1, h2, h3⟩ := hI
  have t1 : (S 1 0).toInt = n := by rw [e1]; exact nI_t (by omega)
  have t2 : (S 45 3).toInt = n := by rw [e2]; exact nI_t (by omega)
  have q0 : 0 ≤ (S 1 0).toInt := by omega
  have q1 : 0 ≤ (S 45 3).toInt := by omega
  have q2 : (S 45 3).toInt ≤ 16 := by omega
  refine sp_X7_door q0 (fun h => sp_X8_door q1 q2 (fun _ => ⟨rfl, hI0⟩) (fun g => absurd g h) (fun g => absurd g h)) (fun g h => sp_X8_door q1 q2 (fun g' => absurd g g') (fun _ _ => ⟨rfl, hI0⟩) (fun _ h' => by omega)) (fun g h => sp_X8_door q1 q2 (fun g' => absurd g g') (fun _ h' => absurd (show (S 45 3).toInt < 16 by omega) h') (fun _ h' => ⟨?_, ?_⟩))
  · show S 1 0 = S 45 3
    rw [e1, e2]
  · have c1 : (S 1 0).toNatClampNeg = n := by rw [e1]; exact nI_c (by omega)
    have c2 : (S 45 3).toNatClampNeg = n := by rw [e2]; exact nI_c (by omega)
    have hlt : n < 16 := by omega
    show Inv (tk_up (tk_up (tk_up (tk_up (stD S (S 1 0).toNatClampNeg a b c (S 1 0 + 1)) 46 (S 45 3).toNatClampNeg a) 47 (S 45 3).toNatClampNeg b) 48 (S 45 3).toNatClampNeg c) 45 3 (S 45 3 + 1))
    rw [c1, c2]
    refine ⟨⟨n + 1, by omega, ?_, ?_, fun i hi => ?_⟩, ?_, hK, hT, hB, hM, h0, h1, h2, h3⟩
    · show S 1 0 + 1 = _
      rw [e1, nI_1]
    · show S 45 3 + 1 = _
      rw [e2, nI_1]
    · show upd (S 46) n a i = upd (S 2) n a i ∧ upd (S 47) n b i = upd (S 3) n b i ∧ upd (S 48) n c i = upd (S 4) n c i ∧ 0 ≤ (upd (S 2) n a i).toInt ∧ (upd (S 2) n a i).toInt ≤ 10 ∧ 0 ≤ (upd (S 3) n b i).toInt ∧ (upd (S 3) n b i).toInt ≤ 10 ∧ upd (S 2) n a i ≠ upd (S 3) n b i ∧ 0 ≤ (upd (S 4) n c i).toInt ∧ (upd (S 4) n c i).toInt ≤ 8
      by_cases hi2 : i = n
      · subst hi2
        simp only [upd_s]
        exact ⟨trivial, trivial, trivial, g.1.1, g.1.2, g.2.1.1, g.2.1.2, g.2.2.1.1, g.2.2.2.1, g.2.2.2.2⟩
      · simp only [upd_n hi2]
        exact hD i (by omega)
    · show upd (S 2) n a 16 = 0 ∧ upd (S 3) n b 16 = 10 ∧ upd (S 4) n c 16 = 8 ∧ upd (S 46) n a 16 = 0 ∧ upd (S 47) n b 16 = 10 ∧ upd (S 48) n c 16 = 8
      simp only [upd_n (show (16 : Nat) ≠ n by omega)]
      exact ⟨s1, s2, s3, s4, s5, s6⟩
