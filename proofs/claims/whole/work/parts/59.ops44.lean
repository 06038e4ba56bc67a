/-! AN ACT'S PLACE -/
theorem ski_ge {f : Nat → Int32} : ∀ m a : Nat, a ≤ ski f m a
  | 0, _ => Nat.le_refl _
  | m + 1, a => by
    show a ≤ if f a = 32 then ski f m (a + 1) else a
    by_cases h : f a = 32
    · rw [if_pos h]
      have := ski_ge (f := f) m (a + 1)
      omega
    · rw [if_neg h]
      exact Nat.le_refl _
theorem sk_ge {f : Nat → Int32} {n a : Nat} : a ≤ sk f n a := ski_ge _ _
theorem pNum_le {f : Nat → Int32} {n a : Nat} (ha : a ≤ n) : a ≤ (pNum f n a).1 ∧ (pNum f n a).1 ≤ n := by
  have h1 := sk_ge (f := f) (n := n) (a := a)
  have h2 := sk_n (f := f) ha
  have h3 := nu_le (f := f) (n - sk f n a) (sk f n a) 0
  unfold pNum
  by_cases h : 48 ≤ (chr f n a).toInt ∧ (chr f n a).toInt ≤ 57
  · rw [if_pos h]
    by_cases g : (nu f (n - sk f n a) (sk f n a) 0).2 ≤ 30
    · rw [if_pos g]
      show a ≤ (nu f (n - sk f n a) (sk f n a) 0).1 ∧ (nu f (n - sk f n a) (sk f n a) 0).1 ≤ n
      omega
    · rw [if_neg g]
      exact ⟨h1, h2⟩
  · rw [if_neg h]
    exact ⟨h1, h2⟩
theorem pV_le {f : Nat → Int32} {n a : Nat} (hok : ∀ i, i < n → okB (f i)) (ha : a ≤ n) : a ≤ (pV f n a).2.1 ∧ (pV f n a).2.1 ≤ n := by
  have s0 := sk_ge (f := f) (n := n) (a := a)
  unfold pV
  by_cases c1 : ¬ (48 ≤ (chr f n a).toInt ∧ (chr f n a).toInt < 48 + 4)
  · rw [if_pos c1]; exact ⟨s0, sk_n ha⟩
  rw [if_neg c1]
  have l1 := (dg_nm hok (Classical.not_not.mp c1).1).2
  have s1 := sk_ge (f := f) (n := n) (a := sk f n a + 1)
  by_cases c2 : ¬ chr f n (sk f n a + 1) = 62
  · rw [if_pos c2]
    exact ⟨by show a ≤ sk f n (sk f n a + 1); omega, sk_n l1⟩
  rw [if_neg c2]
  have l2 := sk_lt (a := sk f n a + 1) hok (by rw [Classical.not_not.mp c2]; decide)
  have s2 := sk_ge (f := f) (n := n) (a := sk f n (sk f n a + 1) + 1)
  by_cases c3 : ¬ (48 ≤ (chr f n (sk f n (sk f n a + 1) + 1)).toInt ∧ (chr f n (sk f n (sk f n a + 1) + 1)).toInt < 48 + 10)
  · rw [if_pos c3]
    exact ⟨by show a ≤ sk f n (sk f n (sk f n a + 1) + 1); omega, sk_n l2⟩
  rw [if_neg c3]
  have l3 := (dg_nm hok (Classical.not_not.mp c3).1).2
  have s3 := sk_ge (f := f) (n := n) (a := sk f n (sk f n (sk f n a + 1) + 1) + 1)
  by_cases c4 : ¬ chr f n (sk f n (sk f n (sk f n a + 1) + 1) + 1) = 58
  · rw [if_pos c4]
    exact ⟨by show a ≤ sk f n (sk f n (sk f n (sk f n a + 1) + 1) + 1); omega, sk_n l3⟩
  rw [if_neg c4]
  have l4 := sk_lt (a := sk f n (sk f n (sk f n a + 1) + 1) + 1) hok (by rw [Classical.not_not.mp c4]; decide)
  obtain ⟨p1, p2⟩ := pNum_le (f := f) (n := n) (a := sk f n (sk f n (sk f n (sk f n a + 1) + 1) + 1) + 1) l4
  by_cases c5 : (pNum f n (sk f n (sk f n (sk f n (sk f n a + 1) + 1) + 1) + 1)).2 = -1
  · rw [if_pos c5]
    exact ⟨by show a ≤ (pNum f n (sk f n (sk f n (sk f n (sk f n a + 1) + 1) + 1) + 1)).1; omega, p2⟩
  · rw [if_neg c5]
    exact ⟨by show a ≤ (pNum f n (sk f n (sk f n (sk f n (sk f n a + 1) + 1) + 1) + 1)).1; omega, p2⟩
theorem pA_le {f : Nat → Int32} {n m a : Nat} (hok : ∀ i, i < n → okB (f i)) (ha : a ≤ n) : (pA f n m a).2.1 ≤ n ∧ ((pA f n m a).1 = true → a < (pA f n m a).2.1) := by
  have s0 := sk_ge (f := f) (n := n) (a := a)
  have s1 := sk_ge (f := f) (n := n) (a := a1 f n a)
  have s2 := sk_ge (f := f) (n := n) (a := a1 f n (a1 f n a))
  have s3 := sk_ge (f := f) (n := n) (a := a1 f n (a1 f n (a1 f n a)))
  have d1 : a1 f n a = sk f n a + 1 := rfl
  have d2 : a1 f n (a1 f n a) = sk f n (a1 f n a) + 1 := rfl
  have d3 : a1 f n (a1 f n (a1 f n a)) = sk f n (a1 f n (a1 f n a)) + 1 := rfl
  have nf : ∀ {b : Nat}, b ≤ n → ((false, b, (0 : Int32), (0 : Int32), (0 : Int32)) : Bool × Nat × Int32 × Int32 × Int32).2.1 ≤ n ∧ (((false, b, (0 : Int32), (0 : Int32), (0 : Int32)) : Bool × Nat × Int32 × Int32 × Int32).1 = true → a < ((false, b, (0 : Int32), (0 : Int32), (0 : Int32)) : Bool × Nat × Int32 × Int32 × Int32).2.1) := fun h => ⟨h, fun z => absurd z Bool.false_ne_true⟩
  unfold pA
  by_cases c0 : chr f n a = 118
  · rw [if_pos c0]
    have l0 := sk_lt (a := a) hok (by rw [c0]; decide)
    obtain ⟨p1, p2⟩ := pV_le (f := f) (n := n) (a := a1 f n a) hok l0
    exact ⟨p2, fun _ => by omega⟩
  rw [if_neg c0]
  by_cases c1 : chr f n a = 119
  · rw [if_pos c1]
    have l0 : a1 f n a ≤ n := sk_lt (a := a) hok (by rw [c1]; decide)
    by_cases q1 : ¬ (48 ≤ (chr f n (a1 f n a)).toInt ∧ (chr f n (a1 f n a)).toInt < 48 + 4)
    · rw [if_pos q1]; exact nf (sk_n l0)
    rw [if_neg q1]
    have l1 := (dg_nm hok (Classical.not_not.mp q1).1).2
    by_cases q2 : ¬ (48 ≤ (chr f n (a1 f n (a1 f n a))).toInt ∧ (chr f n (a1 f n (a1 f n a))).toInt < 48 + (m : Int))
    · rw [if_pos q2]; exact nf (sk_n (by omega))
    rw [if_neg q2]
    have l2 := (dg_nm hok (Classical.not_not.mp q2).1).2
    exact ⟨l2, fun _ => by show a < sk f n (a1 f n (a1 f n a)) + 1; omega⟩
  rw [if_neg c1]
  by_cases c2 : chr f n a = 99
  · rw [if_pos c2]
    have l0 : a1 f n a ≤ n := sk_lt (a := a) hok (by rw [c2]; decide)
    by_cases q1 : ¬ (48 ≤ (chr f n (a1 f n a)).toInt ∧ (chr f n (a1 f n a)).toInt < 48 + (m : Int))
    · rw [if_pos q1]; exact nf (sk_n l0)
    rw [if_neg q1]
    have l1 := (dg_nm hok (Classical.not_not.mp q1).1).2
    by_cases q2 : ¬ chr f n (a1 f n (a1 f n a)) = 62
    · rw [if_pos q2]; exact nf (sk_n (by omega))
    rw [if_neg q2]
    have l2 := sk_lt (a := a1 f n (a1 f n a)) hok (by rw [Classical.not_not.mp q2]; decide)
    by_cases q3 : ¬ (48 ≤ (chr f n (a1 f n (a1 f n (a1 f n a)))).toInt ∧ (chr f n (a1 f n (a1 f n (a1 f n a)))).toInt < 48 + 5)
    · rw [if_pos q3]; exact nf (sk_n (by omega))
    rw [if_neg q3]
    have l3 := (dg_nm hok (Classical.not_not.mp q3).1).2
    exact ⟨l3, fun _ => by show a < sk f n (a1 f n (a1 f n (a1 f n a))) + 1; omega⟩
  rw [if_neg c2]
  by_cases c3 : chr f n a = 110
  · rw [if_pos c3]
    have l0 : a1 f n a ≤ n := sk_lt (a := a) hok (by rw [c3]; decide)
    exact ⟨l0, fun _ => by show a < a1 f n a; omega⟩
  · rw [if_neg c3]; exact nf (sk_n ha)
