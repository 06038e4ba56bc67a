/-! A DOOR ON THE TAPE -/
def mjB (p q : Int32) : Bool := decide (p ≠ q ∧ ¬ (p.toInt = 0 ∧ q.toInt = 10) ∧ ¬ (p.toInt = 10 ∧ q.toInt = 0))
def dx (f : Nat → Int32) (n a : Nat) : Int32 := pPl (chr f n a)
def d2 (f : Nat → Int32) (n a : Nat) : Nat := sk f n (sk f n a + 1) + 1
def dy (f : Nat → Int32) (n a : Nat) : Int32 := pPl (chr f n (d2 f n a))
def d3 (f : Nat → Int32) (n a : Nat) : Nat := sk f n (d2 f n a)
def d4 (f : Nat → Int32) (n a : Nat) : Nat := sk f n (d3 f n a + 1) + 1
def pDoor (f : Nat → Int32) (n a : Nat) : Bool × Nat × Int32 :=
  if dx f n a = -1 then (false, sk f n a, 0)
  else if ¬ chr f n (sk f n a + 1) = 45 then (false, sk f n (sk f n a + 1), 0)
  else if dy f n a = -1 then (false, d3 f n a, 0)
  else if mjB (dx f n a) (dy f n a) = false then (false, d3 f n a, 0)
  else if chr f n (d3 f n a + 1) = 108 then
    (if 48 ≤ (chr f n (d4 f n a)).toInt ∧ (chr f n (d4 f n a)).toInt < 48 + 8 then (true, sk f n (d4 f n a) + 1, chr f n (d4 f n a) - 48) else (false, sk f n (d4 f n a), 0))
  else (true, sk f n (d3 f n a + 1), 8)
theorem pPl_r {c : Int32} (h : c = -1 ∨ okB c) : pPl c = -1 ∨ (0 ≤ (pPl c).toInt ∧ (pPl c).toInt ≤ 10) := by
  have s := sub48 h
  unfold pPl
  by_cases h1 : c = 103
  · rw [if_pos h1]; exact Or.inr (by decide)
  · rw [if_neg h1]
    by_cases h2 : 48 ≤ c.toInt ∧ c.toInt ≤ 57
    · rw [if_pos h2, s]; exact Or.inr (by omega)
    · rw [if_neg h2]; exact Or.inl rfl
theorem pPl_n {c : Int32} (h : pPl c ≠ -1) : c ≠ -1 := fun e => h (by rw [e]; decide)
theorem tC1 {S : tS} {b : Nat} : tk_up (tC S b) 21 1 ((tC S b) 21 1 + 1) = tC S (b + 1) := by
  show tk_up (tC S b) 21 1 (nI b + 1) = _
  rw [nI_1]
  exact tC_tC
def dAdd (T : tS) (k : Nat) (x y l : Int32) : tS := tk_up (tk_up (tk_up (tk_up T 24 k x) 25 k y) 26 k l) 23 0 (nI (k + 1))
theorem sp_X2_add23 {Q : Int32 → tS → Prop} {S : tS} {k : Nat} {x y l : Int32} (hk : k < 16) (h : S 23 0 = nI k) (q : Q (nI k) (dAdd S k x y l)) : tk_Ms mX2_add [.ref 23, .int x, .int y, .int l] S Q := by
  have v : vp_in (S 23 0) 17 := by rw [h]; exact vp_in_nI (by omega) (by omega)
  refine w_X2_add_23 _ _ _ ⟨fun _ => ⟨v, v, v, okI (by decide) ?_⟩, fun c => absurd (by rw [h, xlt, nI_t (by omega)]; simp only [Int32.reduceToInt]; omega) c⟩
  rw [h, add_sub1, nI_c (by omega), nI_1]
  exact q
theorem sp_X7_readDoor {Q : Int32 → tS → Prop} {f : Nat → Int32} {n a k : Nat} {S : tS} (ha : a ≤ n) (hT : TpC f n S) (hat : S 21 1 = nI a) (hk : k < 16) (h23 : S 23 0 = nI k) (kF : (pDoor f n a).1 = false → Q 0 (tC S (pDoor f n a).2.1)) (kT : (pDoor f n a).1 = true → Q 1 (dAdd (tC S (pDoor f n a).2.1) k (dx f n a) (dy f n a) (pDoor f n a).2.2)) : tk_Ms mX7_readDoor [.ref 0] S Q := by
  have hok := hT.ok
  have fin : ∀ b l, (0 ≤ l.toInt) → pDoor f n a = (true, b, l) → tk_Ms mX2_add [.ref 23, .int (dx f n a), .int (dy f n a), .int l] (tC S b) (fun x23 S24 => (x23 < 0 → tk_okQ mX7_readDoor Q 0 S24) ∧ (¬ x23 < 0 → tk_okQ mX7_readDoor Q 1 S24)) := by
    intro b l _ e
    rw [e] at kT
    exact sp_X2_add23 hk h23 ⟨fun z => absurd z (nI_nlt (a := k) (b := 0) (by omega) (by omega)), fun _ => ok1 (kT rfl)⟩
  refine w_X7_readDoor (sp_X5_placeAhead ha hT hat ⟨fun c1 => ?_, fun c1 => ok0 ?_⟩)
  · have c1 : dx f n a ≠ -1 := c1
    have l1 := sk_lt hok (pPl_n c1)
    rw [tC1]
    refine sp_X5_take (S := tC S (sk f n a + 1)) (f := f) (n := n) (a := sk f n a + 1) (by omega) hT rfl (fun c2 => zf' (ok0 ?_)) (fun c2 => zt' ?_)
    · rw [tC_tC]
      have e : pDoor f n a = (false, sk f n (sk f n a + 1), 0) := by unfold pDoor; rw [if_neg c1, if_pos c2]
      rw [e] at kF
      exact kF rfl
    · rw [tC_tC]
      have l2 := sk_lt (a := sk f n a + 1) hok (by rw [c2]; decide)
      show tk_Ms mX5_placeAhead [.ref 21] (tC S (d2 f n a)) _
      refine sp_X5_placeAhead (f := f) (n := n) (a := d2 f n a) l2 hT rfl ⟨fun c3 => ok0 ?_, fun c3 => ?_⟩
      · rw [tC_tC]
        have e : pDoor f n a = (false, d3 f n a, 0) := by unfold pDoor; rw [if_neg c1, if_neg (fun z => z c2), if_pos (show dy f n a = -1 from c3)]
        rw [e] at kF
        exact kF rfl
      · have c3 : dy f n a ≠ -1 := c3
        have l3 : d3 f n a < n := sk_lt hok (pPl_n c3)
        rw [tC_tC]
        show tk_Ms mX7_mayHaveDoor [.int (dx f n a), .int (dy f n a)] (tC S (d3 f n a)) _
        refine sp_X7_mayHaveDoor ((pPl_r (chr_or hok)).resolve_left c1) ((pPl_r (chr_or hok)).resolve_left c3) (fun c4 => zf' (ok0 ?_)) (fun c4 => zt' ?_)
        · have e : pDoor f n a = (false, d3 f n a, 0) := by unfold pDoor; rw [if_neg c1, if_neg (fun z => z c2), if_neg c3, if_pos (show mjB (dx f n a) (dy f n a) = false from decide_eq_false c4)]
          rw [e] at kF
          exact kF rfl
        · have m : ¬ mjB (dx f n a) (dy f n a) = false := by
            intro z
            have : mjB (dx f n a) (dy f n a) = true := decide_eq_true c4
            rw [this] at z
            exact absurd z (by decide)
          rw [tC1]
          refine sp_X5_take (S := tC S (d3 f n a + 1)) (f := f) (n := n) (a := d3 f n a + 1) (by omega) hT rfl (fun c5 => zf ⟨fun z => absurd z (by decide), fun _ => ?_⟩) (fun c5 => zt ?_)
          · rw [tC_tC]
            exact fin _ 8 (by decide) (by unfold pDoor; rw [if_neg c1, if_neg (fun z => z c2), if_neg c3, if_neg m, if_neg c5])
          · rw [tC_tC]
            have l5 := sk_lt (a := d3 f n a + 1) hok (by rw [c5]; decide)
            show tk_Ms mX5_digit [.ref 21, .int 8] (tC S (d4 f n a)) _
            refine sp_X5_digit (f := f) (n := n) (a := d4 f n a) (b := 8) (by decide) l5 hT rfl (fun c6 => ⟨fun _ => ok0 ?_, fun z => absurd rfl z⟩) (fun c6 => ⟨fun z => ?_, fun _ => ?_⟩)
            · rw [tC_tC]
              have e : pDoor f n a = (false, sk f n (d4 f n a), 0) := by unfold pDoor; rw [if_neg c1, if_neg (fun z => z c2), if_neg c3, if_neg m, if_pos c5, if_neg (show ¬ (48 ≤ (chr f n (d4 f n a)).toInt ∧ (chr f n (d4 f n a)).toInt < 48 + 8) from c6)]
              rw [e] at kF
              exact kF rfl
            · have s := sub48 (chr_or (a := d4 f n a) hok)
              have := c6.1
              rw [z] at s
              have t : (-1 : Int32).toInt = -1 := by decide
              omega
            · rw [tC_tC]
              have s := sub48 (chr_or (a := d4 f n a) hok)
              have := c6.1
              exact fin _ _ (by omega) (by unfold pDoor; rw [if_neg c1, if_neg (fun z => z c2), if_neg c3, if_neg m, if_pos c5, if_pos (show 48 ≤ (chr f n (d4 f n a)).toInt ∧ (chr f n (d4 f n a)).toInt < 48 + 8 from c6)])
  · have e : pDoor f n a = (false, sk f n a, 0) := by unfold pDoor; rw [if_pos (show dx f n a = -1 from c1)]
    rw [e] at kF
    exact kF rfl
