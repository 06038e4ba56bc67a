/-! READING A VISIT: the object -/
def pV (f : Nat → Int32) (n a : Nat) : Bool × Nat × Int32 × Int32 × Int32 :=
  if ¬ (48 ≤ (chr f n a).toInt ∧ (chr f n a).toInt < 48 + 4) then (false, sk f n a, 0, 0, 0)
  else if ¬ chr f n (sk f n a + 1) = 62 then (false, sk f n (sk f n a + 1), 0, 0, 0)
  else if ¬ (48 ≤ (chr f n (sk f n (sk f n a + 1) + 1)).toInt ∧ (chr f n (sk f n (sk f n a + 1) + 1)).toInt < 48 + 10) then (false, sk f n (sk f n (sk f n a + 1) + 1), 0, 0, 0)
  else if ¬ chr f n (sk f n (sk f n (sk f n a + 1) + 1) + 1) = 58 then (false, sk f n (sk f n (sk f n (sk f n a + 1) + 1) + 1), 0, 0, 0)
  else if (pNum f n (sk f n (sk f n (sk f n (sk f n a + 1) + 1) + 1) + 1)).2 = -1 then (false, (pNum f n (sk f n (sk f n (sk f n (sk f n a + 1) + 1) + 1) + 1)).1, 0, 0, 0)
  else (true, (pNum f n (sk f n (sk f n (sk f n (sk f n a + 1) + 1) + 1) + 1)).1, chr f n a - 48, chr f n (sk f n (sk f n a + 1) + 1) - 48, (pNum f n (sk f n (sk f n (sk f n (sk f n a + 1) + 1) + 1) + 1)).2)
def frA (S T : tS) : Prop := (∀ c, c ≠ 21 → c ≠ 27 → T c = S c) ∧ T 21 0 = S 21 0
theorem frA.refl {S : tS} : frA S S := ⟨fun _ _ _ => rfl, rfl⟩
theorem frA.tc {S T : tS} (h : frA S T) {b : Nat} : frA S (tC T b) := by
  refine ⟨fun c h1 h2 => ?_, ?_⟩
  · unfold tC
    rw [tk_up_n h1]
    exact h.1 c h1 h2
  · unfold tC
    rw [tk_up_sn (by decide)]
    exact h.2
theorem frA.r27 {S T : tS} (h : frA S T) {j : Nat} {x : Int32} : frA S (tk_up T 27 j x) := by
  refine ⟨fun c h1 h2 => ?_, ?_⟩
  · rw [tk_up_n h2]
    exact h.1 c h1 h2
  · rw [tk_up_n (by decide)]
    exact h.2
theorem TpC.fra {f : Nat → Int32} {n : Nat} {S T : tS} (h : TpC f n S) (g : frA S T) : TpC f n T := by
  unfold TpC
  rw [g.2, g.1 22 (by decide) (by decide)]
  exact h
theorem tC_27 {T : tS} {b j : Nat} {x : Int32} : tk_up (tC T b) 27 j x = tC (tk_up T 27 j x) b := by
  funext c i
  unfold tC tk_up tk_upR upd
  by_cases h1 : c = 21
  · subst h1; simp
  · by_cases h2 : c = 27
    · subst h2; simp
    · simp [h1, h2]
theorem dg_nm {f : Nat → Int32} {n a : Nat} (hok : ∀ i, i < n → okB (f i)) (h : 48 ≤ (chr f n a).toInt) : chr f n a - 48 ≠ -1 ∧ sk f n a < n := by
  have s := sub48 (chr_or (a := a) hok)
  have t : (-1 : Int32).toInt = -1 := by decide
  refine ⟨fun z => ?_, sk_lt hok (fun z => by rw [z] at h; exact absurd h (by decide))⟩
  rw [z] at s
  omega
theorem sp_X7_readVisit {Q : Int32 → tS → Prop} {f : Nat → Int32} {n a : Nat} {S : tS} (ha : a ≤ n) (hT : TpC f n S) (hat : S 21 1 = nI a) (kF : ∀ T, frA S T → T 27 0 = S 27 0 → T 21 1 = nI (pV f n a).2.1 → (pV f n a).1 = false → Q 0 T) (kT : ∀ T, frA S T → T 27 0 = S 27 0 → T 21 1 = nI (pV f n a).2.1 → (pV f n a).1 = true → T 27 1 = (pV f n a).2.2.1 → T 27 3 = (pV f n a).2.2.2.1 → T 27 4 = (pV f n a).2.2.2.2 → Q 1 T) : tk_Ms mX7_readVisit [.ref 0] S Q := by
  have hok := hT.ok
  have fail : ∀ (T : tS) (b : Nat), frA S T → T 27 0 = S 27 0 → pV f n a = (false, b, 0, 0, 0) → Q 0 (tC T b) := by
    intro T b h1 h2 e
    refine kF _ h1.tc ?_ (by rw [e]; exact tC_at) (by rw [e])
    unfold tC
    rw [tk_up_n (by decide)]
    exact h2
  refine w_X7_readVisit (sp_X5_digit (b := 4) (by decide) ha hT hat (fun c1 => ⟨fun _ => ok0 ?_, fun z => absurd rfl z⟩) (fun c1 => ?_))
  · rw [tC_27]
    exact fail _ _ frA.refl.r27 (tk_up_sn (by decide)) (by unfold pV; rw [if_pos (show ¬ (48 ≤ (chr f n a).toInt ∧ (chr f n a).toInt < 48 + 4) from c1)])
  · have c1 : 48 ≤ (chr f n a).toInt ∧ (chr f n a).toInt < 48 + 4 := c1
    have m1 : ¬ ¬ (48 ≤ (chr f n a).toInt ∧ (chr f n a).toInt < 48 + 4) := fun z => z c1
    obtain ⟨nm1, l1⟩ := dg_nm hok c1.1
    refine ⟨fun z => absurd z nm1, fun _ => ?_⟩
    rw [tC_27]
    have fA : frA S (tk_up S 27 1 (chr f n a - 48)) := frA.refl.r27
    have gA : (tk_up S 27 1 (chr f n a - 48)) 27 0 = S 27 0 := tk_up_sn (by decide)
    have xA : (tk_up S 27 1 (chr f n a - 48)) 27 1 = chr f n a - 48 := tk_up_ss
    generalize tk_up S 27 1 (chr f n a - 48) = A at fA gA xA
    refine sp_X5_take (f := f) (n := n) (a := sk f n a + 1) l1 (hT.fra fA.tc) tC_at (fun c2 => zf' (ok0 ?_)) (fun c2 => zt' ?_)
    · rw [tC_tC]
      exact fail _ _ fA gA (by unfold pV; rw [if_neg m1, if_pos c2])
    · rw [tC_tC]
      have l2 := sk_lt (a := sk f n a + 1) hok (by rw [c2]; decide)
      refine sp_X5_digit (f := f) (n := n) (a := sk f n (sk f n a + 1) + 1) (b := 10) (by decide) l2 (hT.fra fA.tc) tC_at (fun c3 => ⟨fun _ => ok0 ?_, fun z => absurd rfl z⟩) (fun c3 => ?_)
      · rw [tC_tC, tC_27]
        exact fail _ _ fA.r27 ((tk_up_sn (by decide)).trans gA) (by unfold pV; rw [if_neg m1, if_neg (fun z => z c2), if_pos (show ¬ (48 ≤ (chr f n (sk f n (sk f n a + 1) + 1)).toInt ∧ (chr f n (sk f n (sk f n a + 1) + 1)).toInt < 48 + 10) from c3)])
      · have c3 : 48 ≤ (chr f n (sk f n (sk f n a + 1) + 1)).toInt ∧ (chr f n (sk f n (sk f n a + 1) + 1)).toInt < 48 + 10 := c3
        have m3 : ¬ ¬ (48 ≤ (chr f n (sk f n (sk f n a + 1) + 1)).toInt ∧ (chr f n (sk f n (sk f n a + 1) + 1)).toInt < 48 + 10) := fun z => z c3
        obtain ⟨nm3, l3⟩ := dg_nm hok c3.1
        refine ⟨fun z => absurd z nm3, fun _ => ?_⟩
        rw [tC_tC, tC_27]
        have fB : frA S (tk_up A 27 3 (chr f n (sk f n (sk f n a + 1) + 1) - 48)) := fA.r27
        have gB : (tk_up A 27 3 (chr f n (sk f n (sk f n a + 1) + 1) - 48)) 27 0 = S 27 0 := (tk_up_sn (by decide)).trans gA
        have xB : (tk_up A 27 3 (chr f n (sk f n (sk f n a + 1) + 1) - 48)) 27 1 = chr f n a - 48 := (tk_up_sn (by decide)).trans xA
        have yB : (tk_up A 27 3 (chr f n (sk f n (sk f n a + 1) + 1) - 48)) 27 3 = chr f n (sk f n (sk f n a + 1) + 1) - 48 := tk_up_ss
        generalize tk_up A 27 3 (chr f n (sk f n (sk f n a + 1) + 1) - 48) = B at fB gB xB yB
        refine sp_X5_take (f := f) (n := n) (a := sk f n (sk f n (sk f n a + 1) + 1) + 1) l3 (hT.fra fB.tc) tC_at (fun c4 => zf' (ok0 ?_)) (fun c4 => zt' ?_)
        · rw [tC_tC]
          exact fail _ _ fB gB (by unfold pV; rw [if_neg m1, if_neg (fun z => z c2), if_neg m3, if_pos c4])
        · rw [tC_tC]
          have l4 := sk_lt (a := sk f n (sk f n (sk f n a + 1) + 1) + 1) hok (by rw [c4]; decide)
          refine sp_X5_num (f := f) (n := n) (a := sk f n (sk f n (sk f n (sk f n a + 1) + 1) + 1) + 1) l4 (hT.fra fB.tc) tC_at ⟨fun c5 => ok0 ?_, fun c5 => ok1 ?_⟩
          · rw [tC_tC, tC_27]
            exact fail _ _ fB.r27 ((tk_up_sn (by decide)).trans gB) (by unfold pV; rw [if_neg m1, if_neg (fun z => z c2), if_neg m3, if_neg (fun z => z c4), if_pos c5])
          · rw [tC_tC, tC_27]
            have e : pV f n a = (true, (pNum f n (sk f n (sk f n (sk f n (sk f n a + 1) + 1) + 1) + 1)).1, chr f n a - 48, chr f n (sk f n (sk f n a + 1) + 1) - 48, (pNum f n (sk f n (sk f n (sk f n (sk f n a + 1) + 1) + 1) + 1)).2) := by
              unfold pV
              rw [if_neg m1, if_neg (fun z => z c2), if_neg m3, if_neg (fun z => z c4), if_neg c5]
            have rd : ∀ {T : tS} {b j : Nat}, (tC T b) 27 j = T 27 j := fun {T b j} => by
              unfold tC
              rw [tk_up_n (by decide)]
            refine kT _ fB.r27.tc ?_ (by rw [e]; exact tC_at) (by rw [e]) ?_ ?_ ?_
            · rw [rd]; exact (tk_up_sn (by decide)).trans gB
            · rw [rd, e]; exact (tk_up_sn (by decide)).trans xB
            · rw [rd, e]; exact (tk_up_sn (by decide)).trans yB
            · rw [rd, e]; exact tk_up_ss
