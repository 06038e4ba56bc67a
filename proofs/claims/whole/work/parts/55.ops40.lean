/-! READING AN ACT: the object -/
def a1 (f : Nat → Int32) (n a : Nat) : Nat := sk f n a + 1
def pA (f : Nat → Int32) (n m a : Nat) : Bool × Nat × Int32 × Int32 × Int32 :=
  if chr f n a = 118 then pV f n (a1 f n a)
  else if chr f n a = 119 then
    (if ¬ (48 ≤ (chr f n (a1 f n a)).toInt ∧ (chr f n (a1 f n a)).toInt < 48 + 4) then (false, sk f n (a1 f n a), 0, 0, 0)
    else if ¬ (48 ≤ (chr f n (a1 f n (a1 f n a))).toInt ∧ (chr f n (a1 f n (a1 f n a))).toInt < 48 + (m : Int)) then (false, sk f n (a1 f n (a1 f n a)), 0, 0, 0)
    else (true, sk f n (a1 f n (a1 f n a)) + 1, chr f n (a1 f n a) - 48, chr f n (a1 f n (a1 f n a)) - 48, 0))
  else if chr f n a = 99 then
    (if ¬ (48 ≤ (chr f n (a1 f n a)).toInt ∧ (chr f n (a1 f n a)).toInt < 48 + (m : Int)) then (false, sk f n (a1 f n a), 0, 0, 0)
    else if ¬ chr f n (a1 f n (a1 f n a)) = 62 then (false, sk f n (a1 f n (a1 f n a)), 0, 0, 0)
    else if ¬ (48 ≤ (chr f n (a1 f n (a1 f n (a1 f n a)))).toInt ∧ (chr f n (a1 f n (a1 f n (a1 f n a)))).toInt < 48 + 5) then (false, sk f n (a1 f n (a1 f n (a1 f n a))), 0, 0, 0)
    else (true, sk f n (a1 f n (a1 f n (a1 f n a))) + 1, chr f n (a1 f n a) - 48, chr f n (a1 f n (a1 f n (a1 f n a))) - 48, 0))
  else if chr f n a = 110 then (true, a1 f n a, 0, 0, 0)
  else (false, sk f n a, 0, 0, 0)
/-- the same act, as far as its sign uses its numbers -/
def sameA (s p q r p' q' r' : Int32) : Prop := (s = 118 → p' = p ∧ q' = q ∧ r' = r) ∧ (s = 119 ∨ s = 99 → p' = p ∧ q' = q)
theorem rd27 {T : tS} {b j : Nat} : (tC T b) 27 j = T 27 j := by
  unfold tC
  rw [tk_up_n (by decide)]
theorem tC1' {T : tS} {b j : Nat} {x : Int32} : tk_up (tk_up (tC T b) 27 j x) 21 1 ((tC T b) 21 1 + 1) = tC (tk_up T 27 j x) (b + 1) := by
  rw [tC_at, nI_1, tC_27]
  exact tC_tC
theorem sp_X7_readAct {Q : Int32 → tS → Prop} {f : Nat → Int32} {n m a : Nat} {S : tS} (ha : a ≤ n) (hT : TpC f n S) (hat : S 21 1 = nI a) (h8 : m ≤ 8) (hm : S 5 0 = nI m) (kF : ∀ T, frA S T → T 21 1 = nI (pA f n m a).2.1 → (pA f n m a).1 = false → Q 0 T) (kT : ∀ T, frA S T → T 21 1 = nI (pA f n m a).2.1 → (pA f n m a).1 = true → T 27 0 = chr f n a → sameA (chr f n a) (pA f n m a).2.2.1 (pA f n m a).2.2.2.1 (pA f n m a).2.2.2.2 (actP T) (actQ T) (T 27 4) → Q 1 T) : tk_Ms mX7_readAct [.ref 0] S Q := by
  have hok := hT.ok
  have tm : (nI m).toInt = (m : Int) := nI_t (by omega)
  have fail : ∀ (T : tS) (b : Nat), frA S T → pA f n m a = (false, b, 0, 0, 0) → Q 0 (tC T b) := by
    intro T b h1 e
    exact kF _ h1.tc (by rw [e]; exact tC_at) (by rw [e])
  have fS : frA S (tk_up S 27 0 (chr f n a)) := frA.refl.r27
  have gS : (tk_up S 27 0 (chr f n a)) 27 0 = chr f n a := tk_up_ss
  refine w_X7_readAct (sp_X5_ahead ha hT hat ⟨fun e => ?_, fun e => ?_, fun e => ?_, fun e => ?_, fun e => ?_⟩)
  · -- 'c'
    have n1 : ¬ chr f n a = 118 := by rw [e]; decide
    have n2 : ¬ chr f n a = 119 := by rw [e]; decide
    have l0 := sk_lt (a := a) hok (by rw [e]; decide)
    rw [tC1', show (tC S (sk f n a)) 5 0 = nI m from (by unfold tC; rw [tk_up_n (by decide)]; exact hm)]
    generalize tk_up S 27 0 (chr f n a) = A at fS gS
    refine sp_X5_digit (f := f) (n := n) (a := a1 f n a) (b := nI m) (by omega) l0 (hT.fra fS.tc) tC_at (fun c1 => ⟨fun _ => ⟨fun _ => ok0 ?_, fun z => absurd rfl z⟩, fun z => absurd rfl z⟩) (fun c1 => ?_)
    · rw [tm] at c1
      rw [tC_tC, tC_27, tC_27]
      exact fail _ _ fS.r27.r27 (by unfold pA; rw [if_neg n1, if_neg n2, if_pos e, if_pos (show ¬ (48 ≤ (chr f n (a1 f n a)).toInt ∧ (chr f n (a1 f n a)).toInt < 48 + (m : Int)) from c1)])
    · rw [tm] at c1
      have m1 : ¬ ¬ (48 ≤ (chr f n (a1 f n a)).toInt ∧ (chr f n (a1 f n a)).toInt < 48 + (m : Int)) := fun z => z c1
      obtain ⟨nm1, l1⟩ := dg_nm hok c1.1
      refine ⟨fun z => absurd z nm1, fun _ => ?_⟩
      rw [tC_tC, tC_27]
      have fA : frA S (tk_up A 27 2 (chr f n (a1 f n a) - 48)) := fS.r27
      have gA : (tk_up A 27 2 (chr f n (a1 f n a) - 48)) 27 0 = chr f n a := (tk_up_sn (by decide)).trans gS
      have xA : (tk_up A 27 2 (chr f n (a1 f n a) - 48)) 27 2 = chr f n (a1 f n a) - 48 := tk_up_ss
      generalize tk_up A 27 2 (chr f n (a1 f n a) - 48) = B at fA gA xA
      refine sp_X5_take (f := f) (n := n) (a := a1 f n (a1 f n a)) l1 (hT.fra fA.tc) tC_at (fun c2 => zf ⟨fun _ => ok0 ?_, fun z => absurd rfl z⟩) (fun c2 => zt ?_)
      · rw [tC_tC, tC_27]
        exact fail _ _ fA.r27 (by unfold pA; rw [if_neg n1, if_neg n2, if_pos e, if_neg m1, if_pos c2])
      · rw [tC_tC]
        have l2 := sk_lt (a := a1 f n (a1 f n a)) hok (by rw [c2]; decide)
        refine sp_X5_digit (f := f) (n := n) (a := a1 f n (a1 f n (a1 f n a))) (b := 5) (by decide) l2 (hT.fra fA.tc) tC_at (fun c3 => ⟨fun _ => ok0 ?_, fun z => absurd rfl z⟩) (fun c3 => ?_)
        · rw [tC_tC, tC_27]
          exact fail _ _ fA.r27 (by unfold pA; rw [if_neg n1, if_neg n2, if_pos e, if_neg m1, if_neg (fun z => z c2), if_pos (show ¬ (48 ≤ (chr f n (a1 f n (a1 f n (a1 f n a)))).toInt ∧ (chr f n (a1 f n (a1 f n (a1 f n a)))).toInt < 48 + 5) from c3)])
        · have m3 : ¬ ¬ (48 ≤ (chr f n (a1 f n (a1 f n (a1 f n a)))).toInt ∧ (chr f n (a1 f n (a1 f n (a1 f n a)))).toInt < 48 + 5) := fun z => z c3
          obtain ⟨nm3, l3⟩ := dg_nm hok c3.1
          refine ⟨fun z => absurd z nm3, fun _ => ok1 ?_⟩
          rw [tC_tC, tC_27]
          have ep : pA f n m a = (true, sk f n (a1 f n (a1 f n (a1 f n a))) + 1, chr f n (a1 f n a) - 48, chr f n (a1 f n (a1 f n (a1 f n a))) - 48, 0) := by
            unfold pA
            rw [if_neg n1, if_neg n2, if_pos e, if_neg m1, if_neg (fun z => z c2), if_neg m3]
          have g0 : (tC (tk_up B 27 3 (chr f n (a1 f n (a1 f n (a1 f n a))) - 48)) (sk f n (a1 f n (a1 f n (a1 f n a))) + 1)) 27 0 = chr f n a := by rw [rd27]; exact (tk_up_sn (by decide)).trans gA
          refine kT _ fA.r27.tc (by rw [ep]; exact tC_at) (by rw [ep]) g0 ⟨fun z => absurd z n1, fun _ => ?_⟩
          rw [ep]
          unfold actP actQ
          rw [g0, if_pos e, if_neg n1, if_pos e, rd27, rd27]
          exact ⟨(tk_up_sn (by decide)).trans xA, tk_up_ss⟩
  · -- 'n'
    have n1 : ¬ chr f n a = 118 := by rw [e]; decide
    have n2 : ¬ chr f n a = 119 := by rw [e]; decide
    have n3 : ¬ chr f n a = 99 := by rw [e]; decide
    have ep : pA f n m a = (true, a1 f n a, 0, 0, 0) := by
      unfold pA
      rw [if_neg n1, if_neg n2, if_neg n3, if_pos e]
    rw [tC1']
    refine okZ (Or.inr rfl) (kT _ fS.tc (by rw [ep]; exact tC_at) (by rw [ep]) (by rw [rd27]; exact gS) ⟨fun z => absurd z n1, fun z => z.elim (fun z => absurd z n2) (fun z => absurd z n3)⟩)
  · -- 'v'
    have l0 := sk_lt (a := a) hok (by rw [e]; decide)
    have ep : pA f n m a = pV f n (a1 f n a) := by
      unfold pA
      rw [if_pos e]
    rw [tC1']
    generalize tk_up S 27 0 (chr f n a) = A at fS gS
    refine sp_X7_readVisit (f := f) (n := n) (a := a1 f n a) l0 (hT.fra fS.tc) tC_at (fun T h1 h2 h3 h4 => ok0 ?_) (fun T h1 h2 h3 h4 h5 h6 h7 => ok1 ?_)
    · exact kF T ⟨fun c q1 q2 => (h1.1 c q1 q2).trans (fS.tc.1 c q1 q2), h1.2.trans fS.tc.2⟩ (by rw [ep]; exact h3) (by rw [ep]; exact h4)
    · have g0 : T 27 0 = chr f n a := by rw [h2, rd27]; exact gS
      refine kT T ⟨fun c q1 q2 => (h1.1 c q1 q2).trans (fS.tc.1 c q1 q2), h1.2.trans fS.tc.2⟩ (by rw [ep]; exact h3) (by rw [ep]; exact h4) g0 ⟨fun _ => ?_, fun z => ?_⟩
      · rw [ep]
        unfold actP actQ
        rw [g0, if_neg (by rw [e]; decide), if_pos e]
        exact ⟨h5, h6, h7⟩
      · exact z.elim (fun z => absurd (e.symm.trans z) (by decide)) (fun z => absurd (e.symm.trans z) (by decide))
  · -- 'w'
    have n1 : ¬ chr f n a = 118 := by rw [e]; decide
    have n3 : ¬ chr f n a = 99 := by rw [e]; decide
    have l0 := sk_lt (a := a) hok (by rw [e]; decide)
    rw [tC1']
    generalize tk_up S 27 0 (chr f n a) = A at fS gS
    refine sp_X5_digit (f := f) (n := n) (a := a1 f n a) (b := 4) (by decide) l0 (hT.fra fS.tc) tC_at (fun c1 => ⟨fun z => absurd rfl z, fun _ => ⟨fun _ => ok0 ?_, fun z => absurd rfl z⟩⟩) (fun c1 => ?_)
    · rw [tC_tC, tC_27, tC_27]
      exact fail _ _ fS.r27.r27 (by unfold pA; rw [if_neg n1, if_pos e, if_pos (show ¬ (48 ≤ (chr f n (a1 f n a)).toInt ∧ (chr f n (a1 f n a)).toInt < 48 + 4) from c1)])
    · have m1 : ¬ ¬ (48 ≤ (chr f n (a1 f n a)).toInt ∧ (chr f n (a1 f n a)).toInt < 48 + 4) := fun z => z c1
      obtain ⟨nm1, l1⟩ := dg_nm hok c1.1
      refine ⟨fun _ => ?_, fun z => absurd z nm1⟩
      rw [tC_tC, tC_27]
      have fA : frA S (tk_up A 27 1 (chr f n (a1 f n a) - 48)) := fS.r27
      have gA : (tk_up A 27 1 (chr f n (a1 f n a) - 48)) 27 0 = chr f n a := (tk_up_sn (by decide)).trans gS
      have xA : (tk_up A 27 1 (chr f n (a1 f n a) - 48)) 27 1 = chr f n (a1 f n a) - 48 := tk_up_ss
      have h5 : (tC A (sk f n (a1 f n a) + 1)) 5 0 = nI m := (congrFun (fS.tc.1 5 (by decide) (by decide)) 0).trans hm
      rw [h5]
      generalize tk_up A 27 1 (chr f n (a1 f n a) - 48) = B at fA gA xA
      refine sp_X5_digit (f := f) (n := n) (a := a1 f n (a1 f n a)) (b := nI m) (by omega) l1 (hT.fra fA.tc) tC_at (fun c3 => ⟨fun _ => ok0 ?_, fun z => absurd rfl z⟩) (fun c3 => ?_)
      · rw [tm] at c3
        rw [tC_tC, tC_27]
        exact fail _ _ fA.r27 (by unfold pA; rw [if_neg n1, if_pos e, if_neg m1, if_pos (show ¬ (48 ≤ (chr f n (a1 f n (a1 f n a))).toInt ∧ (chr f n (a1 f n (a1 f n a))).toInt < 48 + (m : Int)) from c3)])
      · rw [tm] at c3
        have m3 : ¬ ¬ (48 ≤ (chr f n (a1 f n (a1 f n a))).toInt ∧ (chr f n (a1 f n (a1 f n a))).toInt < 48 + (m : Int)) := fun z => z c3
        obtain ⟨nm3, l3⟩ := dg_nm hok c3.1
        refine ⟨fun z => absurd z nm3, fun _ => ok1 ?_⟩
        rw [tC_tC, tC_27]
        have ep : pA f n m a = (true, sk f n (a1 f n (a1 f n a)) + 1, chr f n (a1 f n a) - 48, chr f n (a1 f n (a1 f n a)) - 48, 0) := by
          unfold pA
          rw [if_neg n1, if_pos e, if_neg m1, if_neg m3]
        have g0 : (tC (tk_up B 27 2 (chr f n (a1 f n (a1 f n a)) - 48)) (sk f n (a1 f n (a1 f n a)) + 1)) 27 0 = chr f n a := by rw [rd27]; exact (tk_up_sn (by decide)).trans gA
        refine kT _ fA.r27.tc (by rw [ep]; exact tC_at) (by rw [ep]) g0 ⟨fun z => absurd z n1, fun _ => ?_⟩
        rw [ep]
        unfold actP actQ
        rw [g0, if_neg n3, if_neg n1, if_neg n3, rd27, rd27]
        exact ⟨(tk_up_sn (by decide)).trans xA, tk_up_ss⟩
  · -- no act
    obtain ⟨e1, e2, e3, e4⟩ := e
    refine okZ (Or.inl rfl) ?_
    rw [tC_27]
    exact fail _ _ fS (by unfold pA; rw [if_neg e3, if_neg e4, if_neg e1, if_neg e2])
