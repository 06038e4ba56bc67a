/-! READING AN ACT: the reference -/
theorem m1t {m : Nat} (h : m ≤ 8) : (nI m - 1).toInt + 1 = (m : Int) := by
  rw [subT] <;> rw [nI_t (by omega)] <;> simp only [Int32.reduceToInt] <;> omega
theorem sp_X8_readAct {Q : Int32 → tS → Prop} {f : Nat → Int32} {n m a w : Nat} {S : tS} (ha : a ≤ n) (hT : TpM f n S) (hat : S 45 13 = nI a) (hw : w ≤ 396) (h8 : m ≤ 8) (hm : S 45 9 = nI m) (kF : ∀ T, frM S T → T 45 13 = nI (pA f n m a).2.1 → (pA f n m a).1 = false → Q 0 T) (kT : ∀ T, frM S T → T 45 13 = nI (pA f n m a).2.1 → (pA f n m a).1 = true → T 55 w = chr f n a → (∀ j, j < w → T 55 j = S 55 j) → sameA (chr f n a) (pA f n m a).2.2.1 (pA f n m a).2.2.2.1 (pA f n m a).2.2.2.2 (T 55 (w + 1)) (T 55 (w + 2)) (T 55 (w + 3)) → Q 1 T) : tk_Ms mX8_readAct [.ref 45, .int (nI w)] S Q := by
  have hok := hT.ok
  have e1 : nI w + 1 = nI (w + 1) := nI_1 _
  have e2 : nI w + 2 = nI (w + 2) := nI_add w 2
  have c0 : (nI w).toNatClampNeg = w := nI_c (by omega)
  have c1 : (nI (w + 1)).toNatClampNeg = w + 1 := nI_c (by omega)
  have c2 : (nI (w + 2)).toNatClampNeg = w + 2 := nI_c (by omega)
  have v0 : vp_in (nI w) 400 := vp_in_nI (by omega) (by omega)
  have v1 : vp_in (nI (w + 1)) 400 := vp_in_nI (by omega) (by omega)
  have v2 : vp_in (nI (w + 2)) 400 := vp_in_nI (by omega) (by omega)
  have fail : ∀ {T : tS} {b : Nat}, frM S T → pA f n m a = (false, b, 0, 0, 0) → Q 0 (tM' T b) := by
    intro T b hfr e
    exact kF _ hfr.tm (by rw [e]; exact tM_at) (by rw [e])
  -- the sign is stored, one place on
  have st : (tk_up (tk_up (tM' S (sk f n a)) 45 13 ((tM' S (sk f n a)) 45 13 + 1)) 55 (nI w).toNatClampNeg (chr f n a)) = tM' (tk_up S 55 w (chr f n a)) (a1 f n a) := by
    rw [tM2, c0, tM55]
    rfl
  have fS : frM S (tk_up S 55 w (chr f n a)) := frM.refl.r55
  have rdw : ∀ {T : tS} {b : Nat}, (tM' T b) 55 = T 55 := tM_55
  have visitW : chr f n a = 118 → tk_Ms mX8_readVisit [.ref 45, .int (nI w)] (tM' (tk_up S 55 w (chr f n a)) (a1 f n a)) (fun x S13 => tk_okQ mX8_readAct Q x S13) := by
    intro e
    have l0 := sk_lt (a := a) hok (by rw [e]; decide)
    have ep : pA f n m a = pV f n (a1 f n a) := by unfold pA; rw [if_pos e]
    refine sp_X8_readVisit (f := f) (n := n) (a := a1 f n a) l0 (hT.fr fS.tm) tM_at hw (fun T h1 h2 h3 => ok0 ?_) (fun h1 => ok1 ?_)
    · exact kF T ⟨fun c q1 q2 => (h1.1 c q1 q2).trans (fS.tm.1 c q1 q2), fun j q => (h1.2 j q).trans (fS.tm.2 j q)⟩ (by rw [ep]; exact h2) (by rw [ep]; exact h3)
    · have g : frM S (tk_up (tk_up (tk_up (tM' (tk_up S 55 w (chr f n a)) (a1 f n a)) 55 (w + 1) (pV f n (a1 f n a)).2.2.1) 55 (w + 2) (pV f n (a1 f n a)).2.2.2.1) 55 (w + 3) (pV f n (a1 f n a)).2.2.2.2) := fS.tm.r55.r55.r55
      refine kT _ g.tm (by rw [ep]; exact tM_at) (by rw [ep]; exact h1) ?_ (fun j hj => ?_) ⟨fun _ => ?_, fun z => z.elim (fun z => absurd (e.symm.trans z) (by decide)) (fun z => absurd (e.symm.trans z) (by decide))⟩
      · rw [rdw, tk_up_sn (by omega), tk_up_sn (by omega), tk_up_sn (by omega), rdw]
        exact tk_up_ss
      · rw [rdw, tk_up_sn (by omega), tk_up_sn (by omega), tk_up_sn (by omega), rdw]
        exact tk_up_sn (by omega)
      · rw [ep, rdw]
        refine ⟨?_, ?_, tk_up_ss⟩
        · rw [tk_up_sn (by omega), tk_up_sn (by omega)]
          exact tk_up_ss
        · rw [tk_up_sn (by omega)]
          exact tk_up_ss
  have h9 : ∀ {T : tS}, frM S T → T 45 9 = nI m := fun h => (h.2 9 (by decide)).trans hm
  have washW : chr f n a = 119 → tk_Ms mX8_readWash [.ref 45, .int (nI w)] (tM' (tk_up S 55 w (chr f n a)) (a1 f n a)) (fun x S11 => tk_okQ mX8_readAct Q x S11) := by
    intro e
    have n1 : ¬ chr f n a = 118 := by rw [e]; decide
    have l0 := sk_lt (a := a) hok (by rw [e]; decide)
    refine w_X8_readWash _ ?_
    rw [e1, e2]
    simp only [c1, c2, tk_up_ss]
    generalize hA : tk_up S 55 w (chr f n a) = A at fS ⊢
    refine sp_X8_readDigit (f := f) (n := n) (a := a1 f n a) (b := 3) l0 (hT.fr fS.tm) tM_at (fun d1 => ⟨v1, v1, fun z => absurd z (by decide), fun _ => ok0 (ok0 ?_)⟩) (fun d1 => ?_)
    · rw [tM_tM, tM55]
      exact fail fS.r55 (by unfold pA; rw [if_neg n1, if_pos e, if_pos (show ¬ (48 ≤ (chr f n (a1 f n a)).toInt ∧ (chr f n (a1 f n a)).toInt < 48 + 4) from d1)])
    · have m1 : ¬ ¬ (48 ≤ (chr f n (a1 f n a)).toInt ∧ (chr f n (a1 f n a)).toInt < 48 + 4) := fun z => z d1
      obtain ⟨g1, l1⟩ := dg_ge hok d1.1
      refine ⟨v1, v1, fun _ => ?_, fun z => absurd ?_ g1⟩
      · rw [tM_tM, h9 fS.tm, tM55]
        have fB : frM S (tk_up A 55 (w + 1) (chr f n (a1 f n a) - 48)) := fS.r55
        generalize hB : tk_up A 55 (w + 1) (chr f n (a1 f n a) - 48) = B at fB ⊢
        refine sp_X8_readDigit (f := f) (n := n) (a := a1 f n (a1 f n a)) (b := nI m - 1) l1 (hT.fr fB.tm) tM_at (fun d3 => ⟨v2, v2, fun _ => ok0 (ok0 ?_), fun z => absurd (by decide) z⟩) (fun d3 => ?_)
        · rw [m1t h8] at d3
          rw [tM_tM, tM55]
          exact fail fB.r55 (by unfold pA; rw [if_neg n1, if_pos e, if_neg m1, if_pos (show ¬ (48 ≤ (chr f n (a1 f n (a1 f n a))).toInt ∧ (chr f n (a1 f n (a1 f n a))).toInt < 48 + (m : Int)) from d3)])
        · rw [m1t h8] at d3
          have m3 : ¬ ¬ (48 ≤ (chr f n (a1 f n (a1 f n a))).toInt ∧ (chr f n (a1 f n (a1 f n a))).toInt < 48 + (m : Int)) := fun z => z d3
          obtain ⟨g3, l3⟩ := dg_ge hok d3.1
          refine ⟨v2, v2, fun z => absurd z g3, fun _ => ok1 (ok1 ?_)⟩
          rw [tM_tM, tM55]
          have ep : pA f n m a = (true, sk f n (a1 f n (a1 f n a)) + 1, chr f n (a1 f n a) - 48, chr f n (a1 f n (a1 f n a)) - 48, 0) := by
            unfold pA
            rw [if_neg n1, if_pos e, if_neg m1, if_neg m3]
          refine kT _ fB.r55.tm (by rw [ep]; exact tM_at) (by rw [ep]) ?_ (fun j hj => ?_) ⟨fun z => absurd z n1, fun _ => ?_⟩
          · rw [rdw, tk_up_sn (by omega), ← hB, tk_up_sn (by omega), ← hA]
            exact tk_up_ss
          · rw [rdw, tk_up_sn (by omega), ← hB, tk_up_sn (by omega), ← hA]
            exact tk_up_sn (by omega)
          · rw [ep, rdw]
            refine ⟨?_, tk_up_ss⟩
            rw [tk_up_sn (by omega), ← hB]
            exact tk_up_ss
      · exact Classical.byContradiction (fun y => z (by rw [xlt] at y; rw [xle]; simp only [Int32.reduceToInt] at y ⊢; omega))
  have changeW : chr f n a = 99 → tk_Ms mX8_readChange [.ref 45, .int (nI w)] (tM' (tk_up S 55 w (chr f n a)) (a1 f n a)) (fun x S8 => (x = 0 → tk_okQ mX8_readAct Q 0 S8) ∧ (¬ x = 0 → tk_okQ mX8_readAct Q 1 S8)) := by
    intro e
    have n1 : ¬ chr f n a = 118 := by rw [e]; decide
    have n2 : ¬ chr f n a = 119 := by rw [e]; decide
    have l0 := sk_lt (a := a) hok (by rw [e]; decide)
    refine w_X8_readChange _ ?_
    rw [h9 fS.tm, e1, e2]
    simp only [c1, c2, tk_up_ss]
    generalize hA : tk_up S 55 w (chr f n a) = A at fS ⊢
    refine sp_X8_readDigit (f := f) (n := n) (a := a1 f n a) (b := nI m - 1) l0 (hT.fr fS.tm) tM_at (fun d1 => ⟨v1, v1, fun _ => ok0 (zf (ok0 ?_)), fun z => absurd (by decide) z⟩) (fun d1 => ?_)
    · rw [m1t h8] at d1
      rw [tM_tM, tM55]
      exact fail fS.r55 (by unfold pA; rw [if_neg n1, if_neg n2, if_pos e, if_pos (show ¬ (48 ≤ (chr f n (a1 f n a)).toInt ∧ (chr f n (a1 f n a)).toInt < 48 + (m : Int)) from d1)])
    · rw [m1t h8] at d1
      have m1 : ¬ ¬ (48 ≤ (chr f n (a1 f n a)).toInt ∧ (chr f n (a1 f n a)).toInt < 48 + (m : Int)) := fun z => z d1
      obtain ⟨g1, l1⟩ := dg_ge hok d1.1
      refine ⟨v1, v1, fun z => absurd z g1, fun _ => ?_⟩
      rw [tM_tM, tM55]
      have fB : frM S (tk_up A 55 (w + 1) (chr f n (a1 f n a) - 48)) := fS.r55
      generalize hB : tk_up A 55 (w + 1) (chr f n (a1 f n a) - 48) = B at fB ⊢
      refine sp_X8_takes (f := f) (n := n) (a := a1 f n (a1 f n a)) l1 (hT.fr fB.tm) tM_at (fun d2 => zf' (ok0 (zf (ok0 ?_)))) (fun d2 => zt' ?_)
      · rw [tM_tM]
        exact fail fB (by unfold pA; rw [if_neg n1, if_neg n2, if_pos e, if_neg m1, if_pos d2])
      · rw [tM_tM]
        have l2 := sk_lt (a := a1 f n (a1 f n a)) hok (by rw [d2]; decide)
        refine sp_X8_readDigit (f := f) (n := n) (a := a1 f n (a1 f n (a1 f n a))) (b := 4) l2 (hT.fr fB.tm) tM_at (fun d3 => ⟨v2, v2, fun _ => ok0 (zf (ok0 ?_)), fun z => absurd (by decide) z⟩) (fun d3 => ?_)
        · rw [tM_tM, tM55]
          exact fail fB.r55 (by unfold pA; rw [if_neg n1, if_neg n2, if_pos e, if_neg m1, if_neg (fun z => z d2), if_pos (show ¬ (48 ≤ (chr f n (a1 f n (a1 f n (a1 f n a)))).toInt ∧ (chr f n (a1 f n (a1 f n (a1 f n a)))).toInt < 48 + 5) from d3)])
        · have m3 : ¬ ¬ (48 ≤ (chr f n (a1 f n (a1 f n (a1 f n a)))).toInt ∧ (chr f n (a1 f n (a1 f n (a1 f n a)))).toInt < 48 + 5) := fun z => z d3
          obtain ⟨g3, l3⟩ := dg_ge hok d3.1
          refine ⟨v2, v2, fun z => absurd z g3, fun _ => ok1 (zt (ok1 ?_))⟩
          rw [tM_tM, tM55]
          have ep : pA f n m a = (true, sk f n (a1 f n (a1 f n (a1 f n a))) + 1, chr f n (a1 f n a) - 48, chr f n (a1 f n (a1 f n (a1 f n a))) - 48, 0) := by
            unfold pA
            rw [if_neg n1, if_neg n2, if_pos e, if_neg m1, if_neg (fun z => z d2), if_neg m3]
          refine kT _ fB.r55.tm (by rw [ep]; exact tM_at) (by rw [ep]) ?_ (fun j hj => ?_) ⟨fun z => absurd z n1, fun _ => ?_⟩
          · rw [rdw, tk_up_sn (by omega), ← hB, tk_up_sn (by omega), ← hA]
            exact tk_up_ss
          · rw [rdw, tk_up_sn (by omega), ← hB, tk_up_sn (by omega), ← hA]
            exact tk_up_sn (by omega)
          · rw [ep, rdw]
            refine ⟨?_, tk_up_ss⟩
            rw [tk_up_sn (by omega), ← hB]
            exact tk_up_ss
  refine w_X8_readAct _ (sp_X8_nextByte ha hT hat ?_)
  rw [st]
  have nn : chr f n a = 110 → Q 1 (tM' (tk_up S 55 w (chr f n a)) (a1 f n a)) := by
    intro e
    have n1 : ¬ chr f n a = 118 := by rw [e]; decide
    have n2 : ¬ chr f n a = 119 := by rw [e]; decide
    have n3 : ¬ chr f n a = 99 := by rw [e]; decide
    have ep : pA f n m a = (true, a1 f n a, 0, 0, 0) := by
      unfold pA
      rw [if_neg n1, if_neg n2, if_neg n3, if_pos e]
    refine kT _ fS.tm (by rw [ep]; exact tM_at) (by rw [ep]) ?_ (fun j hj => ?_) ⟨fun z => absurd z n1, fun z => z.elim (fun z => absurd z n2) (fun z => absurd z n3)⟩
    · rw [rdw]
      exact tk_up_ss
    · rw [rdw]
      exact tk_up_sn (by omega)
  refine ⟨fun e => ⟨v0, ⟨fun z1 => ⟨fun z2 => ⟨fun z => ok1 (nn z), fun z4 => changeW (absurd e z1)⟩, fun z => washW z⟩, fun z => visitW z⟩⟩, fun n1 => ⟨fun e => ⟨v0, ⟨fun z1 => ⟨fun z2 => ⟨fun z => ok1 (nn z), fun z4 => changeW (absurd e z2)⟩, fun z => washW z⟩, fun z => visitW z⟩⟩, fun n2 => ⟨fun e => ⟨v0, ⟨fun z1 => ⟨fun z2 => ⟨fun z => ok1 (nn z), fun z4 => changeW (e)⟩, fun z => washW z⟩, fun z => visitW z⟩⟩, fun n3 => ⟨fun e => ⟨v0, ⟨fun z1 => ⟨fun z2 => ⟨fun z => ok1 (nn z), fun z4 => changeW (absurd e z4)⟩, fun z => washW z⟩, fun z => visitW z⟩⟩, fun n4 => ok0 ?_⟩⟩⟩⟩
  exact fail frM.refl (by unfold pA; rw [if_neg n1, if_neg n2, if_neg n3, if_neg n4])
