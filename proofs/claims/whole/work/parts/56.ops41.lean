/-! READING A VISIT: the reference -/
theorem dg_ge {f : Nat → Int32} {n a : Nat} (hok : ∀ i, i < n → okB (f i)) (h : 48 ≤ (chr f n a).toInt) : ¬ chr f n a - 48 < 0 ∧ sk f n a < n := by
  have s := sub48 (chr_or (a := a) hok)
  refine ⟨fun z => ?_, (dg_nm hok h).2⟩
  rw [lt0, s] at z
  omega
theorem pNum_r {f : Nat → Int32} {n a : Nat} : (pNum f n a).2 = -1 ∨ 0 ≤ (pNum f n a).2.toInt ∧ (pNum f n a).2.toInt ≤ 30 := by
  unfold pNum
  by_cases h : 48 ≤ (chr f n a).toInt ∧ (chr f n a).toInt ≤ 57
  · rw [if_pos h]
    by_cases h2 : (nu f (n - sk f n a) (sk f n a) 0).2 ≤ 30
    · rw [if_pos h2]
      refine Or.inr ?_
      show 0 ≤ (nI _).toInt ∧ (nI _).toInt ≤ 30
      rw [nI_t (by omega)]
      omega
    · rw [if_neg h2]; exact Or.inl rfl
  · rw [if_neg h]; exact Or.inl rfl
theorem sp_X8_readVisit {Q : Int32 → tS → Prop} {f : Nat → Int32} {n a w : Nat} {S : tS} (ha : a ≤ n) (hT : TpM f n S) (hat : S 45 13 = nI a) (hw : w ≤ 396) (kF : ∀ T, frM S T → T 45 13 = nI (pV f n a).2.1 → (pV f n a).1 = false → Q 0 T) (kT : (pV f n a).1 = true → Q 1 (tM' (tk_up (tk_up (tk_up S 55 (w + 1) (pV f n a).2.2.1) 55 (w + 2) (pV f n a).2.2.2.1) 55 (w + 3) (pV f n a).2.2.2.2) (pV f n a).2.1)) : tk_Ms mX8_readVisit [.ref 45, .int (nI w)] S Q := by
  have hok := hT.ok
  have e1 : nI w + 1 = nI (w + 1) := nI_1 _
  have e2 : nI w + 2 = nI (w + 2) := nI_add w 2
  have e3 : nI w + 3 = nI (w + 3) := nI_add w 3
  have c1 : (nI (w + 1)).toNatClampNeg = w + 1 := nI_c (by omega)
  have c2 : (nI (w + 2)).toNatClampNeg = w + 2 := nI_c (by omega)
  have c3 : (nI (w + 3)).toNatClampNeg = w + 3 := nI_c (by omega)
  have v1 : vp_in (nI (w + 1)) 400 := vp_in_nI (by omega) (by omega)
  have v2 : vp_in (nI (w + 2)) 400 := vp_in_nI (by omega) (by omega)
  have v3 : vp_in (nI (w + 3)) 400 := vp_in_nI (by omega) (by omega)
  have fail : ∀ {T : tS} {b : Nat}, frM S T → pV f n a = (false, b, 0, 0, 0) → Q 0 (tM' T b) := by
    intro T b hfr e
    exact kF _ hfr.tm (by rw [e]; exact tM_at) (by rw [e])
  refine w_X8_readVisit _ ?_
  rw [e1, e2, e3]
  simp only [c1, c2, c3, tk_up_ss]
  refine sp_X8_readDigit (b := 3) ha hT hat (fun d1 => ⟨v1, v1, fun _ => ok0 ?_, fun z => absurd (by decide) z⟩) (fun d1 => ?_)
  · rw [tM55]
    exact fail frM.refl.r55 (by unfold pV; rw [if_pos (show ¬ (48 ≤ (chr f n a).toInt ∧ (chr f n a).toInt < 48 + 4) from d1)])
  · have m1 : ¬ ¬ (48 ≤ (chr f n a).toInt ∧ (chr f n a).toInt < 48 + 4) := fun z => z d1
    obtain ⟨g1, l1⟩ := dg_ge hok d1.1
    refine ⟨v1, v1, fun z => absurd z g1, fun _ => ?_⟩
    rw [tM55]
    have fA : frM S (tk_up S 55 (w + 1) (chr f n a - 48)) := frM.refl.r55
    generalize hA : tk_up S 55 (w + 1) (chr f n a - 48) = A at fA ⊢
    refine sp_X8_takes (f := f) (n := n) (a := sk f n a + 1) l1 (hT.fr fA.tm) tM_at (fun d2 => zf' (ok0 ?_)) (fun d2 => zt' ?_)
    · rw [tM_tM]
      exact fail fA (by unfold pV; rw [if_neg m1, if_pos d2])
    · rw [tM_tM]
      have l2 := sk_lt (a := sk f n a + 1) hok (by rw [d2]; decide)
      refine sp_X8_readDigit (f := f) (n := n) (a := sk f n (sk f n a + 1) + 1) (b := 9) l2 (hT.fr fA.tm) tM_at (fun d3 => ⟨v2, v2, fun _ => ok0 ?_, fun z => absurd (by decide) z⟩) (fun d3 => ?_)
      · rw [tM_tM, tM55]
        exact fail fA.r55 (by unfold pV; rw [if_neg m1, if_neg (fun z => z d2), if_pos (show ¬ (48 ≤ (chr f n (sk f n (sk f n a + 1) + 1)).toInt ∧ (chr f n (sk f n (sk f n a + 1) + 1)).toInt < 48 + 10) from d3)])
      · have m3 : ¬ ¬ (48 ≤ (chr f n (sk f n (sk f n a + 1) + 1)).toInt ∧ (chr f n (sk f n (sk f n a + 1) + 1)).toInt < 48 + 10) := fun z => z d3
        obtain ⟨g3, l3⟩ := dg_ge hok d3.1
        refine ⟨v2, v2, fun z => absurd z g3, fun _ => ?_⟩
        rw [tM_tM, tM55]
        have fB : frM S (tk_up A 55 (w + 2) (chr f n (sk f n (sk f n a + 1) + 1) - 48)) := fA.r55
        generalize hB : tk_up A 55 (w + 2) (chr f n (sk f n (sk f n a + 1) + 1) - 48) = B at fB ⊢
        refine sp_X8_takes (f := f) (n := n) (a := sk f n (sk f n (sk f n a + 1) + 1) + 1) l3 (hT.fr fB.tm) tM_at (fun d4 => zf' (ok0 ?_)) (fun d4 => zt' ?_)
        · rw [tM_tM]
          exact fail fB (by unfold pV; rw [if_neg m1, if_neg (fun z => z d2), if_neg m3, if_pos d4])
        · rw [tM_tM]
          have l4 := sk_lt (a := sk f n (sk f n (sk f n a + 1) + 1) + 1) hok (by rw [d4]; decide)
          refine sp_X8_num (f := f) (n := n) (a := sk f n (sk f n (sk f n (sk f n a + 1) + 1) + 1) + 1) l4 (hT.fr fB.tm) tM_at ⟨v3, v3, fun z => ok0 ?_, fun z => ok1 ?_⟩
          · have z' : (pNum f n (sk f n (sk f n (sk f n (sk f n a + 1) + 1) + 1) + 1)).2 = -1 := by
              rcases pNum_r (f := f) (n := n) (a := sk f n (sk f n (sk f n (sk f n a + 1) + 1) + 1) + 1) with y | y
              · exact y
              · rw [lt0] at z
                omega
            rw [tM_tM, tM55]
            exact fail fB.r55 (by unfold pV; rw [if_neg m1, if_neg (fun z => z d2), if_neg m3, if_neg (fun z => z d4), if_pos z'])
          · have z' : ¬ (pNum f n (sk f n (sk f n (sk f n (sk f n a + 1) + 1) + 1) + 1)).2 = -1 := fun y => z (by rw [y]; decide)
            have e : pV f n a = (true, (pNum f n (sk f n (sk f n (sk f n (sk f n a + 1) + 1) + 1) + 1)).1, chr f n a - 48, chr f n (sk f n (sk f n a + 1) + 1) - 48, (pNum f n (sk f n (sk f n (sk f n (sk f n a + 1) + 1) + 1) + 1)).2) := by
              unfold pV
              rw [if_neg m1, if_neg (fun z => z d2), if_neg m3, if_neg (fun z => z d4), if_neg z']
            rw [e] at kT
            rw [tM_tM, tM55, ← hB, ← hA]
            exact kT rfl
