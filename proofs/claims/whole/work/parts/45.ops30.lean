/-! A DOOR ON THE TAPE: the reference -/
def frM (S T : tS) : Prop := (∀ c, c ≠ 55 → c ≠ 45 → T c = S c) ∧ ∀ j, j ≠ 13 → T 45 j = S 45 j
theorem frM.refl {S : tS} : frM S S := ⟨fun _ _ _ => rfl, fun _ _ => rfl⟩
theorem frM.tm {S T : tS} (h : frM S T) {b : Nat} : frM S (tM' T b) := by
  refine ⟨fun c h1 h2 => ?_, fun j hj => ?_⟩
  · unfold tM'
    rw [tk_up_n h2]
    exact h.1 c h1 h2
  · unfold tM'
    rw [tk_up_sn hj]
    exact h.2 j hj
theorem frM.r55 {S T : tS} (h : frM S T) {j : Nat} {x : Int32} : frM S (tk_up T 55 j x) := by
  refine ⟨fun c h1 h2 => ?_, fun i hi => ?_⟩
  · rw [tk_up_n h1]
    exact h.1 c h1 h2
  · rw [tk_up_n (by decide)]
    exact h.2 i hi
theorem TpM.fr {f : Nat → Int32} {n : Nat} {S T : tS} (h : TpM f n S) (g : frM S T) : TpM f n T := by
  unfold TpM
  rw [g.2 12 (by decide), g.1 54 (by decide) (by decide)]
  exact h
theorem tM1 {T : tS} {b j : Nat} {x : Int32} : tk_up (tk_up (tM' T b) 55 j x) 45 13 ((tM' T b) 45 13 + 1) = tM' (tk_up T 55 j x) (b + 1) := by
  show tk_up (tk_up (tM' T b) 55 j x) 45 13 (nI b + 1) = _
  rw [nI_1]
  funext c i
  unfold tM' tk_up tk_upR upd
  by_cases h1 : c = 45
  · subst h1
    by_cases h2 : i = 13
    · simp [h2]
    · simp [h2]
  · simp [h1]
theorem tM55 {T : tS} {b j : Nat} {x : Int32} : tk_up (tM' T b) 55 j x = tM' (tk_up T 55 j x) b := by
  funext c i
  unfold tM' tk_up tk_upR upd
  by_cases h1 : c = 45
  · subst h1
    simp
  · by_cases h2 : c = 55
    · subst h2; simp
    · simp [h1, h2]
theorem tM2 {T : tS} {b : Nat} : tk_up (tM' T b) 45 13 ((tM' T b) 45 13 + 1) = tM' T (b + 1) := by
  show tk_up (tM' T b) 45 13 (nI b + 1) = _
  rw [nI_1]
  exact tM_tM
theorem sp_X8_readDoor {Q : Int32 → tS → Prop} {f : Nat → Int32} {n a k : Nat} {S : tS} (ha : a ≤ n) (hT : TpM f n S) (hat : S 45 13 = nI a) (hk : k < 16) (kF : ∀ T, frM S T → T 45 13 = nI (pDoor f n a).2.1 → (pDoor f n a).1 = false → Q 0 T) (kT : (pDoor f n a).1 = true → Q 1 (tM' (tk_up (tk_up (tk_up S 55 (3 * k) (dx f n a)) 55 (3 * k + 1) (dy f n a)) 55 (3 * k + 2) (pDoor f n a).2.2) (pDoor f n a).2.1)) : tk_Ms mX8_readDoor [.ref 45, .int (nI (3 * k))] S Q := by
  have hok := hT.ok
  have e1 : nI (3 * k) + 1 = nI (3 * k + 1) := nI_1 _
  have e2 : nI (3 * k) + 2 = nI (3 * k + 2) := nI_add (3 * k) 2
  have c0 : (nI (3 * k)).toNatClampNeg = 3 * k := nI_c (by omega)
  have c1' : (nI (3 * k + 1)).toNatClampNeg = 3 * k + 1 := nI_c (by omega)
  have c2' : (nI (3 * k + 2)).toNatClampNeg = 3 * k + 2 := nI_c (by omega)
  have v0 : vp_in (nI (3 * k)) 400 := vp_in_nI (by omega) (by omega)
  have v1 : vp_in (nI (3 * k + 1)) 400 := vp_in_nI (by omega) (by omega)
  have v2 : vp_in (nI (3 * k + 2)) 400 := vp_in_nI (by omega) (by omega)
  have fail : ∀ {T : tS} {b : Nat}, frM S T → pDoor f n a = (false, b, 0) → Q 0 (tM' T b) := by
    intro T b hfr e
    refine kF _ hfr.tm ?_ (by rw [e])
    rw [e]
    rfl
  refine w_X8_readDoor _ ?_
  rw [e1, e2]
  simp only [c0, c1', c2', tk_up_ss]
  refine sp_X8_nextByte ha hT hat (sp_X8_signOf ⟨v0, v0, fun c1 => ?_, fun c1 => ok0 ?_⟩)
  · have c1 : dx f n a ≠ -1 := fun z => by
      have c1 : 0 ≤ dx f n a := c1
      rw [z] at c1
      exact absurd c1 (by decide)
    have l1 := sk_lt hok (pPl_n c1)
    rw [tM1]
    show tk_Ms mX8_takes [.ref 45, .int 45] (tM' (tk_up S 55 (3 * k) (dx f n a)) (sk f n a + 1)) _
    have fA : frM S (tk_up S 55 (3 * k) (dx f n a)) := frM.refl.r55
    generalize hA : tk_up S 55 (3 * k) (dx f n a) = A at *
    refine sp_X8_takes (S := tM' A (sk f n a + 1)) (f := f) (n := n) (a := sk f n a + 1) (by omega) (hT.fr fA.tm) rfl (fun c2 => zf' (ok0 ?_)) (fun c2 => zt' ?_)
    · rw [tM_tM]
      exact fail fA (by unfold pDoor; rw [if_neg c1, if_pos c2])
    · rw [tM_tM]
      have l2 := sk_lt (a := sk f n a + 1) hok (by rw [c2]; decide)
      show tk_Ms mX8_nextByte [.ref 45] (tM' A (d2 f n a)) _
      refine sp_X8_nextByte (f := f) (n := n) (a := d2 f n a) l2 (hT.fr fA.tm) rfl ?_
      rw [tM_tM]
      show tk_Ms mX8_signOf _ (tM' A (d3 f n a)) _
      refine sp_X8_signOf ⟨v1, v1, fun c3 => ok0 ?_, fun c3 => ⟨v0, v1, ?_⟩⟩
      · have c3 : dy f n a < 0 := c3
        have c3' : dy f n a = -1 := by
          rcases pPl_r (chr_or (a := d2 f n a) hok) with z | z
          · exact z
          · rw [lt0] at c3
            have : (dy f n a).toInt = (pPl (chr f n (d2 f n a))).toInt := rfl
            omega
        rw [tM55]
        exact fail fA.r55 (by unfold pDoor; rw [if_neg c1, if_neg (fun z => z c2), if_pos c3'])
      · have c3' : dy f n a ≠ -1 := fun z => c3 (by
          show dy f n a < 0
          rw [z]; decide)
        have l3 : d3 f n a < n := sk_lt hok (pPl_n c3')
        have eX : (tk_up (tM' A (d3 f n a)) 55 (3 * k + 1) (pPl (chr f n (d2 f n a)))) 55 (3 * k) = dx f n a := by
          rw [tk_up_sn (by omega), ← hA]
          show (tk_up S 55 (3 * k) (dx f n a)) 55 (3 * k) = dx f n a
          exact tk_up_ss
        rw [eX, tM55]
        show tk_Ms mX8_canJoin [.int (dx f n a), .int (dy f n a)] (tM' (tk_up A 55 (3 * k + 1) (dy f n a)) (d3 f n a)) _
        have fB : frM S (tk_up A 55 (3 * k + 1) (dy f n a)) := fA.r55
        generalize hB : tk_up A 55 (3 * k + 1) (dy f n a) = B at *
        refine sp_X8_canJoin (fun c4 => zf' (ok0 ?_)) (fun c4 => zt' ?_)
        · exact fail fB (by unfold pDoor; rw [if_neg c1, if_neg (fun z => z c2), if_neg c3', if_pos (show mjB (dx f n a) (dy f n a) = false from decide_eq_false c4)])
        · have m : ¬ mjB (dx f n a) (dy f n a) = false := by
            intro z
            have : mjB (dx f n a) (dy f n a) = true := decide_eq_true c4
            rw [this] at z
            exact absurd z (by decide)
          rw [tM2]
          refine sp_X8_takes (S := tM' B (d3 f n a + 1)) (f := f) (n := n) (a := d3 f n a + 1) (by omega) (hT.fr fB.tm) rfl (fun c5 => zf ⟨v2, v2, fun z => absurd z (by decide), fun _ => ok1 ?_⟩) (fun c5 => zt ?_)
          · rw [tM_tM, tM55]
            have e : pDoor f n a = (true, sk f n (d3 f n a + 1), 8) := by unfold pDoor; rw [if_neg c1, if_neg (fun z => z c2), if_neg c3', if_neg m, if_neg c5]
            rw [e] at kT
            exact kT rfl
          · rw [tM_tM]
            have l5 := sk_lt (a := d3 f n a + 1) hok (by rw [c5]; decide)
            show tk_Ms mX8_readDigit [.ref 45, .int 7] (tM' B (d4 f n a)) _
            refine sp_X8_readDigit (f := f) (n := n) (a := d4 f n a) (b := 7) l5 (hT.fr fB.tm) rfl (fun c6 => ⟨v2, v2, fun _ => ok0 ?_, fun z => absurd (by decide) z⟩) (fun c6 => ⟨v2, v2, fun z => ?_, fun _ => ok1 ?_⟩)
            · rw [tM_tM, tM55]
              exact fail fB.r55 (by unfold pDoor; rw [if_neg c1, if_neg (fun z => z c2), if_neg c3', if_neg m, if_pos c5, if_neg (show ¬ (48 ≤ (chr f n (d4 f n a)).toInt ∧ (chr f n (d4 f n a)).toInt < 48 + 8) from c6)])
            · have s := sub48 (chr_or (a := d4 f n a) hok)
              have := c6.1
              rw [lt0] at z
              omega
            · rw [tM_tM, tM55]
              have e : pDoor f n a = (true, sk f n (d4 f n a) + 1, chr f n (d4 f n a) - 48) := by unfold pDoor; rw [if_neg c1, if_neg (fun z => z c2), if_neg c3', if_neg m, if_pos c5, if_pos (show 48 ≤ (chr f n (d4 f n a)).toInt ∧ (chr f n (d4 f n a)).toInt < 48 + 8 from c6)]
              rw [e] at kT
              exact kT rfl
  · have c1' : dx f n a = -1 := by
      rcases pPl_r (chr_or (a := a) hok) with z | z
      · exact z
      · have c1 : ¬ 0 ≤ dx f n a := c1
        rw [le0'] at c1
        have : (dx f n a).toInt = (pPl (chr f n a)).toInt := rfl
        omega
    rw [tM55]
    exact fail frM.refl.r55 (by unfold pDoor; rw [if_pos c1'])
