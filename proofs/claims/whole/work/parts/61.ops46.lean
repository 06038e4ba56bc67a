/-! THE REFERENCE READS A WEEK -/
def RW (f : Nat → Int32) (n m : Nat) (T : tS) (k : Nat) : Prop := ∀ i, i < k → T 55 (4 * i) = chr f n (wP f n m i) ∧ sameA (chr f n (wP f n m i)) (pA f n m (wP f n m i)).2.2.1 (pA f n m (wP f n m i)).2.2.2.1 (pA f n m (wP f n m i)).2.2.2.2 (T 55 (4 * i + 1)) (T 55 (4 * i + 2)) (T 55 (4 * i + 3))
theorem RW.e {f : Nat → Int32} {n m : Nat} {T U : tS} {k : Nat} (h : RW f n m T k) (e : U 55 = T 55) : RW f n m U k := by
  unfold RW
  rw [e]
  exact h
theorem lp_X8_readWeek {Q : Int32 → tS → Prop} {f : Nat → Int32} {n m : Nat} {S : tS} (hT : TpM f n S) (h8 : m ≤ 8) (hm : S 45 9 = nI m) (r : Bool × Nat × Nat) (kF : ∀ T b, frH S T → T 45 13 = nI b → b ≤ n → sk f n b = r.2.1 → r.1 = false → Q 0 T) (kT : ∀ T, frH S T → r.1 = true → T 45 14 = nI r.2.2 → r.2.2 ≤ 81 → RW f n m T r.2.2 → Q 1 T) : ∀ (q k : Nat) (T : tS), q + k = 160 → 0 < q → 2 * k ≤ wP f n m k → r = pW f n m q k → frH S T → T 45 13 = nI (wP f n m k) → wP f n m k ≤ n → T 45 14 = nI k → RW f n m T k → tk_Gs mX8_readWeek none 12 [.ref 45, .int 1] [] T Q := by
  have n160 := hT.1
  have hok := hT.ok
  intro q
  induction q with
  | zero => exact fun _ _ _ h => absurd h (Nat.lt_irrefl 0)
  | succ q ih =>
    intro k T e _ h2k er hfr hat hle h14 hRW
    obtain ⟨hd, hgt⟩ := pA_le (m := m) hok hle
    have hwp := wP_ge (m := m) (k := k) hok hle
    have hw1 : wP f n m (k + 1) = sk f n (pA f n m (wP f n m k)).2.1 + 1 := rfl
    have e4 : (4 : Int32) * nI k = nI (4 * k) := pk_mul 4 _
    have er' : r = (if (pA f n m (wP f n m k)).1 = false then (false, sk f n (pA f n m (wP f n m k)).2.1, k) else if chr f n (pA f n m (wP f n m k)).2.1 = 59 then pW f n m q (k + 1) else if chr f n (pA f n m (wP f n m k)).2.1 = -1 then (true, sk f n (pA f n m (wP f n m k)).2.1, k + 1) else (false, sk f n (pA f n m (wP f n m k)).2.1, k + 1)) := er
    refine w_X8_readWeek_12 _ (zt ?_)
    rw [h14, e4]
    refine sp_X8_readAct hle (hT.frh hfr) hat (by omega) h8 ((hfr.2 9 (by decide) (by decide)).trans hm) (fun U h1 h3 h4 => zf' ?_) (fun U h1 h3 h4 h5 h6 h7 => zt' ?_)
    · rw [if_pos h4] at er'
      exact kF U _ (hfr.m h1) h3 hd (by rw [er']) (by rw [er'])
    · rw [if_neg (by rw [h4]; decide)] at er'
      have u14 : U 45 14 = nI k := (h1.2 14 (by decide)).trans h14
      rw [u14, nI_1]
      have g1 : frH S (tk_up U 45 14 (nI (k + 1))) := (hfr.m h1).r
      have g2 : (tk_up U 45 14 (nI (k + 1))) 45 13 = nI (pA f n m (wP f n m k)).2.1 := (tk_up_sn (by decide)).trans h3
      have g4 : (tk_up U 45 14 (nI (k + 1))) 45 14 = nI (k + 1) := tk_up_ss
      have g3 : RW f n m (tk_up U 45 14 (nI (k + 1))) (k + 1) := by
        refine RW.e (T := U) (fun i hi => ?_) (tk_up_n (by decide))
        by_cases ei : i = k
        · subst ei
          exact ⟨h5, h7⟩
        · obtain ⟨y1, y2⟩ := hRW i (by omega)
          rw [h6 (4 * i) (by omega), h6 (4 * i + 1) (by omega), h6 (4 * i + 2) (by omega), h6 (4 * i + 3) (by omega)]
          exact ⟨y1, y2⟩
      generalize tk_up U 45 14 (nI (k + 1)) = V at g1 g2 g3 g4 ⊢
      generalize hD : (pA f n m (wP f n m k)).2.1 = b at *
      refine sp_X8_takes hd (hT.frh g1) g2 (fun y => ?_) (fun y => ?_)
      · rw [if_neg y] at er'
        have gm : frH S (tM' V (sk f n b)) := g1.m frM.refl.tm
        refine w_X8_readWeek_12 _ (zf (sp_X8_nextByte (f := f) (n := n) (a := sk f n b) (sk_n hd) (hT.frh gm) tM_at ⟨fun z => ?_, fun z => ?_⟩))
        · rw [chr_i hd] at z
          have z' : ¬ chr f n b = -1 := fun w => by rw [w] at z; exact absurd z (by decide)
          rw [if_neg z'] at er'
          rw [sk_i hd]
          exact kF _ (sk f n b) (gm.m frM.refl.tm) tM_at (sk_n hd) (by rw [er']; exact sk_i hd) (by rw [er'])
        · rw [chr_i hd] at z
          have z' : chr f n b = -1 := by
            rcases chr_ok (a := b) hok with w | w
            · exact w.1
            · rw [le0'] at z
              have := w.1.1
              omega
          rw [if_pos z'] at er'
          rw [sk_i hd]
          exact kT _ (gm.m frM.refl.tm) (by rw [er']) (by rw [er', tM_14, tM_14]; exact g4) (by rw [er']; show k + 1 ≤ 81; omega) (by rw [er']; exact (g3.e tM_55).e tM_55)
      · rw [if_pos y] at er'
        have lt := sk_lt (a := b) hok (by rw [y]; decide)
        have h5' := hwp h4
        exact ih (k + 1) (tM' V (sk f n b + 1)) (by omega) (by omega) (by omega) er' (g1.m frM.refl.tm) (by rw [hw1]; exact tM_at) (by omega) (by rw [tM_14]; exact g4) (g3.e tM_55)
