/-! THE TWO HALVES -/
def mix (C M : tS) : tS := fun c => if c < 45 then C c else M c
theorem mix_c {C M : tS} {c : Nat} (h : c < 45) : mix C M c = C c := if_pos h
theorem mix_m {C M : tS} {c : Nat} (h : 45 ≤ c) : mix C M c = M c := if_neg (by omega)
theorem mix_self {S : tS} : mix S S = S := by
  funext c
  unfold mix
  split <;> rfl
/-- the object's and the reference's halves hold the same -/
theorem mix_HCM {C M : tS} (hI : Inv (mix C M)) : ∃ n o1 o2 lk m, HC C n o1 o2 lk m ∧ HM M n o1 o2 lk m ∧ ∀ i, i < m → M 51 i = C 8 i ∧ M 50 i = C 7 i := by
  obtain ⟨n, o1, o2, lk, hg, hd, hm⟩ := hI.geo
  obtain ⟨m, h8, k1, k2, hK⟩ := hI.ring
  exact ⟨n, o1, o2, lk, m, ⟨hg, hd, h8, k1⟩, ⟨hg, hm, h8, k2⟩, hK⟩
theorem isR_eq {C M : tS} {m : Nat} {a r r' : Int32} (hK : ∀ i, i < m → M 51 i = C 8 i ∧ M 50 i = C 7 i) (h : isR (C 8) (C 7) m a r) (h' : isR (M 51) (M 50) m a r') : r' = r := by
  refine b_ext (fun i hi => Bool.eq_iff_iff.mpr ?_)
  rw [h' i hi, h i hi]
  constructor
  · rintro ⟨y1, y2⟩
    obtain ⟨e1, e2⟩ := hK i y1
    rw [e1, e2] at y2
    exact ⟨y1, y2⟩
  · rintro ⟨y1, y2⟩
    obtain ⟨e1, e2⟩ := hK i y1
    rw [← e1, ← e2] at y2
    exact ⟨y1, y2⟩
theorem pure_visit {C M C' M' : tS} {n m : Nat} {o1 o2 lk : Nat → Nat} {a b c x y : Int32} (hI : Inv (mix C M)) (hm : C 5 0 = nI m) (h8 : m ≤ 8) (hK : ∀ i, i < m → M 51 i = C 8 i ∧ M 50 i = C 7 i) (h1 : RVC C n o1 o2 lk m a b c x C') (h2 : RVM M n o1 o2 lk m a b c y M') : x = y ∧ Inv (mix C' M') := by
  rcases h1 with ⟨p1, x1, e1⟩ | ⟨p1, r, f, hr, h1⟩
  · rcases h2 with ⟨p2, x2, e2⟩ | ⟨p2, _⟩
    · subst e1; subst e2
      exact ⟨x1.trans x2.symm, hI⟩
    · exact absurd p2 p1
  · rcases h2 with ⟨p2, _⟩ | ⟨p2, r', g, hr', h2⟩
    · exact absurd p1 p2
    · have er := isR_eq hK hr hr'
      subst er
      rcases h1 with ⟨q1, x1, e1⟩ | ⟨d, d10, q1, x1, e1⟩
      · rcases h2 with ⟨q2, x2, e2⟩ | ⟨d', d10', q2, x2, e2⟩
        · subst e1; subst e2
          exact ⟨x1.trans x2.symm, hI⟩
        · exact absurd q2 (q1 d')
      · rcases h2 with ⟨q2, x2, e2⟩ | ⟨d', d10', q2, x2, e2⟩
        · exact absurd q1 (q2 d)
        · have := q2.uniq q1
          subst this
          refine ⟨x1.trans x2.symm, ?_⟩
          subst e1; subst e2
          obtain ⟨i1, i2, ⟨n', i3, i4, i5, i6⟩, i7, i8⟩ := hI
          have enm : n' = m := nI_ij (by omega) (by omega) (i4.symm.trans hm)
          subst enm
          have hc := p1.2.2
          refine ⟨i1, i2, ⟨n', i3, i4, i5, fun i hi => ?_⟩, i7, i8⟩
          obtain ⟨t1, t2, t3, t4, t5, t6, t7, t8, t9, t10, t11, t12, t13, t14, t15⟩ := i6 i hi
          have td : 0 ≤ (C 0 2).toInt := i7.2.1
          have etd : M 45 10 = C 0 2 := i7.1
          have t1 : M 49 i = C 6 i := t1
          have t2 : M 50 i = C 7 i := t2
          have t4 : M 52 i = C 9 i := t4
          have t5 : C 9 i ≠ 0 → M 53 i = C 10 i := t5
          have t6 : C 9 i = 0 → C 10 i = 0 := t6
          generalize hA : (fun i => i < n' ∧ PL (vE n o1 o2 lk r') b.toNatClampNeg n o1 o2 lk r' d' 0 i) = A
          generalize hB : (fun i => PL (vE n o1 o2 lk r') b.toNatClampNeg n o1 o2 lk r' d' 0 i) = B
          show M 49 i = C 6 i ∧ M 50 i = C 7 i ∧ M 51 i = C 8 i ∧ st1 B (M 50) (M 52) c i = st1 A (C 7) (C 9) c i ∧ (st1 A (C 7) (C 9) c i ≠ 0 → st2 B (M 50) (M 52) (M 53) c (M 45 10) i = st2 A (C 7) (C 9) (C 10) c (C 0 2) i) ∧ (st1 A (C 7) (C 9) c i = 0 → st2 A (C 7) (C 9) (C 10) c (C 0 2) i = 0) ∧ 0 ≤ (C 6 i).toInt ∧ (C 6 i).toInt ≤ 3 ∧ (C 7 i = 0 ∨ C 7 i = 1) ∧ 0 ≤ (C 8 i).toInt ∧ (C 8 i).toInt ≤ 4 ∧ 0 ≤ (st1 A (C 7) (C 9) c i).toInt ∧ (st1 A (C 7) (C 9) c i).toInt ≤ 30 ∧ 0 ≤ (st2 A (C 7) (C 9) (C 10) c (C 0 2) i).toInt ∧ (st2 A (C 7) (C 9) (C 10) c (C 0 2) i).toInt ≤ (C 0 2).toInt
          have eqv : ((i < 8 ∧ B i) ∧ M 50 i = 1 ∧ (M 52 i).toInt < c.toInt) ↔ ((i < 8 ∧ A i) ∧ C 7 i = 1 ∧ (C 9 i).toInt < c.toInt) := by
            rw [t2, t4, ← hA, ← hB]
            exact ⟨fun z => ⟨⟨z.1.1, hi, z.1.2⟩, z.2⟩, fun z => ⟨⟨z.1.1, z.1.2.2⟩, z.2⟩⟩
          by_cases hh : ((i < 8 ∧ A i) ∧ C 7 i = 1 ∧ (C 9 i).toInt < c.toInt)
          · rw [st1_yes hh, st2_yes hh, st1_yes (eqv.mpr hh), st2_yes (eqv.mpr hh)]
            refine ⟨t1, t2, t3, rfl, fun _ => etd, fun w => ?_, t7, t8, t9, t10, t11, hc.1, hc.2, td, Int.le_refl _⟩
            have h9 := hh.2.2
            have t12 : 0 ≤ (C 9 i).toInt := t12
            rw [w] at h9
            simp only [Int32.reduceToInt] at h9
            omega
          · rw [st1_no hh, st2_no hh, st1_no (fun w => hh (eqv.mp w)), st2_no (fun w => hh (eqv.mp w))]
            exact ⟨t1, t2, t3, t4, t5, t6, t7, t8, t9, t10, t11, t12, t13, t14, t15⟩
