/-! VISIT: pair -/
def Pv (a b c : Int32) : Prop := (0 ≤ a.toInt ∧ a.toInt ≤ 3) ∧ (0 ≤ b.toInt ∧ b.toInt ≤ 10) ∧ 0 ≤ c.toInt ∧ c.toInt ≤ 30
theorem pr_visit {S : tS} (hI : Inv S) (a b c : Int32) : tk_Ms mX7_visit [.ref 0, .int a, .int b, .int c] S (fun x S1 => tk_Ms mX8_visit [.ref 45, .int a, .int b, .int c] S1 (fun y S2 => x = y ∧ Inv S2)) := by
  obtain ⟨n, o1, o2, lk, hg, hd, hm⟩ := hI.geo
  obtain ⟨m, h8, k1, k2, hK⟩ := hI.ring
  have v0 : vp_in 0 11 := vin (by decide) (by decide)
  have i64 : (0 : Int64).toInt ≤ c.toInt64.toInt ∧ c.toInt64.toInt ≤ (30 : Int64).toInt ↔ 0 ≤ c.toInt ∧ c.toInt ≤ 30 := by
    rw [l64]
    exact Iff.rfl
  have mB : ¬ Pv a b c → tk_Ms mX8_visit [.ref 45, .int a, .int b, .int c] S (fun y S2 => -1 = y ∧ Inv S2) := fun h =>
    w_X8_visit a b c (sp_X8_isSister (fun _ => zf (okI (by decide) ⟨rfl, hI⟩)) (fun g1 => zt (sp_X8_isPlace (fun _ => zf (okI (by decide) ⟨rfl, hI⟩)) (fun g2 => zt (sp_X8_in (fun _ => zf' (okI (by decide) ⟨rfl, hI⟩)) (fun g3 => absurd ⟨g1, g2, i64.mp g3⟩ h))))))
  refine w_X7_visit a b c (sp_X7_isSister (fun h => zf (okI (by decide) (mB (fun g => h g.1)))) (fun ha => zt (sp_X7_isPlace (fun h => zf (okI (by decide) (mB (fun g => h g.2.1)))) (fun hb => zt (sp_X7_isStay (fun h => zf' (okI (by decide) (mB (fun g => h g.2.2)))) (fun hc => zt' ?_))))))
  have eb := nI_of_t hb.1
  have tb := tn hb.1
  have hs : b.toNatClampNeg < 11 := by omega
  refine sp_X3_ring k1 h8 (fun r hr => ?_)
  generalize b.toNatClampNeg = s at eb tb hs
  subst eb
  have hP : Pv a (nI s) c := ⟨ha, hb, hc⟩
  refine sp_X6_measure (s := s) hs hg hd (fun f hf => ⟨v0, ?_⟩)
  have m8 : ∀ {T : Int32 → tS → Prop} {S1 : tS}, S1 45 = S 45 → S1 46 = S 46 → S1 47 = S 47 → S1 48 = S 48 → S1 50 = S 50 → S1 51 = S 51 → (∀ g, FinM (Ed n o1 o2 (pas r lk)) s g → (g 0 = 99 → T (-2) (tk_upR S1 56 g)) ∧ (∀ d, d ≤ 10 → g 0 = nI d → T (2 * nI d + c) (stM (tk_upR S1 56 g) c (fun i => False ∨ PL (Ed n o1 o2 (pas r lk)) s n o1 o2 lk r d 0 i)))) → tk_Ms mX8_visit [.ref 45, .int a, .int (nI s), .int c] S1 T := by
    intro T S1 q1 q2 q3 q4 q5 q6 kk
    refine w_X8_visit _ _ _ (sp_X8_isSister (fun z => absurd ha z) (fun _ => zt (sp_X8_isPlace (fun z => absurd hb z) (fun _ => zt (sp_X8_in (fun z => absurd (i64.mpr hc) z) (fun _ => zt' ?_))))))
    refine sp_X8_ringOf (n := m) (by rw [q1]; exact k2) h8 (fun ms hms => ?_)
    have hbits : ∀ l, l ≤ 8 → (bt ms l = true ↔ l = 8 ∨ bt r l = true) := ring_eq (S := S) (a := a) (q := 0) h8 hK hr (fun i hi => by
      have := hms i hi
      unfold rgM at this ⊢
      rw [q5, q6] at this
      exact this)
    refine sp_X8_findFars (ks := r) hs hg (by rw [q1, q2, q3, q4]; exact hm) hbits (fun g hg2 => ?_)
    obtain ⟨j1, j2⟩ := kk g hg2
    refine ⟨v0, fun z => ?_, fun z => okI (by decide) (j1 z)⟩
    rcases hg2 0 (by omega) with ⟨x1, _⟩ | ⟨d, d10, x1, x2⟩
    · exact absurd x1 z
    · have hd1 : dat ((tk_upR S1 56 g) 45 3) ((tk_upR S1 56 g) 46) ((tk_upR S1 56 g) 47) ((tk_upR S1 56 g) 48) n o1 o2 lk := by
        show dat (S1 45 3) (S1 46) (S1 47) (S1 48) n o1 o2 lk
        rw [q1, q2, q3, q4]
        exact hm
      have h1 := lp_X8_visit (Q := tk_okQ mX8_visit T) (S := tk_upR S1 56 g) (l1 := a) (x := c) hg hd1 hg2 hbits hs d 0 (fun _ => False) d10 (by omega) x2 (okI (by decide) (by
        show T (2 * g 0 + c) _
        rw [x1]
        exact j2 d d10 x1))
      rw [stM_0] at h1
      exact h1
  show (¬ f 0 = -1 → _) ∧ (f 0 = -1 → tk_okQ mX7_visit _ (-2) _)
  refine ⟨fun z => ?_, fun z => okI (by decide) (m8 rfl rfl rfl rfl rfl rfl (fun g hg2 => ?_))⟩
  · rcases hf 0 (by omega) with ⟨x1, _⟩ | ⟨d, d10, x1, x2⟩
    · exact absurd x1 z
    · refine w_X6_locksFromHall _ ⟨v0, ?_⟩
      show tk_Gs mX6_locksFromHall none 13 [.ref 28, .ref 1, .int r, .int 0, .int 0, .int (f 0), .null] [] (tk_upR S 29 f) _
      rw [x1]
      refine lp_X6_locks (S := tk_upR S 29 f) (n := n) (s := s) hg hd hf d 0 0 d10 (by omega) x2 (fun L hL => okI (by decide) ?_)
      refine w_X3_stain _ _ _ ?_
      have h1 := lp_X3_stain (S := tk_upR S 29 f) (m := m) (L := L) (x := c) (t := S 0 2) (Q := tk_okQ mX3_stain (fun _ S18 => tk_okQ mX7_visit (fun x S1 => tk_Ms mX8_visit [.ref 45, .int a, .int (nI s), .int c] S1 (fun y S2 => x = y ∧ Inv S2)) (2 * f 0 + c) S18)) k1 h8 (okI (by decide) (okI (by decide) ?_)) m 0 (by omega)
      · rw [stC_0 (fun i z => absurd z.1 (Nat.not_lt_zero _))] at h1
        exact h1
      · refine m8 rfl rfl rfl rfl rfl rfl (fun g hg2 => ?_)
        rcases hg2 0 (by omega) with ⟨y1, y2⟩ | ⟨d', d10', y1, y2⟩
        · exact absurd x2 (y2 d)
        · have := y2.uniq x2
          subst this
          refine ⟨fun w => absurd (y1.symm.trans w) (nI_n99 d10), fun d'' d10'' w => ?_⟩
          have e2 : d'' = d' := nI_ij (by omega) (by omega) (w.symm.trans y1)
          subst e2
          refine ⟨by rw [x1], ?_⟩
          obtain ⟨i1, i2, ⟨n', i3, i4, i5, i6⟩, i7, i8⟩ := hI
          have enm : n' = m := nI_ij (by omega) (by omega) (i4.symm.trans k1)
          subst enm
          refine ⟨i1, i2, ⟨n', i3, i4, i5, fun i hi => ?_⟩, i7, i8⟩
          obtain ⟨t1, t2, t3, t4, t5, t6, t7, t8, t9, t10, t11, t12, t13, t14, t15⟩ := i6 i hi
          have td := i7.2.1
          have etd := i7.1
          show S 49 i = S 6 i ∧ S 50 i = S 7 i ∧ S 51 i = S 8 i ∧ st1 (fun i => False ∨ PL (Ed n o1 o2 (pas r lk)) s n o1 o2 lk r d'' 0 i) (S 50) (S 52) c i = st1 (fun i => i < n' ∧ bt L i = true) (S 7) (S 9) c i ∧ (st1 (fun i => i < n' ∧ bt L i = true) (S 7) (S 9) c i ≠ 0 → st2 (fun i => False ∨ PL (Ed n o1 o2 (pas r lk)) s n o1 o2 lk r d'' 0 i) (S 50) (S 52) (S 53) c (S 45 10) i = st2 (fun i => i < n' ∧ bt L i = true) (S 7) (S 9) (S 10) c (S 0 2) i) ∧ (st1 (fun i => i < n' ∧ bt L i = true) (S 7) (S 9) c i = 0 → st2 (fun i => i < n' ∧ bt L i = true) (S 7) (S 9) (S 10) c (S 0 2) i = 0) ∧ 0 ≤ (S 6 i).toInt ∧ (S 6 i).toInt ≤ 3 ∧ (S 7 i = 0 ∨ S 7 i = 1) ∧ 0 ≤ (S 8 i).toInt ∧ (S 8 i).toInt ≤ 4 ∧ 0 ≤ (st1 (fun i => i < n' ∧ bt L i = true) (S 7) (S 9) c i).toInt ∧ (st1 (fun i => i < n' ∧ bt L i = true) (S 7) (S 9) c i).toInt ≤ 30 ∧ 0 ≤ (st2 (fun i => i < n' ∧ bt L i = true) (S 7) (S 9) (S 10) c (S 0 2) i).toInt ∧ (st2 (fun i => i < n' ∧ bt L i = true) (S 7) (S 9) (S 10) c (S 0 2) i).toInt ≤ (S 0 2).toInt
          have eqv : ((i < 8 ∧ (False ∨ PL (Ed n o1 o2 (pas r lk)) s n o1 o2 lk r d'' 0 i)) ∧ S 50 i = 1 ∧ (S 52 i).toInt < c.toInt) ↔ ((i < 8 ∧ (i < n' ∧ bt L i = true)) ∧ S 7 i = 1 ∧ (S 9 i).toInt < c.toInt) := by
            rw [t2, t4, hL i (by omega), b_0]
            constructor
            · exact fun z => ⟨⟨z.1.1, hi, Or.inr ⟨by omega, z.1.2.resolve_left id⟩⟩, z.2⟩
            · exact fun z => ⟨⟨z.1.1, Or.inr (z.1.2.2.elim (fun y => absurd y (by decide)) (fun y => y.2))⟩, z.2⟩
          by_cases hh : ((i < 8 ∧ (i < n' ∧ bt L i = true)) ∧ S 7 i = 1 ∧ (S 9 i).toInt < c.toInt)
          · rw [st1_yes (A := fun i => i < n' ∧ bt L i = true) hh, st2_yes (A := fun i => i < n' ∧ bt L i = true) hh, st1_yes (A := fun i => False ∨ PL (Ed n o1 o2 (pas r lk)) s n o1 o2 lk r d'' 0 i) (eqv.mpr hh), st2_yes (A := fun i => False ∨ PL (Ed n o1 o2 (pas r lk)) s n o1 o2 lk r d'' 0 i) (eqv.mpr hh)]
            refine ⟨t1, t2, t3, rfl, fun _ => etd, fun w => ?_, t7, t8, t9, t10, t11, hc.1, hc.2, td, Int.le_refl _⟩
            have := hh.2.2
            rw [w] at this
            simp only [Int32.reduceToInt] at this
            omega
          · rw [st1_no (A := fun i => i < n' ∧ bt L i = true) hh, st2_no (A := fun i => i < n' ∧ bt L i = true) hh, st1_no (A := fun i => False ∨ PL (Ed n o1 o2 (pas r lk)) s n o1 o2 lk r d'' 0 i) (fun w => hh (eqv.mp w)), st2_no (A := fun i => False ∨ PL (Ed n o1 o2 (pas r lk)) s n o1 o2 lk r d'' 0 i) (fun w => hh (eqv.mp w))]
            exact ⟨t1, t2, t3, t4, t5, t6, t7, t8, t9, t10, t11, t12, t13, t14, t15⟩
  · rcases hg2 0 (by omega) with ⟨y1, y2⟩ | ⟨d', d10', y1, y2⟩
    · exact ⟨fun _ => ⟨rfl, hI⟩, fun d d10 w => absurd (w.symm.trans y1) (nI_n99 d10)⟩
    · rcases hf 0 (by omega) with ⟨_, x1⟩ | ⟨d, d10, x1, x2⟩
      · exact absurd y2 (x1 d')
      · exact absurd (x1.symm.trans z) (nI_nm (by omega))
