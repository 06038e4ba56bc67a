/-! FITS: both -/
theorem b255_511 : ∀ l, l ≤ 8 → (bt 511 l = true ↔ l = 8 ∨ bt 255 l = true) := by decide +kernel
def Pf (a b c : Int32) : Prop := (-1 ≤ a.toInt ∧ a.toInt ≤ 16) ∧ (-1 ≤ b.toInt ∧ b.toInt ≤ 8) ∧ (-1 ≤ c.toInt ∧ c.toInt ≤ 10) ∧ ¬ c = 0
theorem fit_cong {f g h f' g' h' w w' : Nat → Int32} {n : Nat} {a b c : Int32} {p : Nat} (e : ∀ i, i < n → f' i = f i ∧ g' i = g i ∧ h' i = h i) (hc : Pf a b c) (hw : (w p = -1 ∧ w' p = 99) ∨ ∃ d, d ≤ 10 ∧ w p = nI d ∧ w' p = nI d) : fitP f g h w n a b c p ↔ fitP f' g' h' w' n a b c p := by
  have e1 : cnt (fun i => decide (f i = nI p ∨ g i = nI p)) n = cnt (fun i => decide (f' i = nI p ∨ g' i = nI p)) n := cnt_cong (fun i hi => by
    obtain ⟨x1, x2, _⟩ := e i hi
    show decide (f i = nI p ∨ g i = nI p) = decide (f' i = nI p ∨ g' i = nI p)
    rw [x1, x2])
  have e2 : lkAt f g h (nI p) b n ↔ lkAt f' g' h' (nI p) b n := by
    constructor
    · rintro ⟨d, h1, h2, h3⟩
      obtain ⟨x1, x2, x3⟩ := e d h1
      exact ⟨d, h1, by rw [x1, x2]; exact h2, by rw [x3]; exact h3⟩
    · rintro ⟨d, h1, h2, h3⟩
      obtain ⟨x1, x2, x3⟩ := e d h1
      rw [x1, x2] at h2
      rw [x3] at h3
      exact ⟨d, h1, h2, h3⟩
  have e3 : (c = -1 ∨ w p = c) ↔ (c = -1 ∨ w' p = c) := by
    rcases hw with ⟨x1, x2⟩ | ⟨d, _, x1, x2⟩
    · rw [x1, x2]
      constructor
      · exact fun z => z.elim Or.inl (fun z => Or.inl z.symm)
      · refine fun z => z.elim Or.inl (fun z => ?_)
        have := hc.2.2.1.2
        rw [← z] at this
        exact absurd this (by decide)
    · rw [x1, x2]
  unfold fitP
  rw [e1, e2, e3]
theorem pr_fits {S : tS} (hI : Inv S) (a b c : Int32) : tk_Ms mX7_fits [.ref 0, .int a, .int b, .int c] S (fun x S1 => tk_Ms mX8_fits [.ref 45, .int a, .int b, .int c] S1 (fun y S2 => x = y ∧ Inv S2)) := by
  obtain ⟨n, o1, o2, lk, hg, hd, hm⟩ := hI.geo
  have same : ∀ i, i < n → S 46 i = S 2 i ∧ S 47 i = S 3 i ∧ S 48 i = S 4 i := fun i hi => by
    obtain ⟨x1, x2, x3⟩ := hd.2 i (Or.inl hi)
    obtain ⟨y1, y2, y3⟩ := hm.2 i (Or.inl hi)
    exact ⟨y1.trans x1.symm, y2.trans x2.symm, y3.trans x3.symm⟩
  have i64 : ∀ {x : Int32} {lo hi : Int64}, (lo.toInt ≤ x.toInt64.toInt ∧ x.toInt64.toInt ≤ hi.toInt) = (lo.toInt ≤ x.toInt ∧ x.toInt ≤ hi.toInt) := fun {x lo hi} => by rw [l64]
  have c1 : (-1 : Int64).toInt = -1 := by decide
  have c16 : (16 : Int64).toInt = 16 := by decide
  have c8 : (8 : Int64).toInt = 8 := by decide
  have c10 : (10 : Int64).toInt = 10 := by decide
  have mB : ¬ Pf a b c → tk_Ms mX8_fits [.ref 45, .int a, .int b, .int c] S (fun y S2 => -1 = y ∧ Inv S2) := fun h => by
    refine w_X8_fits a b c (sp_X8_in (fun _ => zf (okI (by decide) ⟨rfl, hI⟩)) (fun g1 => zt (sp_X8_in (fun _ => zf (okI (by decide) ⟨rfl, hI⟩)) (fun g2 => zt (sp_X8_in (fun _ => zf (okI (by decide) ⟨rfl, hI⟩)) (fun g3 => zt ⟨fun z => absurd ⟨?_, ?_, ?_, z⟩ h, fun _ => okI (by decide) ⟨rfl, hI⟩⟩))))))
    · rw [i64, c1, c16] at g1; exact g1
    · rw [i64, c1, c8] at g2; exact g2
    · rw [i64, c1, c10] at g3; exact g3
  have m8 : ∀ {f : Nat → Int32} {r : Int32}, Pf a b c → FinC (Ed n o1 o2 (pas 255 lk)) 0 f → (∀ i, i < 32 → (bt r i = true ↔ (1 ≤ i ∧ i < 10) ∧ fitP (S 2) (S 3) (S 4) f n a b c i)) → tk_Ms mX8_fits [.ref 45, .int a, .int b, .int c] (tk_upR S 29 f) (fun y S2 => r = y ∧ Inv S2) := by
    intro f r hP hf hr
    refine w_X8_fits a b c (sp_X8_in (fun z => absurd ?_ z) (fun _ => zt (sp_X8_in (fun z => absurd ?_ z) (fun _ => zt (sp_X8_in (fun z => absurd ?_ z) (fun _ => zt ⟨fun _ => ?_, fun z => absurd z hP.2.2.2⟩))))))
    · rw [i64, c1, c16]; exact hP.1
    · rw [i64, c1, c8]; exact hP.2.1
    · rw [i64, c1, c10]; exact hP.2.2.1
    · refine sp_X8_findFars (s := 0) (ks := 255) (by omega) hg hm b255_511 (fun g hg2 => ?_)
      refine lp_X8_fits (Q := tk_okQ mX8_fits (fun y S2 => r = y ∧ Inv S2)) (S := tk_upR (tk_upR S 29 f) 56 g) (n := n) hP.1.1 hP.2.1.1 hP.2.2.1.1 hm.1 hg.1 (fun r' hr' => okI (by decide) ⟨b_ext (fun i hi => Bool.eq_iff_iff.mpr ?_), hI⟩) 9 1 0 rfl (Nat.le_refl _) (fun i _ => ?_)
      · rw [hr i hi, hr' i hi]
        show (1 ≤ i ∧ i < 10) ∧ fitP (S 2) (S 3) (S 4) f n a b c i ↔ (1 ≤ i ∧ i < 10) ∧ fitP (S 46) (S 47) (S 48) g n a b c i
        constructor
        · exact fun z => ⟨z.1, (fit_cong same hP (finEq' (by omega) hf hg2)).mp z.2⟩
        · exact fun z => ⟨z.1, (fit_cong same hP (finEq' (by omega) hf hg2)).mpr z.2⟩
      · rw [b_0]
        exact ⟨fun z => absurd z (by decide), fun z => absurd z.1 (by omega)⟩
  have t1 : ∀ {x : Int32}, x < -1 ↔ x.toInt < -1 := fun {x} => by rw [xlt]; rfl
  refine w_X7_fits a b c ⟨fun z => w_X7_fits_22 _ _ _ (okI (by decide) (mB (fun g => ?_))), fun z1 => ⟨fun z => w_X7_fits_22 _ _ _ (okI (by decide) (mB (fun g => ?_))), fun z2 => ⟨fun z => w_X7_fits_22 _ _ _ (okI (by decide) (mB (fun g => ?_))), fun z3 => ⟨fun z4 => ⟨fun z => w_X7_fits_39 _ _ _ (okI (by decide) (mB (fun g => ?_))), fun z5 => ⟨fun z => w_X7_fits_39 _ _ _ (okI (by decide) (mB (fun g => g.2.2.2 z))), fun z6 => ⟨fun z7 => ?_, fun z => w_X7_fits_39 _ _ _ (okI (by decide) (mB (fun g => ?_)))⟩⟩⟩, fun z => w_X7_fits_22 _ _ _ (okI (by decide) (mB (fun g => ?_)))⟩⟩⟩⟩
  · have := g.1.1; rw [t1] at z; omega
  · have := g.1.2; rw [xlt] at z; simp only [Int32.reduceToInt] at z; omega
  · have := g.2.1.1; rw [t1] at z; omega
  · have := g.2.2.1.1; rw [t1] at z; omega
  · have hP : Pf a b c := by
      rw [t1] at z1 z3 z5
      rw [xlt] at z2 z7
      rw [xle] at z4
      simp only [Int32.reduceToInt] at z2 z7 z4
      exact ⟨by omega, by omega, by omega, z6⟩
    refine sp_X6_measure (s := 0) (by omega) hg hd (fun f hf => ?_)
    refine lp_X7_fits (Q := tk_okQ mX7_fits (fun x S1 => tk_Ms mX8_fits [.ref 45, .int a, .int b, .int c] S1 (fun y S2 => x = y ∧ Inv S2))) (S := tk_upR S 29 f) (n := n) hd.1 hg.1 (fun r hr => okI (by decide) (m8 hP hf hr)) 9 1 0 rfl (Nat.le_refl _) (fun i _ => ?_)
    rw [b_0]
    exact ⟨fun z => absurd z (by decide), fun z => absurd z.1 (by omega)⟩
  · have := g.2.2.1.2; rw [xlt] at z; simp only [Int32.reduceToInt] at z; omega
  · have := g.2.1.2; rw [xle] at z; simp only [Int32.reduceToInt] at z; omega
