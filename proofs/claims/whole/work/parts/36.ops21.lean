/-! SEEN, REACH -/
theorem finEq {E : Nat → Nat → Prop} (hE : ∀ a b, E a b → E b a) {s t : Nat} {f g : Nat → Int32} (hs : s < 11) (ht : t < 11) (hf : FinC E t f) (hg : FinM E s g) : (f s = -1 ∧ g t = 99) ∨ ∃ d, d ≤ 10 ∧ f s = nI d ∧ g t = nI d := by
  rcases hf s hs with ⟨h1, h2⟩ | ⟨d, d10, h1, h2⟩
  · rcases hg t ht with ⟨g1, g2⟩ | ⟨e, e10, g1, g2⟩
    · exact Or.inl ⟨h1, g1⟩
    · exact absurd (g2.symm hE) (h2 e)
  · rcases hg t ht with ⟨g1, g2⟩ | ⟨e, e10, g1, g2⟩
    · exact absurd (h2.symm hE) (g2 d)
    · have := (g2.symm hE).uniq h2
      subst this
      exact Or.inr ⟨e, e10, h1, g1⟩
theorem finEq' {E : Nat → Nat → Prop} {s p : Nat} {f g : Nat → Int32} (hp : p < 11) (hf : FinC E s f) (hg : FinM E s g) : (f p = -1 ∧ g p = 99) ∨ ∃ d, d ≤ 10 ∧ f p = nI d ∧ g p = nI d := by
  rcases hf p hp with ⟨h1, h2⟩ | ⟨d, d10, h1, h2⟩
  · rcases hg p hp with ⟨g1, g2⟩ | ⟨e, e10, g1, g2⟩
    · exact Or.inl ⟨h1, g1⟩
    · exact absurd g2 (h2 e)
  · rcases hg p hp with ⟨g1, g2⟩ | ⟨e, e10, g1, g2⟩
    · exact absurd h2 (g2 d)
    · have := g2.uniq h2
      subst this
      exact Or.inr ⟨e, e10, h1, g1⟩
theorem nI_n99 {d : Nat} (h : d ≤ 10) : nI d ≠ 99 := fun e => by
  have := nI_ij (a := d) (b := 99) (by omega) (by omega) e
  omega
theorem Inv.ring {S : tS} (hI : Inv S) : ∃ n, n ≤ 8 ∧ S 5 0 = nI n ∧ S 45 9 = nI n ∧ ∀ i, i < n → S 51 i = S 8 i ∧ S 50 i = S 7 i := by
  obtain ⟨n, hn, e1, e2, hK⟩ := hI.keys
  exact ⟨n, hn, e1, e2, fun i hi => ⟨(hK i hi).2.2.1, (hK i hi).2.1⟩⟩
def Pn (a b c : Int32) : Prop := (0 ≤ a.toInt ∧ a.toInt ≤ 3) ∧ (0 ≤ b.toInt ∧ b.toInt ≤ 10) ∧ 0 ≤ c.toInt ∧ c.toInt ≤ 1
theorem pr_seen {S : tS} (hI : Inv S) (a b c : Int32) : tk_Ms mX7_seen [.ref 0, .int a, .int b, .int c] S (fun x S1 => tk_Ms mX8_seen [.ref 45, .int a, .int b, .int c] S1 (fun y S2 => x = y ∧ Inv S2)) := by
  obtain ⟨n, o1, o2, lk, hg, hd, hm⟩ := hI.geo
  obtain ⟨m, h8, k1, k2, hK⟩ := hI.ring
  have mB : ¬ Pn a b c → tk_Ms mX8_seen [.ref 45, .int a, .int b, .int c] S (fun y S2 => -1 = y ∧ Inv S2) := fun h =>
    w_X8_seen a b c (sp_X8_isSister (fun _ => zf (okI (by decide) ⟨rfl, hI⟩)) (fun g1 => zt (sp_X8_isPlace (fun _ => zf (okI (by decide) ⟨rfl, hI⟩)) (fun g2 => zt (sp_X8_in (fun _ => zf' (okI (by decide) ⟨rfl, hI⟩)) (fun g3 => absurd ⟨g1, g2, by simpa only [l64, Int64.reduceToInt] using g3⟩ h))))))
  have main : ∀ q, (0 ≤ a.toInt ∧ a.toInt ≤ 3) → (0 ≤ b.toInt ∧ b.toInt ≤ 10) → (0 ≤ c.toInt ∧ c.toInt ≤ 1) → ((q = 0 ∧ ¬ c = 1) ∨ (q = 1 ∧ c = 1)) → tk_Ms mX3_ring [.ref 5, .int a, .int q] S (fun x10 S11 => tk_Ms mX6_measure [.ref 28, .ref 1, .int 0, .int x10] S11 (fun _ S13 => vp_in b 11 ∧ ((¬ (S13 29 b.toNatClampNeg) = (-1) → (tk_okQ mX7_seen (fun x S1 => tk_Ms mX8_seen [.ref 45, .int a, .int b, .int c] S1 (fun y S2 => x = y ∧ Inv S2))) (2 * (S13 29 b.toNatClampNeg)) S13) ∧ ((S13 29 b.toNatClampNeg) = (-1) → (tk_okQ mX7_seen (fun x S1 => tk_Ms mX8_seen [.ref 45, .int a, .int b, .int c] S1 (fun y S2 => x = y ∧ Inv S2))) (-4) S13)))) := by
    intro q ha hb hc hq
    have eb := nI_of_t hb.1
    have tb := tn hb.1
    have hbn : b.toNatClampNeg < 11 := by omega
    refine sp_X3_ring k1 h8 (fun r hr => ?_)
    refine sp_X6_measure (s := 0) (by omega) hg hd (fun f hf => ⟨vin hb.1 (by omega), ?_⟩)
    have m8 : ∀ {T : Int32 → tS → Prop}, (∀ g, FinM (Ed n o1 o2 (pas r lk)) b.toNatClampNeg g → (¬ g 0 = 99 → T (2 * g 0) (tk_upR (tk_upR S 29 f) 56 g)) ∧ (g 0 = 99 → T (-4) (tk_upR (tk_upR S 29 f) 56 g))) → tk_Ms mX8_seen [.ref 45, .int a, .int b, .int c] (tk_upR S 29 f) T := by
      intro T kk
      have in1 : tk_Ms mX8_ringOf [.ref 45, .int a, .int q] (tk_upR S 29 f) (fun x11 S12 => tk_Ms mX8_findFars [.ref 45, .int b, .int x11] S12 (fun _ S14 => vp_in 0 11 ∧ ((¬ (S14 56 0) = 99 → (vp_in 0 11 ∧ (tk_okQ mX8_seen T) (2 * (S14 56 0)) S14)) ∧ ((S14 56 0) = 99 → (tk_okQ mX8_seen T) (-4) S14)))) := by
        refine sp_X8_ringOf (n := m) k2 h8 (fun ms hms => ?_)
        rw [eb]
        refine sp_X8_findFars (ks := r) hbn hg hm (ring_eq h8 hK hr hms) (fun g hg2 => ?_)
        obtain ⟨j1, j2⟩ := kk g hg2
        have v0 : vp_in 0 11 := vin (by decide) (by decide)
        exact ⟨v0, fun z => ⟨v0, okI (by decide) (j1 z)⟩, fun z => okI (by decide) (j2 z)⟩
      refine w_X8_seen a b c (sp_X8_isSister (fun z => absurd ha z) (fun _ => zt (sp_X8_isPlace (fun z => absurd hb z) (fun _ => zt (sp_X8_in (fun z => absurd (by simpa only [l64, Int64.reduceToInt] using hc) z) (fun _ => zt' ?_))))))
      rcases hq with ⟨q0, q1⟩ | ⟨q0, q1⟩
      · subst q0
        exact ⟨fun _ => in1, fun z => absurd z q1⟩
      · subst q0
        exact ⟨fun z => absurd q1 z, fun _ => in1⟩
    show (¬ f b.toNatClampNeg = -1 → tk_okQ mX7_seen _ (2 * f b.toNatClampNeg) (tk_upR S 29 f)) ∧ (f b.toNatClampNeg = -1 → tk_okQ mX7_seen _ (-4) (tk_upR S 29 f))
    refine ⟨fun z => okI (by decide) (m8 (fun g hg2 => ?_)), fun z => okI (by decide) (m8 (fun g hg2 => ?_))⟩
    · rcases finEq Ed.symm hbn (by omega) hf hg2 with ⟨x1, x2⟩ | ⟨d, d10, x1, x2⟩
      · exact absurd x1 z
      · exact ⟨fun _ => ⟨by rw [x1, x2], hI⟩, fun y => absurd (x2.symm.trans y) (nI_n99 d10)⟩
    · rcases finEq Ed.symm hbn (by omega) hf hg2 with ⟨x1, x2⟩ | ⟨d, d10, x1, x2⟩
      · exact ⟨fun y => absurd x2 y, fun _ => ⟨rfl, hI⟩⟩
      · exact absurd (x1.symm.trans z) (nI_nm (by omega))
  refine w_X7_seen a b c (sp_X7_isSister (fun h => zf (okI (by decide) (mB (fun g => h g.1)))) (fun ha => zt (sp_X7_isPlace (fun h => zf (okI (by decide) (mB (fun g => h g.2.1)))) (fun hb => zt ⟨fun z => okI (by decide) (mB (fun g => ?_)), fun z => ⟨fun w => ⟨fun y => main 0 ha hb ?_ (Or.inl ⟨rfl, y⟩), fun y => main 1 ha hb ?_ (Or.inr ⟨rfl, y⟩)⟩, fun w => okI (by decide) (mB (fun g => ?_))⟩⟩))))
  · have := g.2.2
    rw [lt0] at z
    omega
  · rw [lt0] at z
    rw [xle] at w
    simp only [Int32.reduceToInt] at w
    omega
  · rw [y]; decide
  · have := g.2.2
    rw [xle] at w
    simp only [Int32.reduceToInt] at w
    omega
theorem sh1 : ∀ n, n ≤ 8 → (1 : Int32) <<< (nI n &&& 31) = nI (2 ^ n) ∧ 2 ^ n ≤ 256 := by decide +kernel
theorem lp_X7_reach {Q : Int32 → tS → Prop} {S : tS} {a : Int32} (k : ∀ r, (∀ i, i < 32 → (bt r i = true ↔ i < 11 ∧ S 29 i ≠ -1)) → Q r S) : ∀ (m j : Nat) (r : Int32), j + m = 11 → (∀ i, i < 32 → (bt r i = true ↔ i < j ∧ S 29 i ≠ -1)) → tk_Gs mX7_reach none 36 [.ref 0, .int a, .int r, .int (nI j)] [] S Q
  | 0, j, r, e, h => by
    have e : j = 11 := e
    subst e
    exact w_X7_reach_36 _ _ _ ⟨fun _ => k r h, fun c => absurd (by decide) c⟩
  | m + 1, j, r, e, h => by
    have cj : (nI j).toNatClampNeg = j := nI_c (by omega)
    refine w_X7_reach_36 _ _ _ ⟨fun c => absurd c (nI_ge (a := j) (b := 11) (by omega) (by omega)), fun _ => ⟨vp_in_nI (by omega) (by omega), fun c => ?_, fun c => ?_⟩⟩
    · rw [cj] at c
      rw [nI_1]
      refine lp_X7_reach k m (j + 1) r (by omega) (fun i hi => ?_)
      rw [h i hi]
      by_cases ei : i = j
      · subst ei
        exact ⟨fun z => absurd z.1 (by omega), fun z => absurd c z.2⟩
      · exact ⟨fun z => ⟨by omega, z.2⟩, fun z => ⟨by omega, z.2⟩⟩
    · rw [cj] at c
      rw [nI_1]
      refine lp_X7_reach k m (j + 1) _ (by omega) (fun i hi => ?_)
      rw [orbit r (by omega) hi, Bool.or_eq_true, decide_eq_true_eq, h i hi]
      by_cases ei : i = j
      · subst ei
        exact ⟨fun _ => ⟨by omega, c⟩, fun _ => Or.inr rfl⟩
      · exact ⟨fun z => z.elim (fun z => ⟨by omega, z.2⟩) (fun z => absurd z ei), fun z => Or.inl ⟨by omega, z.2⟩⟩
theorem lp_X8_reach {Q : Int32 → tS → Prop} {S : tS} {a : Int32} (k : ∀ r, (∀ i, i < 32 → (bt r i = true ↔ i < 11 ∧ ¬ 99 ≤ S 56 i)) → Q r S) : ∀ (m j : Nat) (r : Int32), j + m = 11 → (∀ i, i < 32 → (bt r i = true ↔ i < j ∧ ¬ 99 ≤ S 56 i)) → tk_Gs mX8_reach none 34 [.ref 45, .int a, .int r, .int (nI j)] [] S Q
  | 0, j, r, e, h => by
    have e : j = 11 := e
    subst e
    exact w_X8_reach_34 _ _ _ ⟨fun _ => k r h, fun c => absurd (by decide) c⟩
  | m + 1, j, r, e, h => by
    have cj : (nI j).toNatClampNeg = j := nI_c (by omega)
    refine w_X8_reach_34 _ _ _ ⟨fun c => absurd c (nI_ge (a := j) (b := 11) (by omega) (by omega)), fun _ => ⟨vp_in_nI (by omega) (by omega), fun c => ?_, fun c => ?_⟩⟩
    · rw [cj] at c
      rw [nI_1, or0]
      refine lp_X8_reach k m (j + 1) r (by omega) (fun i hi => ?_)
      rw [h i hi]
      by_cases ei : i = j
      · subst ei
        exact ⟨fun z => absurd z.1 (by omega), fun z => absurd c z.2⟩
      · exact ⟨fun z => ⟨by omega, z.2⟩, fun z => ⟨by omega, z.2⟩⟩
    · rw [cj] at c
      rw [nI_1]
      refine lp_X8_reach k m (j + 1) _ (by omega) (fun i hi => ?_)
      rw [orbit r (by omega) hi, Bool.or_eq_true, decide_eq_true_eq, h i hi]
      by_cases ei : i = j
      · subst ei
        exact ⟨fun _ => ⟨by omega, c⟩, fun _ => Or.inr rfl⟩
      · exact ⟨fun z => z.elim (fun z => ⟨by omega, z.2⟩) (fun z => absurd z ei), fun z => Or.inl ⟨by omega, z.2⟩⟩
theorem bits0 {P : Nat → Prop} : ∀ i, i < 32 → (bt 0 i = true ↔ i < 0 ∧ P i) := fun i _ => by
  rw [b_0]
  exact ⟨fun z => absurd z (by decide), fun z => absurd z.1 (Nat.not_lt_zero _)⟩
theorem pr_reach {S : tS} (hI : Inv S) (a : Int32) : tk_Ms mX7_reach [.ref 0, .int a] S (fun x S1 => tk_Ms mX8_reach [.ref 45, .int a] S1 (fun y S2 => x = y ∧ Inv S2)) := by
  obtain ⟨n, o1, o2, lk, hg, hd, hm⟩ := hI.geo
  obtain ⟨m, h8, k1, k2, hK⟩ := hI.ring
  obtain ⟨s1, s2⟩ := sh1 m h8
  have sp : 1 ≤ 2 ^ m := Nat.one_le_two_pow
  have e1 : nI (2 ^ m) - 1 = nI (2 ^ m - 1) := pk_sub (b := 1) sp
  have mB : ¬ (0 ≤ a.toInt ∧ a.toInt < (2 ^ m : Nat)) → tk_Ms mX8_reach [.ref 45, .int a] S (fun y S2 => -1 = y ∧ Inv S2) := fun h => by
    refine w_X8_reach a ?_
    rw [k2, s1, e1]
    refine sp_X8_in (fun _ => zf' (okI (by decide) ⟨rfl, hI⟩)) (fun g => absurd ?_ h)
    rw [l64, l64, nI_t (by omega)] at g
    simp only [Int64.reduceToInt] at g
    omega
  refine w_X7_reach a ⟨fun c => okI (by decide) (mB (fun g => by rw [lt0] at c; omega)), fun c => ⟨?_, ?_⟩⟩
  · rw [k1, s1]
    intro d
    rw [lt0] at c
    rw [xlt, nI_t (by omega)] at d
    refine sp_X6_measure (s := 0) (by omega) hg hd (fun f hf => ?_)
    refine lp_X7_reach (fun r hr => okI (by decide) ?_) 11 0 0 rfl bits0
    refine w_X8_reach a ?_
    show tk_Ms mX8_in [.long a.toInt64, .long 0, .long ((1 <<< ((S 45 9) &&& 31)) - 1 : Int32).toInt64] (tk_upR S 29 f) _
    rw [k2, s1, e1]
    refine sp_X8_in (fun g => absurd ?_ g) (fun _ => zt' ?_)
    · rw [l64, l64, nI_t (by omega)]
      simp only [Int64.reduceToInt]
      omega
    · refine sp_X8_findFars (s := 0) (ks := a) (by omega) hg hm (fun l hl => ?_) (fun g hg2 => ?_)
      · rw [b_or, Bool.or_eq_true, b_256 l (by omega)]
        exact ⟨fun z => z.elim Or.inr Or.inl, fun z => z.elim Or.inr Or.inl⟩
      · refine lp_X8_reach (fun r' hr' => okI (by decide) ⟨b_ext (fun i hi => ?_), hI⟩) 11 0 0 rfl bits0
        have q1 := hr i hi
        have q2 := hr' i hi
        have q3 : bt r i = true ↔ bt r' i = true := by
          rw [q1, q2]
          show i < 11 ∧ f i ≠ -1 ↔ i < 11 ∧ ¬ 99 ≤ g i
          constructor
          · rintro ⟨y1, y2⟩
            refine ⟨y1, fun y3 => ?_⟩
            rcases finEq' y1 hf hg2 with ⟨x1, x2⟩ | ⟨d, d10, x1, x2⟩
            · exact y2 x1
            · rw [x2, xle, nI_t (by omega)] at y3
              simp only [Int32.reduceToInt] at y3
              omega
          · rintro ⟨y1, y2⟩
            refine ⟨y1, fun y3 => ?_⟩
            rcases finEq' y1 hf hg2 with ⟨x1, x2⟩ | ⟨d, d10, x1, x2⟩
            · exact y2 (by rw [x2]; decide)
            · exact nI_nm (d := d) (by omega) (x1.symm.trans y3)
        exact Bool.eq_iff_iff.mpr q3
  · rw [k1, s1]
    intro d
    rw [xlt, nI_t (by omega)] at d
    exact okI (by decide) (mB (fun g => by omega))
