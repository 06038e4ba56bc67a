/-! COPY -/
def cpL (Q : Int32 → tS → Prop) (S : tS) (b d n : Int32) (p q : Nat) : Prop := (S (37 + 2 * p) 1 = -1 → tk_okQ mX7_copy Q (-11) S) ∧ (¬ S (37 + 2 * p) 1 = -1 → (¬ S (37 + 2 * q) 1 = -1 → (S (37 + 2 * p) 0 = S (37 + 2 * q) 0 → tk_Ms mX4_holds [.ref (37 + 2 * p), .int b, .int n] S (fun x12 S13 => (x12 = 0 → tk_okQ mX7_copy Q (-13) S13) ∧ (¬ x12 = 0 → tk_Ms mX4_holds [.ref (37 + 2 * q), .int d, .int n] S13 (fun x15 S16 => (¬ x15 = 0 → (¬ (b : Int32) < 0 ∧ ¬ (d : Int32) < 0 ∧ ¬ (n : Int32) < 0 ∧ b.toNatClampNeg + n.toNatClampNeg ≤ 24 ∧ d.toNatClampNeg + n.toNatClampNeg ≤ 24 ∧ tk_okQ mX7_copy Q n (tk_upR S16 (38 + 2 * q) (va_cpy (S16 (38 + 2 * p)) (S16 (38 + 2 * q)) b.toNatClampNeg d.toNatClampNeg n.toNatClampNeg)))) ∧ (x15 = 0 → tk_okQ mX7_copy Q (-13) S16))))) ∧ (¬ S (37 + 2 * p) 0 = S (37 + 2 * q) 0 → tk_okQ mX7_copy Q (-12) S)) ∧ (S (37 + 2 * q) 1 = -1 → tk_okQ mX7_copy Q (-11) S))
def okC (Q : Int32 → tS → Prop) (S : tS) (b d n : Int32) (p q : Nat) (T : tS) : Prop := (S (37 + 2 * p) 1 = -1 ∨ S (37 + 2 * q) 1 = -1 → Q (-11) S) ∧ (¬ S (37 + 2 * p) 1 = -1 → ¬ S (37 + 2 * q) 1 = -1 → (¬ S (37 + 2 * p) 0 = S (37 + 2 * q) 0 → Q (-12) S) ∧ (S (37 + 2 * p) 0 = S (37 + 2 * q) 0 → (¬ (hd S p b n ∧ hd S q d n) → Q (-13) S) ∧ (hd S p b n ∧ hd S q d n → Q n T)))
theorem sp_X7_copy {Q : Int32 → tS → Prop} {S : tS} {a b c d n : Int32} (iq : ∀ p, p < 4 → iL S p) (kb : ¬ ((0 ≤ a.toInt ∧ a.toInt ≤ 3) ∧ 0 ≤ c.toInt ∧ c.toInt ≤ 3) → Q (-1) S) (k : ∀ p q : Nat, p < 4 → q < 4 → a = nI p → c = nI q → okC Q S b d n p q (tk_upR S (38 + 2 * q) (va_cpy (S (38 + 2 * p)) (S (38 + 2 * q)) b.toNatClampNeg d.toNatClampNeg n.toNatClampNeg))) : tk_Ms mX7_copy [.ref 0, .int a, .int b, .int c, .int d, .int n] S Q := by
  refine w_X7_copy a b c d n (sp_X7_isSheet (fun h => zf (okI (by decide) (kb (fun g => h g.1)))) (fun ha => zt (sp_X7_isSheet (fun h => zf' (okI (by decide) (kb (fun g => h g.2)))) (fun hc => zt' ?_))))
  have ea := nI_of_t ha.1
  have ta := tn ha.1
  have hp : a.toNatClampNeg < 4 := by omega
  have ec := nI_of_t hc.1
  have tc := tn hc.1
  have hq : c.toNatClampNeg < 4 := by omega
  have kk := k _ _ hp hq ea ec
  generalize a.toNatClampNeg = p at ea ta hp kk
  generalize c.toNatClampNeg = q at ec tc hq kk
  subst ea
  subst ec
  have vq : vp_in (nI q) 4 := vp_in_nI hq (by omega)
  refine ⟨vp_in_nI hp (by omega), ?_⟩
  have main : cpL Q S b d n p q := by
    obtain ⟨k1, k2⟩ := kk
    refine ⟨fun h => okI (by decide) (k1 (Or.inl h)), fun h => ⟨fun h2 => ⟨fun h3 => ?_, fun h3 => okI (by decide) ((k2 h h2).1 h3)⟩, fun h2 => okI (by decide) (k1 (Or.inr h2))⟩⟩
    obtain ⟨k3, k4⟩ := (k2 h h2).2 h3
    have r1 := rng (iq p hp)
    have r2 := rng (iq q hq)
    refine sp_X4_holds hp r1 (fun z => zf (okI (by decide) (k3 (fun w => z w.1)))) (fun z1 => zt (sp_X4_holds hq r2 (fun z => zf' (okI (by decide) (k3 (fun w => z w.2)))) (fun z2 => zt' ?_)))
    have k5 := k4 ⟨z1, z2⟩
    obtain ⟨x1, x2, x3⟩ := z1
    obtain ⟨y1, y2, y3⟩ := z2
    have t1 := tn x1
    have t2 := tn x2
    have t3 := tn y1
    exact ⟨by rw [lt0]; omega, by rw [lt0]; omega, by rw [lt0]; omega, by omega, by omega, okI (by decide) k5⟩
  exact four (A := fun p' => vp_in (nI q) 4 ∧ (nI q = 0 → cpL Q S b d n p' 0) ∧ (nI q = 1 → cpL Q S b d n p' 1) ∧ (nI q = 2 → cpL Q S b d n p' 2) ∧ (nI q = 3 → cpL Q S b d n p' 3)) hp ⟨vq, four (A := fun q' => cpL Q S b d n p q') hq main⟩
theorem lp_X8_copy1 {Q : Int32 → tS → Prop} {S : tS} {p b n : Nat} {l3 l4 : Int32} (hp : p < 4) (hb : b + n ≤ 24) (k : tk_Gs mX8_copy none 154 [.ref 45, .int (nI p), .int (nI b), .int l3, .int l4, .int (nI n), .int 0] [] (tk_upR S 63 (va_cpy (S 60) (S 63) (24 * p + b) 0 n)) Q) : ∀ m i : Nat, i + m = n → tk_Gs mX8_copy none 117 [.ref 45, .int (nI p), .int (nI b), .int l3, .int l4, .int (nI n), .int (nI i)] [] (tk_upR S 63 (va_cpy (S 60) (S 63) (24 * p + b) 0 i)) Q
  | 0, i, e => by
    have e : i = n := e
    subst e
    exact w_X8_copy_117 _ _ _ _ _ _ ⟨fun _ => k, fun c => absurd (nI_le (Nat.le_refl _) (by omega)) c⟩
  | m + 1, i, e => by
    refine w_X8_copy_117 _ _ _ _ _ _ ⟨fun g => absurd g (nI_ge (by omega) (by omega)), fun _ => ?_⟩
    rw [m24, nI_add, nI_c (by omega), nI_c (by omega), nI_1, upR_up]
    refine ⟨vp_in_nI (by omega) (by omega), vp_in_nI (by omega) (by omega), ?_⟩
    have := cpy1 (f := S 60) (g := S 63) (sp := 24 * p + b) (dp := 0) (n := i)
    rw [Nat.zero_add] at this
    show tk_Gs mX8_copy none 117 _ [] (tk_upR S 63 (upd (va_cpy (S 60) (S 63) (24 * p + b) 0 i) i (S 60 (24 * p + b + i)))) Q
    rw [this]
    exact lp_X8_copy1 hp hb k m (i + 1) (by omega)
theorem lp_X8_copy2 {Q : Int32 → tS → Prop} {S : tS} {q d n : Nat} {l1 l2 : Int32} (hq : q < 4) (hd : d + n ≤ 24) (k : Q (nI n) (tk_upR S 60 (va_cpy (S 63) (S 60) 0 (24 * q + d) n))) : ∀ m i : Nat, i + m = n → tk_Gs mX8_copy none 154 [.ref 45, .int l1, .int l2, .int (nI q), .int (nI d), .int (nI n), .int (nI i)] [] (tk_upR S 60 (va_cpy (S 63) (S 60) 0 (24 * q + d) i)) Q
  | 0, i, e => by
    have e : i = n := e
    subst e
    exact w_X8_copy_154 _ _ _ _ _ _ ⟨fun _ => k, fun c => absurd (nI_le (Nat.le_refl _) (by omega)) c⟩
  | m + 1, i, e => by
    refine w_X8_copy_154 _ _ _ _ _ _ ⟨fun g => absurd g (nI_ge (by omega) (by omega)), fun _ => ?_⟩
    rw [m24, nI_add, nI_c (by omega), nI_c (by omega), nI_1, upR_up]
    refine ⟨vp_in_nI (by omega) (by omega), vp_in_nI (by omega) (by omega), ?_⟩
    have := cpy1 (f := S 63) (g := S 60) (sp := 0) (dp := 24 * q + d) (n := i)
    rw [Nat.zero_add] at this
    show tk_Gs mX8_copy none 154 _ [] (tk_upR S 60 (upd (va_cpy (S 63) (S 60) 0 (24 * q + d) i) (24 * q + d + i) (S 63 i))) Q
    rw [this]
    exact lp_X8_copy2 hq hd k m (i + 1) (by omega)
theorem l64sub {x y : Int32} : (x.toInt64 - y.toInt64).toInt = x.toInt - y.toInt := by
  have h1 := x.toInt_lt
  have h2 := x.le_toInt
  have h3 := y.toInt_lt
  have h4 := y.le_toInt
  rw [Int64.toInt_sub, l64, l64]
  rw [Int.bmod_eq_of_le] <;> omega
theorem sp_X8_copy {Q : Int32 → tS → Prop} {S : tS} {a b c d n : Int32} (iq : ∀ p, p < 4 → iL S p) (kb : ¬ ((0 ≤ a.toInt ∧ a.toInt ≤ 3) ∧ 0 ≤ c.toInt ∧ c.toInt ≤ 3) → Q (-1) S) (k : ∀ p q : Nat, p < 4 → q < 4 → a = nI p → c = nI q → okC Q S b d n p q (tk_upR (tk_upR S 63 (va_cpy (S 60) (S 63) (24 * p + b.toNatClampNeg) 0 n.toNatClampNeg)) 60 (va_cpy (va_cpy (S 60) (S 63) (24 * p + b.toNatClampNeg) 0 n.toNatClampNeg) (S 60) 0 (24 * q + d.toNatClampNeg) n.toNatClampNeg))) : tk_Ms mX8_copy [.ref 45, .int a, .int b, .int c, .int d, .int n] S Q := by
  refine w_X8_copy a b c d n (sp_X8_in (fun h => zf (okI (by decide) (kb (fun g => h (by simpa only [l64, Int64.reduceToInt] using g.1))))) (fun ha => zt (sp_X8_in (fun h => zf' (okI (by decide) (kb (fun g => h (by simpa only [l64, Int64.reduceToInt] using g.2))))) (fun hc => zt' ?_))))
  simp only [l64, Int64.reduceToInt] at ha hc
  have ea := nI_of_t ha.1
  have ta := tn ha.1
  have hp : a.toNatClampNeg < 4 := by omega
  have ec := nI_of_t hc.1
  have tc := tn hc.1
  have hq : c.toNatClampNeg < 4 := by omega
  have va : vp_in a 4 := vin ha.1 (by omega)
  have vc : vp_in c 4 := vin hc.1 (by omega)
  have k := k _ _ hp hq ea ec
  have Lp := iq _ hp
  have Lq := iq _ hq
  obtain ⟨k1, k2⟩ := k
  have live : ∀ p, iL S p → (¬ S (37 + 2 * p) 1 = -1 ↔ 0 ≤ (S 58 p).toInt) ∧ (¬ S (37 + 2 * p) 1 = -1 → S 58 p = S (37 + 2 * p) 0 ∧ S 59 p = S (37 + 2 * p) 1) := by
    intro p h
    rcases h with ⟨g1, g2⟩ | ⟨g1, g2, g3, g4, g5, g6⟩
    · exact ⟨⟨fun z => absurd g1 z, fun z => absurd z (by rw [g2]; decide)⟩, fun z => absurd g1 z⟩
    · exact ⟨⟨fun _ => by rw [g4]; exact g5, fun _ z => by rw [z] at g1; exact absurd g1 (by decide)⟩, fun _ => ⟨g4, g3⟩⟩
  obtain ⟨p1, p2⟩ := live _ Lp
  obtain ⟨q1, q2⟩ := live _ Lq
  have rp := rng Lp
  have rq := rng Lq
  refine ⟨va, fun h => okI (by decide) (k1 (Or.inl ?_)), fun h => ⟨vc, fun h2 => ⟨va, vc, fun h3 => ⟨fun h4 => okI (by decide) ?_, fun h4 => ⟨va, ?_⟩⟩, fun h3 => okI (by decide) ?_⟩, fun h2 => okI (by decide) (k1 (Or.inr ?_))⟩⟩
  · rw [lt0] at h
    exact Classical.byContradiction (fun w => absurd (p1.mp w) (by omega))
  · rw [lt0] at h h4
    rw [xle] at h2
    have w1 := p1.mpr (by omega)
    have w2 := q1.mpr h2
    have h5 := ((k2 w1 w2).2 (by rw [← (p2 w1).1, ← (q2 w2).1]; exact h3)).1
    exact h5 (fun w => by have := w.1.2.1; omega)
  · rw [lt0] at h h4
    rw [xle] at h2
    have w1 := p1.mpr (by omega)
    have w2 := q1.mpr h2
    obtain ⟨h5, h6⟩ := (k2 w1 w2).2 (by rw [← (p2 w1).1, ← (q2 w2).1]; exact h3)
    have e1 := (p2 w1).2
    have e2 := (q2 w2).2
    refine sp_X8_in (fun z => zf (okI (by decide) (h5 (fun w => z ?_)))) (fun z => zt ⟨vc, sp_X8_in (fun z2 => zf' (okI (by decide) (h5 (fun w => z2 ?_)))) (fun z2 => zt' ?_)⟩)
    · obtain ⟨y1, y2, y3⟩ := w.1
      rw [l64, l64sub, e1]
      exact ⟨y1, by omega⟩
    · obtain ⟨y1, y2, y3⟩ := w.2
      rw [l64, l64sub, e2]
      exact ⟨y1, by omega⟩
    · rw [l64, l64sub, e1] at z
      rw [l64, l64sub, e2] at z2
      have zz : (0 : Int64).toInt = 0 := by decide
      rw [zz] at z z2
      have h7 := h6 ⟨⟨z.1, by omega, by omega⟩, z2.1, by omega, by omega⟩
      have eb := nI_of_t z.1
      have tb := tn z.1
      have ed := nI_of_t z2.1
      have td := tn z2.1
      have en := nI_of_t (x := n) (by omega)
      have tn' := tn (i := n) (by omega)
      have g2 := lp_X8_copy2 (S := tk_upR S 63 (va_cpy (S 60) (S 63) (24 * a.toNatClampNeg + b.toNatClampNeg) 0 n.toNatClampNeg)) (l1 := nI a.toNatClampNeg) (l2 := nI b.toNatClampNeg) (q := c.toNatClampNeg) (d := d.toNatClampNeg) (n := n.toNatClampNeg) hq (by omega) (okI (μ := mX8_copy) (by decide) (by rw [← en]; exact h7)) n.toNatClampNeg 0 (by omega)
      rw [cpy0, upR_self] at g2
      have g1 := lp_X8_copy1 (S := S) (p := a.toNatClampNeg) (b := b.toNatClampNeg) (n := n.toNatClampNeg) hp (by omega) g2 n.toNatClampNeg 0 (by omega)
      rw [cpy0, upR_self, ← ea, ← eb, ← ec, ← ed, ← en] at g1
      exact g1
  · rw [lt0] at h
    rw [xle] at h2
    have w1 := p1.mpr (by omega)
    have w2 := q1.mpr h2
    exact (k2 w1 w2).1 (fun w => h3 (by rw [(p2 w1).1, (q2 w2).1]; exact w))
  · rw [xle] at h2
    exact Classical.byContradiction (fun w => absurd (q1.mp w) h2)
theorem cpy_at {f g : Nat → Int32} {s n i : Nat} (h : i < n) : va_cpy f g s 0 n (0 + i) = f (s + i) := by
  unfold va_cpy
  rw [if_pos (by omega)]
  congr 1
  omega
theorem pr_copy {S : tS} (hI : Inv S) (a b c d n : Int32) : tk_Ms mX7_copy [.ref 0, .int a, .int b, .int c, .int d, .int n] S (fun x S1 => tk_Ms mX8_copy [.ref 45, .int a, .int b, .int c, .int d, .int n] S1 (fun y S2 => x = y ∧ Inv S2)) := by
  obtain ⟨i0, iq⟩ := Inv_iff.mp hI
  have il : ∀ p, p < 4 → iL S p := fun p hp => (iq p hp).1
  have inj : ∀ {p q : Nat}, p < 4 → q < 4 → nI p = nI q → q = p := by
    intro p q hp hq h
    rw [xeq, nI_t (by omega), nI_t (by omega)] at h
    omega
  refine sp_X7_copy il (fun h => sp_X8_copy il (fun _ => ⟨rfl, hI⟩) (fun p q hp hq ea ec => absurd ⟨by rw [ea, nI_t (by omega)]; omega, by rw [ec, nI_t (by omega)]; omega⟩ h)) (fun p q hp hq ea ec => ?_)
  subst ea
  subst ec
  have nb : ¬ ¬ ((0 ≤ (nI p).toInt ∧ (nI p).toInt ≤ 3) ∧ 0 ≤ (nI q).toInt ∧ (nI q).toInt ≤ 3) := fun h => h ⟨by rw [nI_t (by omega)]; omega, by rw [nI_t (by omega)]; omega⟩
  refine ⟨fun h => sp_X8_copy il (fun z => absurd z nb) (fun p' q' hp' hq' ea ec => ?_), fun h1 h2 => ⟨fun h3 => sp_X8_copy il (fun z => absurd z nb) (fun p' q' hp' hq' ea ec => ?_), fun h3 => ⟨fun h4 => sp_X8_copy il (fun z => absurd z nb) (fun p' q' hp' hq' ea ec => ?_), fun h4 => ?_⟩⟩⟩
  · have := inj hp hp' ea
    subst this
    have := inj hq hq' ec
    subst this
    exact ⟨fun _ => ⟨rfl, hI⟩, fun z1 z2 => absurd h (fun w => w.elim z1 z2)⟩
  · have := inj hp hp' ea
    subst this
    have := inj hq hq' ec
    subst this
    exact ⟨fun z => absurd z (fun w => w.elim h1 h2), fun _ _ => ⟨fun _ => ⟨rfl, hI⟩, fun z => absurd z h3⟩⟩
  · have := inj hp hp' ea
    subst this
    have := inj hq hq' ec
    subst this
    exact ⟨fun z => absurd z (fun w => w.elim h1 h2), fun _ _ => ⟨fun z => absurd h3 z, fun _ => ⟨fun _ => ⟨rfl, hI⟩, fun z => absurd z h4⟩⟩⟩
  · generalize hF : va_cpy (S (38 + 2 * p)) (S (38 + 2 * q)) b.toNatClampNeg d.toNatClampNeg n.toNatClampNeg = F
    have c1 : ∀ r, r < 4 → (tk_upR S (38 + 2 * q) F) (37 + 2 * r) = S (37 + 2 * r) := fun r hr => tk_upR_n (by omega)
    have c2 : (tk_upR S (38 + 2 * q) F) 58 = S 58 := tk_upR_n (by omega)
    have c3 : (tk_upR S (38 + 2 * q) F) 59 = S 59 := tk_upR_n (by omega)
    have c4 : (tk_upR S (38 + 2 * q) F) 60 = S 60 := tk_upR_n (by omega)
    have c5 : (tk_upR S (38 + 2 * q) F) 63 = S 63 := tk_upR_n (by omega)
    refine sp_X8_copy (fun r hr => by unfold iL; rw [c1 r hr, c2, c3]; exact il r hr) (fun z => absurd z nb) (fun p' q' hp' hq' ea ec => ?_)
    have := inj hp hp' ea
    subst this
    have := inj hq hq' ec
    subst this
    unfold okC
    rw [c1 _ hp, c1 _ hq]
    refine ⟨fun z => absurd z (fun w => w.elim h1 h2), fun _ _ => ⟨fun z => absurd h3 z, fun _ => ⟨fun z => absurd ?_ z, fun _ => ⟨rfl, Inv_iff.mpr ⟨(((fr.refl.r (nc2 hq)).r (ncn (by decide))).r (ncn (by decide))).inv i0, fun r hr => ?_⟩⟩⟩⟩⟩
    · unfold hd at h4 ⊢
      rw [c1 _ hp, c1 _ hq]
      exact h4
    · rw [c4, c5]
      obtain ⟨⟨x1, x2, x3⟩, y1, y2, y3⟩ := h4
      have t1 := tn x1
      have t2 := tn x2
      have t3 := tn y1
      have r1 := (rng (il _ hp)).2
      have r2 := (rng (il _ hq)).2
      obtain ⟨k1, k2⟩ := iq r hr
      unfold iS iQ
      by_cases e : r = q'
      · subst e
        simp (disch := omega) only [tk_upR_s, tk_upR_n]
        refine ⟨k1, ?_⟩
        rw [← hF]
        refine itm (by omega) k2 (fun i hi => ?_)
        rw [cpy_at hi, Nat.add_assoc]
        exact (iq _ hp).2 _ (by omega)
      · simp (disch := omega) only [tk_upR_s, tk_upR_n]
        exact ⟨k1, fun i hi => (itn (by omega) e hi).trans (k2 i hi)⟩
