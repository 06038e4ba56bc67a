/-! VISIT, apart: the object's end from the object's cells, the reference's from its own -/
def isR (wh tl : Nat → Int32) (m : Nat) (a r : Int32) : Prop := ∀ i, i < 32 → (bt r i = true ↔ i < m ∧ (wh i = a ∧ ¬ (¬ (0 : Int32) = 0 ∧ tl i = 1)))
def HC (C : tS) (n : Nat) (o1 o2 lk : Nat → Nat) (m : Nat) : Prop := geo n o1 o2 lk ∧ dat (C 1 0) (C 2) (C 3) (C 4) n o1 o2 lk ∧ m ≤ 8 ∧ C 5 0 = nI m
def HM (M : tS) (n : Nat) (o1 o2 lk : Nat → Nat) (m : Nat) : Prop := geo n o1 o2 lk ∧ dat (M 45 3) (M 46) (M 47) (M 48) n o1 o2 lk ∧ m ≤ 8 ∧ M 45 9 = nI m
def vE (n : Nat) (o1 o2 lk : Nat → Nat) (r : Int32) : Nat → Nat → Prop := Ed n o1 o2 (pas r lk)
/-- a visit's end, for the object -/
def RVC (C : tS) (n : Nat) (o1 o2 lk : Nat → Nat) (m : Nat) (a b c x : Int32) (C' : tS) : Prop :=
  (¬ Pv a b c ∧ x = -1 ∧ C' = C) ∨ (Pv a b c ∧ ∃ r f, isR (C 8) (C 7) m a r ∧ (((∀ d, ¬ Lw (vE n o1 o2 lk r) b.toNatClampNeg d 0) ∧ x = -2 ∧ C' = tk_upR C 29 f) ∨ ∃ d, d ≤ 10 ∧ Lw (vE n o1 o2 lk r) b.toNatClampNeg d 0 ∧ x = 2 * nI d + c ∧ C' = stC (tk_upR C 29 f) c (C 0 2) (fun i => i < m ∧ PL (vE n o1 o2 lk r) b.toNatClampNeg n o1 o2 lk r d 0 i)))
def RVM (M : tS) (n : Nat) (o1 o2 lk : Nat → Nat) (m : Nat) (a b c x : Int32) (M' : tS) : Prop :=
  (¬ Pv a b c ∧ x = -1 ∧ M' = M) ∨ (Pv a b c ∧ ∃ r g, isR (M 51) (M 50) m a r ∧ (((∀ d, ¬ Lw (vE n o1 o2 lk r) b.toNatClampNeg d 0) ∧ x = -2 ∧ M' = tk_upR M 56 g) ∨ ∃ d, d ≤ 10 ∧ Lw (vE n o1 o2 lk r) b.toNatClampNeg d 0 ∧ x = 2 * nI d + c ∧ M' = stM (tk_upR M 56 g) c (fun i => PL (vE n o1 o2 lk r) b.toNatClampNeg n o1 o2 lk r d 0 i)))
theorem i64_30 {c : Int32} : (0 : Int64).toInt ≤ c.toInt64.toInt ∧ c.toInt64.toInt ≤ (30 : Int64).toInt ↔ 0 ≤ c.toInt ∧ c.toInt ≤ 30 := by
  rw [l64]
  exact Iff.rfl
theorem sp7_visit {Q : Int32 → tS → Prop} {C : tS} {n m : Nat} {o1 o2 lk : Nat → Nat} {a b c : Int32} (hC : HC C n o1 o2 lk m) (k : ∀ x C', RVC C n o1 o2 lk m a b c x C' → Q x C') : tk_Ms mX7_visit [.ref 0, .int a, .int b, .int c] C Q := by
  obtain ⟨hg, hd, h8, k1⟩ := hC
  have v0 : vp_in 0 11 := vin (by decide) (by decide)
  have bad : ¬ Pv a b c → Q (-1) C := fun h => k _ _ (Or.inl ⟨h, rfl, rfl⟩)
  refine w_X7_visit a b c (sp_X7_isSister (fun h => zf (okI (by decide) (bad (fun g => h g.1)))) (fun ha => zt (sp_X7_isPlace (fun h => zf (okI (by decide) (bad (fun g => h g.2.1)))) (fun hb => zt (sp_X7_isStay (fun h => zf' (okI (by decide) (bad (fun g => h g.2.2)))) (fun hc => zt' ?_))))))
  have eb := nI_of_t hb.1
  have tb := tn hb.1
  have hs : b.toNatClampNeg < 11 := by omega
  have hP : Pv a b c := ⟨ha, hb, hc⟩
  refine sp_X3_ring k1 h8 (fun r hr => ?_)
  have hr' : isR (C 8) (C 7) m a r := hr
  have ms := sp_X6_measure (S := C) (n := n) (s := b.toNatClampNeg) (o1 := o1) (o2 := o2) (lk := lk) (ks := r) (Q := fun _ S13 => vp_in 0 11 ∧ ((¬ (S13 29 0) = (-1) → (tk_Ms mX6_locksFromHall [.ref 28, .ref 1, .int r] S13 (fun x15 S16 => (tk_Ms mX3_stain [.ref 5, .int x15, .int c, .int (S16 0 2)] S16 (fun _ S18 => tk_okQ mX7_visit Q ((2 * (S13 29 0)) + c) S18))))) ∧ ((S13 29 0) = (-1) → tk_okQ mX7_visit Q (-2) S13))) hs hg hd (fun f hf => ?_)
  · rw [← eb] at ms
    exact ms
  refine ⟨v0, fun z => ?_, fun z => okI (by decide) (k _ _ (Or.inr ⟨hP, r, f, hr', Or.inl ⟨fun d hl => ?_, rfl, rfl⟩⟩))⟩
  · have z : ¬ f 0 = -1 := z
    rcases hf 0 (by omega) with ⟨x1, _⟩ | ⟨d, d10, x1, x2⟩
    · exact absurd x1 z
    · refine w_X6_locksFromHall _ ⟨v0, ?_⟩
      show tk_Gs mX6_locksFromHall none 13 [.ref 28, .ref 1, .int r, .int 0, .int 0, .int (f 0), .null] [] (tk_upR C 29 f) _
      rw [x1]
      refine lp_X6_locks (S := tk_upR C 29 f) (n := n) (s := b.toNatClampNeg) hg hd hf d 0 0 d10 (by omega) x2 (fun L hL => okI (by decide) ?_)
      refine w_X3_stain _ _ _ ?_
      have h1 := lp_X3_stain (S := tk_upR C 29 f) (m := m) (L := L) (x := c) (t := C 0 2) (Q := tk_okQ mX3_stain (fun _ S18 => tk_okQ mX7_visit Q (2 * f 0 + c) S18)) k1 h8 (okI (by decide) (okI (by decide) (k _ _ (Or.inr ⟨hP, r, f, hr', Or.inr ⟨d, d10, x2, by rw [x1], stC_cong (fun i hi => ?_)⟩⟩)))) m 0 (by omega)
      · rw [stC_0 (fun i z => absurd z.1 (Nat.not_lt_zero _))] at h1
        exact h1
      · rw [hL i (by omega), b_0]
        exact ⟨fun y => ⟨y.1, (y.2.resolve_left (by decide)).2⟩, fun y => ⟨y.1, Or.inr ⟨by omega, y.2⟩⟩⟩
  · have z : f 0 = -1 := z
    rcases hf 0 (by omega) with ⟨_, x2⟩ | ⟨d', d10, x1, _⟩
    · exact x2 d hl
    · exact absurd (x1.symm.trans z) (nI_nm (by omega))
theorem sp8_visit {Q : Int32 → tS → Prop} {M : tS} {n m : Nat} {o1 o2 lk : Nat → Nat} {a b c : Int32} (hM : HM M n o1 o2 lk m) (k : ∀ x M', RVM M n o1 o2 lk m a b c x M' → Q x M') : tk_Ms mX8_visit [.ref 45, .int a, .int b, .int c] M Q := by
  obtain ⟨hg, hm, h8, k2⟩ := hM
  have v0 : vp_in 0 11 := vin (by decide) (by decide)
  have bad : ¬ Pv a b c → Q (-1) M := fun h => k _ _ (Or.inl ⟨h, rfl, rfl⟩)
  refine w_X8_visit a b c (sp_X8_isSister (fun h => zf (okI (by decide) (bad (fun g => h g.1)))) (fun ha => zt (sp_X8_isPlace (fun h => zf (okI (by decide) (bad (fun g => h g.2.1)))) (fun hb => zt (sp_X8_in (fun h => zf' (okI (by decide) (bad (fun g => h (i64_30.mpr g.2.2))))) (fun hc => zt' ?_))))))
  have hc := i64_30.mp hc
  have eb := nI_of_t hb.1
  have tb := tn hb.1
  have hs : b.toNatClampNeg < 11 := by omega
  have hP : Pv a b c := ⟨ha, hb, hc⟩
  refine sp_X8_ringOf (n := m) k2 h8 (fun ms hms => ?_)
  -- the set without its eighth bit
  have hb8 : ∀ i, i < 32 → bt (ms &&& 255) i = (bt ms i && decide (i < 8)) := fun i _ => by rw [b_and, b_255]
  have hr : isR (M 51) (M 50) m a (ms &&& 255) := by
    intro i hi
    rw [hb8 i hi, Bool.and_eq_true, decide_eq_true_eq, hms i hi]
    unfold rgM
    exact ⟨fun y => y.1.elim (fun z => absurd z (by omega)) id, fun y => ⟨Or.inr y, by omega⟩⟩
  have hbits : ∀ l, l ≤ 8 → (bt ms l = true ↔ l = 8 ∨ bt (ms &&& 255) l = true) := by
    intro l hl
    rw [hb8 l (by omega), Bool.and_eq_true, decide_eq_true_eq]
    by_cases e : l = 8
    · subst e
      exact ⟨fun _ => Or.inl rfl, fun _ => (hms 8 (by omega)).mpr (Or.inl rfl)⟩
    · exact ⟨fun y => Or.inr ⟨y, by omega⟩, fun y => (y.resolve_left e).1⟩
  generalize ms &&& 255 = r at hr hbits
  have fr := sp_X8_findFars (S := M) (n := n) (s := b.toNatClampNeg) (o1 := o1) (o2 := o2) (lk := lk) (ks := r) (ms := ms) (Q := fun _ S13 => vp_in 0 11 ∧ ((¬ (S13 56 0) = 99 → tk_Gs mX8_visit none 60 [.ref 45, .int a, .int b, .int c, .int ms, .int 0, .null, .null] [] S13 (tk_okQ mX8_visit Q)) ∧ ((S13 56 0) = 99 → tk_okQ mX8_visit Q (-2) S13))) hs hg hm hbits (fun g hg2 => ?_)
  · rw [← eb] at fr
    exact fr
  refine ⟨v0, fun z => ?_, fun z => okI (by decide) (k _ _ (Or.inr ⟨hP, r, g, hr, Or.inl ⟨fun d hl => ?_, rfl, rfl⟩⟩))⟩
  · have z : ¬ g 0 = 99 := z
    rcases hg2 0 (by omega) with ⟨x1, _⟩ | ⟨d, d10, x1, x2⟩
    · exact absurd x1 z
    · have h1 := lp_X8_visit (Q := tk_okQ mX8_visit Q) (S := tk_upR M 56 g) (l1 := a) (x := c) hg hm hg2 hbits hs d 0 (fun _ => False) d10 (by omega) x2 (okI (by decide) (k _ _ (Or.inr ⟨hP, r, g, hr, Or.inr ⟨d, d10, x2, by show 2 * g 0 + c = _; rw [x1], stM_cong (fun i _ => ⟨fun y => y.resolve_left id, Or.inr⟩)⟩⟩)))
      rw [stM_0, ← eb] at h1
      exact h1
  · have z : g 0 = 99 := z
    rcases hg2 0 (by omega) with ⟨_, x2⟩ | ⟨d', d10, x1, _⟩
    · exact x2 d hl
    · exact absurd (x1.symm.trans z) (nI_n99 d10)
