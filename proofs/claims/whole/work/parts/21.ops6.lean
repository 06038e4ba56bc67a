/-! LOOK -/
def gv (k s x y : Int) : Int := if x ≤ y ∧ 0 < shv k s (y - x) then 0 else 10 - x
theorem t10 {i : Nat} (hi : i ≤ 10) : (10 - nI i : Int32).toInt = 10 - (i : Int) := by
  rw [subT] <;> rw [nI_t (by omega)] <;> simp only [Int32.reduceToInt] <;> omega
theorem sp_X7_hersBy {Q : Int32 → tS → Prop} {S : tS} {a b : Int32} {i j : Nat} (hi : i ≤ 7) (hj : j ≤ 7) (hb : 0 ≤ b.toInt) (k : ∀ r : Int32, r.toInt = gv a.toInt b.toInt i j → Q r S) : tk_Ms mX7_hersBy [.int a, .int b, .int (nI i), .int (nI j)] S Q := by
  refine w_X7_hersBy _ _ _ _ ⟨fun c => zf (okI (by decide) (k _ ?_)), fun c => ?_⟩
  · rw [xlt, nI_t (by omega), nI_t (by omega)] at c
    rw [t10 (by omega)]
    unfold gv
    rw [if_neg (by omega)]
  · rw [xlt, nI_t (by omega), nI_t (by omega)] at c
    rw [pk_sub (by omega)]
    refine sp_X3_shows hb (by rw [nI_t (by omega)]; omega) (by rw [nI_t (by omega)]; omega) (fun x hx => ⟨fun d => zf (okI (by decide) (k _ ?_)), fun d => zt (okI (by decide) (k _ ?_))⟩)
    · rw [nI_t (by omega), show ((j - i : Nat) : Int) = (j : Int) - i by omega] at hx
      rw [le0, hx] at d
      rw [t10 (by omega)]
      unfold gv
      rw [if_neg (by omega)]
    · rw [nI_t (by omega), show ((j - i : Nat) : Int) = (j : Int) - i by omega] at hx
      rw [le0, hx] at d
      unfold gv
      rw [if_pos (by omega)]
      rfl
theorem shv0 (k s : Int) : shv k s 0 ≤ 0 := by
  unfold shv
  split
  · omega
  · split <;> omega
theorem sp_X8_gains {Q : Int32 → tS → Prop} {S : tS} {a b : Int32} {i j : Nat} (hi : i ≤ 7) (hj : j ≤ 7) (ha : 0 ≤ a.toInt ∧ a.toInt ≤ 3) (hb : 0 ≤ b.toInt) (k : ∀ r : Int32, r.toInt = gv a.toInt b.toInt i j → Q r S) : tk_Ms mX8_gains [.int a, .int b, .int (nI i), .int (nI j)] S Q := by
  refine w_X8_gains _ _ _ _ ⟨fun c => okI (by decide) (k _ ?_), fun c => ?_⟩
  · rw [xle, nI_t (by omega), nI_t (by omega)] at c
    rw [t10 (by omega)]
    unfold gv
    by_cases h : (i : Int) ≤ j
    · have e : (j : Int) - i = 0 := by omega
      have := shv0 a.toInt b.toInt
      rw [e, if_neg (by omega)]
    · rw [if_neg (by omega)]
  · rw [xle, nI_t (by omega), nI_t (by omega)] at c
    rw [pk_sub (by omega)]
    refine sp_X8_shownOf ha hb (by rw [nI_t (by omega)]; omega) (by rw [nI_t (by omega)]; omega) (fun x hx => ⟨fun d => okI (by decide) (k _ ?_), fun d => okI (by decide) (k _ ?_)⟩)
    · rw [nI_t (by omega), show ((j - i : Nat) : Int) = (j : Int) - i by omega] at hx
      rw [le0, hx] at d
      rw [t10 (by omega)]
      unfold gv
      rw [if_neg (by omega)]
    · rw [nI_t (by omega), show ((j - i : Nat) : Int) = (j : Int) - i by omega] at hx
      rw [le0, hx] at d
      unfold gv
      rw [if_pos (by omega)]
      rfl
/-- up to day n neither would choose otherwise -/
def rst (k s : Int) (i j n : Nat) : Prop := ∀ d : Nat, d < n → gv k s d j ≤ gv k s i j ∧ gv k s i j ≤ gv k s i d
theorem lp_X7_isRest {Q : Int32 → tS → Prop} {S : tS} {a b v : Int32} {i j : Nat} (hi : i ≤ 7) (hj : j ≤ 7) (hb : 0 ≤ b.toInt) (hv : v.toInt = gv a.toInt b.toInt i j) (k0 : ¬ rst a.toInt b.toInt i j 7 → Q 0 S) (k1 : rst a.toInt b.toInt i j 7 → Q 1 S) : ∀ r d : Nat, d + r = 7 → rst a.toInt b.toInt i j d → tk_Gs mX7_isRest none 12 [.int a, .int b, .int (nI i), .int (nI j), .int v, .int (nI d)] [] S Q
  | 0, d, e, h => by
    have e : d = 7 := e
    subst e
    exact w_X7_isRest_12 _ _ _ _ _ _ ⟨fun _ => k1 h, fun c => absurd (nI_lt (a := 6) (b := 7) (by omega) (by omega)) c⟩
  | r + 1, d, e, h => by
    refine w_X7_isRest_12 _ _ _ _ _ _ ⟨fun c => absurd c (nI_nlt (b := d) (a := 6) (by omega) (by omega)), fun c => sp_X7_hersBy (by omega) hj hb (fun x hx => ⟨fun g => k0 (fun w => ?_), fun g => sp_X7_hersBy hi (by omega) hb (fun y hy => ⟨fun g2 => ?_, fun g2 => k0 (fun w => ?_)⟩)⟩)⟩
    · rw [xlt, hx, hv] at g
      have := (w d (by omega)).1
      omega
    · rw [xlt, hx, hv] at g
      rw [xle, hy, hv] at g2
      rw [nI_1]
      refine lp_X7_isRest hi hj hb hv k0 k1 r (d + 1) (by omega) (fun d' hd' => ?_)
      by_cases hdd : d' = d
      · subst hdd
        exact ⟨by omega, g2⟩
      · exact h d' (by omega)
    · rw [xle, hy, hv] at g2
      exact g2 (w d (by omega)).2
theorem sp_X7_isRest {Q : Int32 → tS → Prop} {S : tS} {a b : Int32} {i j : Nat} (hi : i ≤ 7) (hj : j ≤ 7) (hb : 0 ≤ b.toInt) (k0 : ¬ rst a.toInt b.toInt i j 7 → Q 0 S) (k1 : rst a.toInt b.toInt i j 7 → Q 1 S) : tk_Ms mX7_isRest [.int a, .int b, .int (nI i), .int (nI j)] S Q :=
  w_X7_isRest _ _ _ _ (sp_X7_hersBy hi hj hb (fun x hx => lp_X7_isRest hi hj hb hx (fun h => ok0 (k0 h)) (fun h => ok1 (k1 h)) 7 0 rfl (fun d hd => absurd hd (Nat.not_lt_zero _))))
noncomputable def rsb (k s : Int) (t : Nat) : Bool := @decide (rst k s (t / 7) (t % 7) 7) (Classical.propDecidable _)
def fs (p : Nat → Bool) : Nat → Int32
  | 0 => -4
  | t + 1 => if fs p t = -4 ∧ p t = true then nI (10 * (t / 7) + t % 7) else fs p t
theorem fs_iff (p : Nat → Bool) : ∀ t, t ≤ 49 → (fs p t = -4 ↔ cnt p t = 0)
  | 0, _ => ⟨fun _ => rfl, fun _ => rfl⟩
  | t + 1, h => by
    have ih := fs_iff p t (by omega)
    show (if fs p t = -4 ∧ p t = true then nI (10 * (t / 7) + t % 7) else fs p t) = -4 ↔ cnt p t + (if p t = true then 1 else 0) = 0
    by_cases hp : p t = true
    · rw [if_pos hp]
      by_cases hf : fs p t = -4
      · rw [if_pos ⟨hf, hp⟩, xeq, nI_t (by omega)]
        rw [tneg4]
        omega
      · rw [if_neg (fun g => hf g.1)]
        exact ⟨fun g => absurd g hf, fun g => by omega⟩
    · rw [if_neg hp, if_neg (fun g => hp g.2), Nat.add_zero]
      exact ih
theorem rsb_t {k s : Int} {i j : Nat} (hj : j < 7) : rsb k s (7 * i + j) = true ↔ rst k s i j 7 := by
  unfold rsb
  rw [show (7 * i + j) / 7 = i by omega, show (7 * i + j) % 7 = j by omega]
  exact @decide_eq_true_iff _ (Classical.propDecidable _)
theorem idx10 {i j : Nat} : (10 : Int32) * nI i + nI j = nI (10 * i + j) := by
  show nI 10 * nI i + nI j = _
  rw [pk_mul, nI_add]
theorem lp_X7_look {Q : Int32 → tS → Prop} {S : tS} {a b w : Int32} (hb : 0 ≤ b.toInt) (k : (¬ w = 0 → Q (fs (rsb a.toInt b.toInt) 49) S) ∧ (w = 0 → Q (nI (cnt (rsb a.toInt b.toInt) 49)) S)) : ∀ r i j : Nat, j ≤ 7 → (7 * i + j) + r = 49 → (j < 7 → i < 7) → (tk_Gs mX7_look none 45 [.ref 0, .int a, .int b, .int w, .int (nI (cnt (rsb a.toInt b.toInt) (7 * i + j))), .int (fs (rsb a.toInt b.toInt) (7 * i + j)), .int (nI i), .int (nI j)] [] S Q ∧ (j = 0 → tk_Gs mX7_look none 35 [.ref 0, .int a, .int b, .int w, .int (nI (cnt (rsb a.toInt b.toInt) (7 * i + j))), .int (fs (rsb a.toInt b.toInt) (7 * i + j)), .int (nI i), .null] [] S Q)) := by
  intro r
  induction r with
  | zero =>
    intro i j hj e hij
    have e : 7 * i + j = 49 := e
    have h35 : ∀ i : Nat, i = 7 → tk_Gs mX7_look none 35 [.ref 0, .int a, .int b, .int w, .int (nI (cnt (rsb a.toInt b.toInt) 49)), .int (fs (rsb a.toInt b.toInt) 49), .int (nI i), .null] [] S Q := by
      intro i hi
      subst hi
      exact w_X7_look_35 _ _ _ _ _ _ ⟨fun _ => k, fun c => absurd (nI_lt (a := 6) (b := 7) (by omega) (by omega)) c⟩
    rw [e]
    refine ⟨?_, fun h0 => h35 i (by omega)⟩
    have hj7 : j = 7 := by omega
    subst hj7
    refine w_X7_look_45 _ _ _ _ _ _ _ ⟨fun _ => ?_, fun c => absurd (nI_lt (a := 6) (b := 7) (by omega) (by omega)) c⟩
    rw [nI_1]
    exact h35 (i + 1) (by omega)
  | succ r ih =>
    intro i j hj e hij
    by_cases hj7 : j = 7
    · subst hj7
      refine ⟨w_X7_look_45 _ _ _ _ _ _ _ ⟨fun _ => ?_, fun c => absurd (nI_lt (a := 6) (b := 7) (by omega) (by omega)) c⟩, fun h => absurd h (by decide)⟩
      rw [nI_1]
      have h0 := ih (i + 1) 1 (by omega) (by omega) (fun _ => by omega)
      have hI : i + 1 < 7 := by omega
      refine w_X7_look_35 _ _ _ _ _ _ ⟨fun c => absurd c (nI_nlt (b := i + 1) (a := 6) (by omega) (by omega)), fun c => ?_⟩
      have e7 : 7 * i + 7 = 7 * (i + 1) + 0 := by omega
      rw [e7]
      refine w_X7_look_45 _ _ _ _ _ _ _ ⟨fun c => absurd c (by decide), fun c => ?_⟩
      refine sp_X7_isRest (i := i + 1) (j := 0) (by omega) (by omega) hb (fun h => zf ?_) (fun h => zt ⟨fun g => ?_, fun g => ?_⟩)
      · have ep : ¬ rsb a.toInt b.toInt (7 * (i + 1) + 0) = true := fun g => h ((rsb_t (by omega)).mp g)
        have := h0.1
        rw [show 7 * (i + 1) + 1 = (7 * (i + 1) + 0) + 1 by omega, cnt_f ep] at this
        rw [show fs (rsb a.toInt b.toInt) (7 * (i + 1) + 0 + 1) = fs (rsb a.toInt b.toInt) (7 * (i + 1) + 0) from if_neg (fun g => ep g.2)] at this
        exact this
      · have ep : rsb a.toInt b.toInt (7 * (i + 1) + 0) = true := (rsb_t (by omega)).mpr h
        have := h0.1
        rw [show 7 * (i + 1) + 1 = (7 * (i + 1) + 0) + 1 by omega, cnt_t ep] at this
        rw [show fs (rsb a.toInt b.toInt) (7 * (i + 1) + 0 + 1) = fs (rsb a.toInt b.toInt) (7 * (i + 1) + 0) from if_neg (fun z => g z.1)] at this
        rw [nI_1]
        exact this
      · have ep : rsb a.toInt b.toInt (7 * (i + 1) + 0) = true := (rsb_t (by omega)).mpr h
        have := h0.1
        rw [show 7 * (i + 1) + 1 = (7 * (i + 1) + 0) + 1 by omega, cnt_t ep] at this
        rw [show fs (rsb a.toInt b.toInt) (7 * (i + 1) + 0 + 1) = nI (10 * ((7 * (i + 1) + 0) / 7) + (7 * (i + 1) + 0) % 7) from if_pos ⟨g, ep⟩, show (7 * (i + 1) + 0) / 7 = i + 1 by omega, show (7 * (i + 1) + 0) % 7 = 0 by omega] at this
        rw [nI_1]
        have e0 : (10 : Int32) * nI (i + 1) + 0 = nI (10 * (i + 1) + 0) := idx10 (j := 0)
        show tk_Gs mX7_look none 45 [.ref 0, .int a, .int b, .int w, .int (nI (cnt (rsb a.toInt b.toInt) (7 * (i + 1) + 0) + 1)), .int (10 * nI (i + 1) + 0), .int (nI (i + 1)), .int (0 + 1)] [] S Q
        rw [e0]
        exact this
    · have hI : i < 7 := hij (by omega)
      have h45 : tk_Gs mX7_look none 45 [.ref 0, .int a, .int b, .int w, .int (nI (cnt (rsb a.toInt b.toInt) (7 * i + j))), .int (fs (rsb a.toInt b.toInt) (7 * i + j)), .int (nI i), .int (nI j)] [] S Q := by
        refine w_X7_look_45 _ _ _ _ _ _ _ ⟨fun c => absurd c (nI_nlt (b := j) (a := 6) (by omega) (by omega)), fun c => ?_⟩
        have h0 := (ih i (j + 1) (by omega) (by omega) (fun _ => hI)).1
        rw [show 7 * i + (j + 1) = (7 * i + j) + 1 by omega] at h0
        refine sp_X7_isRest (by omega) (by omega) hb (fun h => zf ?_) (fun h => zt ⟨fun g => ?_, fun g => ?_⟩)
        · have ep : ¬ rsb a.toInt b.toInt (7 * i + j) = true := fun g => h ((rsb_t (by omega)).mp g)
          rw [cnt_f ep, show fs (rsb a.toInt b.toInt) (7 * i + j + 1) = fs (rsb a.toInt b.toInt) (7 * i + j) from if_neg (fun g => ep g.2)] at h0
          rw [nI_1]
          exact h0
        · have ep : rsb a.toInt b.toInt (7 * i + j) = true := (rsb_t (by omega)).mpr h
          rw [cnt_t ep, show fs (rsb a.toInt b.toInt) (7 * i + j + 1) = fs (rsb a.toInt b.toInt) (7 * i + j) from if_neg (fun z => g z.1)] at h0
          rw [nI_1, nI_1]
          exact h0
        · have ep : rsb a.toInt b.toInt (7 * i + j) = true := (rsb_t (by omega)).mpr h
          rw [cnt_t ep, show fs (rsb a.toInt b.toInt) (7 * i + j + 1) = nI (10 * ((7 * i + j) / 7) + (7 * i + j) % 7) from if_pos ⟨g, ep⟩, show (7 * i + j) / 7 = i by omega, show (7 * i + j) % 7 = j by omega] at h0
          rw [nI_1, nI_1, idx10]
          exact h0
      refine ⟨h45, fun h => ?_⟩
      subst h
      exact w_X7_look_35 _ _ _ _ _ _ ⟨fun c => absurd c (nI_nlt (b := i) (a := 6) (by omega) (by omega)), fun _ => h45⟩
