/-! SHEET, DROP, ITEM, FILM, COPY -/
def Inv0 (S : tS) : Prop := iD (S 1 0) (S 45 3) (S 2) (S 3) (S 4) (S 46) (S 47) (S 48) ∧ iE (S 2) (S 3) (S 4) (S 46) (S 47) (S 48) ∧ iK (S 5 0) (S 45 9) (S 0 2) (S 6) (S 7) (S 8) (S 9) (S 10) (S 49) (S 50) (S 51) (S 52) (S 53) ∧ iT (S 0 2) (S 45 10) ∧ iB (S 21 0) (S 45 12) (S 22) (S 54) ∧ iM (S 0 6) (S 45 17) (S 11 0) (S 15 0) (S 0 5) (S 12) (S 13) (S 14) (S 16) (S 17) (S 18) (S 19) (S 20) (S 57)
def iS (S : tS) (p : Nat) : Prop := iQ (S (37 + 2 * p) 0) (S (37 + 2 * p) 1) (S (38 + 2 * p)) p (S 58) (S 59) (S 60)
theorem Inv_iff {S : tS} : Inv S ↔ Inv0 S ∧ ∀ p, p < 4 → iS S p := by
  constructor
  · rintro ⟨h1, h2, h3, h4, h5, h6, q0, q1, q2, q3⟩
    refine ⟨⟨h1, h2, h3, h4, h5, h6⟩, fun p hp => ?_⟩
    match p, hp with
    | 0, _ => exact q0
    | 1, _ => exact q1
    | 2, _ => exact q2
    | 3, _ => exact q3
  · rintro ⟨⟨h1, h2, h3, h4, h5, h6⟩, h⟩
    exact ⟨h1, h2, h3, h4, h5, h6, h 0 (by omega), h 1 (by omega), h 2 (by omega), h 3 (by omega)⟩
def nearC (k : Nat) : Prop := k < 37 ∨ (45 ≤ k ∧ k ≤ 57)
def fr (S S' : tS) : Prop := ∀ k, nearC k → S' k = S k
theorem fr.u {S S' : tS} (h : fr S S') {k j : Nat} {x : Int32} (hk : ¬ nearC k) : fr S (tk_up S' k j x) := fun i hi => by
  have e : i ≠ k := fun e => by subst e; exact hk hi
  rw [tk_up_n e]
  exact h i hi
theorem fr.r {S S' : tS} (h : fr S S') {k : Nat} {f : Nat → Int32} (hk : ¬ nearC k) : fr S (tk_upR S' k f) := fun i hi => by
  have e : i ≠ k := fun e => by subst e; exact hk hi
  rw [tk_upR_n e]
  exact h i hi
theorem fr.refl {S : tS} : fr S S := fun _ _ => rfl
theorem fr.inv {S S' : tS} (h : fr S S') (hI : Inv0 S) : Inv0 S' := by
  unfold Inv0 at hI ⊢
  have g : ∀ k, (k < 37 ∨ (45 ≤ k ∧ k ≤ 57)) → S' k = S k := h
  rw [g 0 (by omega), g 1 (by omega), g 2 (by omega), g 3 (by omega), g 4 (by omega), g 5 (by omega), g 6 (by omega), g 7 (by omega), g 8 (by omega), g 9 (by omega), g 10 (by omega), g 11 (by omega), g 12 (by omega), g 13 (by omega), g 14 (by omega), g 15 (by omega), g 16 (by omega), g 17 (by omega), g 18 (by omega), g 19 (by omega), g 20 (by omega), g 21 (by omega), g 22 (by omega), g 45 (by omega), g 46 (by omega), g 47 (by omega), g 48 (by omega), g 49 (by omega), g 50 (by omega), g 51 (by omega), g 52 (by omega), g 53 (by omega), g 54 (by omega), g 57 (by omega)]
  exact hI
theorem nc1 {p : Nat} (hp : p < 4) : ¬ nearC (37 + 2 * p) := by unfold nearC; omega
theorem nc2 {p : Nat} (hp : p < 4) : ¬ nearC (38 + 2 * p) := by unfold nearC; omega
theorem ncn {k : Nat} (h : 58 ≤ k) : ¬ nearC k := by unfold nearC; omega
theorem sp_X7_refusalOf {Q : Int32 → tS → Prop} {S : tS} {a b : Int32} (kb : ¬ ((0 ≤ a.toInt ∧ a.toInt ≤ 3) ∧ 0 ≤ b.toInt ∧ b.toInt ≤ 2) → Q (-1) S) (k : ∀ p : Nat, p < 4 → a = nI p → 0 ≤ b.toInt ∧ b.toInt ≤ 2 → (S (37 + 2 * p) 1 = -1 → Q (-11) S) ∧ (¬ S (37 + 2 * p) 1 = -1 → (¬ S (37 + 2 * p) 0 = b → Q (-12) S) ∧ (S (37 + 2 * p) 0 = b → Q 0 S))) : tk_Ms mX7_refusalOf [.ref 0, .int a, .int b] S Q := by
  refine w_X7_refusalOf a b (sp_X7_isSheet (fun h => zf (okI (by decide) (kb (fun g => h g.1)))) (fun ha => zt (sp_X7_isLane (fun h => zf' (okI (by decide) (kb (fun g => h g.2)))) (fun hb => zt' ?_))))
  have ea := nI_of_t ha.1
  have ta := tn ha.1
  have hp : a.toNatClampNeg < 4 := by omega
  have k := k _ hp ea hb
  refine ⟨vin ha.1 (by omega), ?_⟩
  rw [ea]
  refine four (A := fun p => (¬ S (37 + 2 * p) 1 = -1 → (¬ S (37 + 2 * p) 0 = b → tk_okQ mX7_refusalOf Q (-12) S) ∧ (S (37 + 2 * p) 0 = b → tk_okQ mX7_refusalOf Q 0 S)) ∧ (S (37 + 2 * p) 1 = -1 → tk_okQ mX7_refusalOf Q (-11) S)) hp ?_
  exact ⟨fun h => ⟨fun g => okI (by decide) ((k.2 h).1 g), fun g => okI (by decide) ((k.2 h).2 g)⟩, fun h => okI (by decide) (k.1 h)⟩
theorem cpy1 {f g : Nat → Int32} {sp dp n : Nat} : upd (va_cpy f g sp dp n) (dp + n) (f (sp + n)) = va_cpy f g sp dp (n + 1) := by
  funext j
  unfold upd va_cpy
  by_cases h : j = dp + n
  · subst h
    rw [if_pos rfl, if_pos (by omega), show dp + n - dp = n by omega]
  · by_cases h2 : dp ≤ j ∧ j < dp + n
    · rw [if_neg h, if_pos h2, if_pos (by omega)]
    · rw [if_neg h, if_neg h2, if_neg (by omega)]
theorem cpy0 {f g : Nat → Int32} {sp dp : Nat} : va_cpy f g sp dp 0 = g := by
  funext j
  exact if_neg (by omega)
theorem itm {F G it items : Nat → Int32} {a a' p c n : Nat} (hc : c + n ≤ 24) (h : ∀ j, j < 24 → items (24 * p + j) = it j) (hFG : ∀ i, i < n → G (a' + i) = F (a + i)) : ∀ j, j < 24 → va_cpy G items a' (24 * p + c) n (24 * p + j) = va_cpy F it a c n j := by
  intro j hj
  unfold va_cpy
  by_cases e : c ≤ j ∧ j < c + n
  · rw [if_pos e, if_pos (by omega), show 24 * p + j - (24 * p + c) = j - c by omega]
    exact hFG _ (by omega)
  · rw [if_neg e, if_neg (by omega)]
    exact h j hj
theorem itn {G items : Nat → Int32} {a' p q c n j : Nat} (hc : c + n ≤ 24) (hq : q ≠ p) (hj : j < 24) : va_cpy G items a' (24 * p + c) n (24 * q + j) = items (24 * q + j) :=
  if_neg (by omega)
theorem m24 {p i : Nat} : (24 : Int32) * nI p + nI i = nI (24 * p + i) := by
  show nI 24 * nI p + nI i = _
  rw [pk_mul, nI_add]
theorem lp_X8_sheet {Q : Int32 → tS → Prop} {S : tS} {p : Nat} {b c : Int32} (hp : p < 4) (k : Q c (tk_upR S 60 (va_cpy (fun _ => 0) (S 60) 0 (24 * p + 0) 24))) : ∀ m i : Nat, i + m = 24 → tk_Gs mX8_sheet none 40 [.ref 45, .int (nI p), .int b, .int c, .int (nI i)] [] (tk_upR S 60 (va_cpy (fun _ => 0) (S 60) 0 (24 * p + 0) i)) Q
  | 0, i, e => by
    have e : i = 24 := e
    subst e
    exact w_X8_sheet_40 _ _ _ _ ⟨fun _ => k, fun c => absurd (nI_le (a := 24) (b := 24) (by omega) (by omega)) c⟩
  | m + 1, i, e => by
    refine w_X8_sheet_40 _ _ _ _ ⟨fun c => absurd c (nI_ge (a := i) (b := 24) (by omega) (by omega)), fun _ => ?_⟩
    rw [m24]
    refine ⟨vp_in_nI (by omega) (by omega), ?_⟩
    have := cpy1 (f := fun _ => 0) (g := S 60) (sp := 0) (dp := 24 * p + 0) (n := i)
    rw [nI_1, nI_c (by omega), upR_up, show 24 * p + i = 24 * p + 0 + i by omega, this]
    exact lp_X8_sheet hp k m (i + 1) (by omega)
theorem sp_X8_sheet {Q : Int32 → tS → Prop} {S : tS} {a b c : Int32} (kb : ¬ ((0 ≤ a.toInt ∧ a.toInt ≤ 3) ∧ (0 ≤ b.toInt ∧ b.toInt ≤ 2) ∧ c.toInt ≤ 24) → Q (-1) S) (kn : (0 ≤ a.toInt ∧ a.toInt ≤ 3) ∧ (0 ≤ b.toInt ∧ b.toInt ≤ 2) ∧ c.toInt < 0 → Q (-14) S) (k : ∀ p : Nat, p < 4 → a = nI p → 0 ≤ b.toInt ∧ b.toInt ≤ 2 → 0 ≤ c.toInt ∧ c.toInt ≤ 24 → Q c (tk_upR (tk_up (tk_up S 58 p b) 59 p c) 60 (va_cpy (fun _ => 0) (S 60) 0 (24 * p + 0) 24))) : tk_Ms mX8_sheet [.ref 45, .int a, .int b, .int c] S Q := by
  refine w_X8_sheet a b c (sp_X8_isSheet (fun h => zf (okI (by decide) (kb (fun g => h ⟨g.1, g.2.1⟩)))) (fun hab => zt ⟨fun c1 => ⟨fun c0 => ?_, fun c0 => okI (by decide) (kn ⟨hab.1, hab.2, ?_⟩)⟩, fun c1 => okI (by decide) (kb (fun g => ?_))⟩))
  · have ea := nI_of_t hab.1.1
    have ta := tn hab.1.1
    have hp : a.toNatClampNeg < 4 := by omega
    rw [xle] at c1 c0
    have := k _ hp ea hab.2 ⟨c0, c1⟩
    have va : vp_in a 4 := vin hab.1.1 (by omega)
    refine ⟨va, va, ?_⟩
    have h0 := lp_X8_sheet (S := tk_up (tk_up S 58 a.toNatClampNeg b) 59 a.toNatClampNeg c) (b := b) hp (okI (μ := mX8_sheet) (by decide) this) 24 0 rfl
    rw [cpy0, upR_self, ← ea] at h0
    exact h0
  · rw [xle] at c0
    simp only [Int32.reduceToInt] at c0
    omega
  · rw [xle] at c1
    exact c1 g.2.2
def iL (S : tS) (p : Nat) : Prop := (S (37 + 2 * p) 1 = -1 ∧ S 58 p = -1) ∨ (0 ≤ (S (37 + 2 * p) 1).toInt ∧ (S (37 + 2 * p) 1).toInt ≤ 24 ∧ S 59 p = S (37 + 2 * p) 1 ∧ S 58 p = S (37 + 2 * p) 0 ∧ 0 ≤ (S (37 + 2 * p) 0).toInt ∧ (S (37 + 2 * p) 0).toInt ≤ 2)
theorem rng {S : tS} {p : Nat} (h : iL S p) : -1 ≤ (S (37 + 2 * p) 1).toInt ∧ (S (37 + 2 * p) 1).toInt ≤ 24 := by
  rcases h with ⟨h1, _⟩ | ⟨h1, h2, _⟩
  · rw [h1]; decide
  · omega
theorem pr_sheet {S : tS} (hI : Inv S) (a b c : Int32) : tk_Ms mX7_sheet [.ref 0, .int a, .int b, .int c] S (fun x S1 => tk_Ms mX8_sheet [.ref 45, .int a, .int b, .int c] S1 (fun y S2 => x = y ∧ Inv S2)) := by
  obtain ⟨i0, iq⟩ := Inv_iff.mp hI
  have mB : ¬ ((0 ≤ a.toInt ∧ a.toInt ≤ 3) ∧ (0 ≤ b.toInt ∧ b.toInt ≤ 2) ∧ c.toInt ≤ 24) → tk_Ms mX8_sheet [.ref 45, .int a, .int b, .int c] S (fun y S2 => -1 = y ∧ Inv S2) := fun h =>
    sp_X8_sheet (fun _ => ⟨rfl, hI⟩) (fun g => absurd ⟨g.1, g.2.1, by omega⟩ h) (fun p hp ea hb hc => absurd ⟨by rw [ea, nI_t (by omega)]; omega, hb, hc.2⟩ h)
  refine w_X7_sheet a b c (sp_X7_isSheet (fun h => zf (okI (by decide) (mB (fun g => h g.1)))) (fun ha => zt (sp_X7_isLane (fun h => zf (okI (by decide) (mB (fun g => h g.2.1)))) (fun hb => zt ⟨fun c1 => ⟨fun c0 => ?_, fun c0 => okI (by decide) ?_⟩, fun c1 => okI (by decide) (mB (fun g => ?_))⟩))))
  · rw [xle] at c0 c1
    have ea := nI_of_t ha.1
    have ta := tn ha.1
    have hp : a.toNatClampNeg < 4 := by omega
    refine ⟨vin ha.1 (by omega), ?_⟩
    generalize a.toNatClampNeg = p at ea ta hp
    subst ea
    refine four (A := fun q => tk_Ms mX4_renew [.ref (37 + 2 * q), .int b, .int c] S (fun _ S11 => tk_okQ mX7_sheet (fun x S1 => tk_Ms mX8_sheet [.ref 45, .int (nI p), .int b, .int c] S1 (fun y S2 => x = y ∧ Inv S2)) c S11)) hp (sp_X4_renew hp (okI (by decide) (sp_X8_sheet (fun h => absurd ⟨ha, hb, c1⟩ h) (fun h => absurd h.2.2 (by simp only [Int32.reduceToInt] at c0; omega)) (fun p' hp' ea' _ hc => ?_))))
    have ep : p' = p := by
      rw [xeq, nI_t (by omega), nI_t (by omega)] at ea'
      omega
    subst ep
    refine ⟨rfl, Inv_iff.mpr ⟨(((((fr.refl.u (nc1 hp)).u (nc1 hp)).r (nc2 hp)).u (ncn (by decide))).u (ncn (by decide)) |>.r (ncn (by decide))).inv i0, fun q hq => ?_⟩⟩
    obtain ⟨k1, k2⟩ := iq q hq
    unfold iS iQ
    by_cases e : q = p'
    · subst e
      simp (disch := omega) only [tk_upR_s, tk_up_s, tk_upR_n, tk_up_n, upd_s, upd_n]
      refine ⟨Or.inr ⟨hc.1, hc.2, trivial, trivial, hb⟩, fun j hj => ?_⟩
      unfold va_cpy z24
      rw [if_pos (by omega), if_pos hj]
    · simp (disch := omega) only [tk_upR_s, tk_up_s, tk_upR_n, tk_up_n, upd_s, upd_n]
      exact ⟨k1, fun j hj => (itn (by omega) e hj).trans (k2 j hj)⟩
  · rw [xle] at c0
    simp only [Int32.reduceToInt] at c0
    exact sp_X8_sheet (fun h => absurd ⟨ha, hb, by omega⟩ h) (fun _ => ⟨rfl, hI⟩) (fun p hp ea hb hc => by omega)
  · rw [xle] at c1
    exact c1 g.2.2
theorem pr_drop {S : tS} (hI : Inv S) (a : Int32) : tk_Ms mX7_drop [.ref 0, .int a] S (fun x S1 => tk_Ms mX8_drop [.ref 45, .int a] S1 (fun y S2 => x = y ∧ Inv S2)) := by
  obtain ⟨i0, iq⟩ := Inv_iff.mp hI
  refine w_X7_drop a (sp_X7_isSheet (fun h => zf' (okI (by decide) (w_X8_drop a (sp_X8_in (fun _ => zf' (okI (by decide) ⟨rfl, hI⟩)) (fun g => absurd (by simpa only [l64, Int64.reduceToInt] using g) h))))) (fun ha => zt' ?_))
  have ea := nI_of_t ha.1
  have ta := tn ha.1
  have hp : a.toNatClampNeg < 4 := by omega
  have va : vp_in a 4 := vin ha.1 (by omega)
  refine ⟨va, ?_⟩
  have m8 : ∀ {S1 : tS} {T : Int32 → tS → Prop}, (0 ≤ (S1 58 a.toNatClampNeg).toInt → T (S1 59 a.toNatClampNeg) (tk_up S1 58 a.toNatClampNeg (-1))) → (¬ 0 ≤ (S1 58 a.toNatClampNeg).toInt → T (-11) S1) → tk_Ms mX8_drop [.ref 45, .int a] S1 T := by
    intro S1 T k1 k2
    exact w_X8_drop a (sp_X8_in (fun g => absurd (by simpa only [l64, Int64.reduceToInt] using ha) g) (fun _ => zt' ⟨va, fun c => ⟨va, va, okI (by decide) (k1 (by rw [xle] at c; exact c))⟩, fun c => okI (by decide) (k2 (by rw [xle] at c; exact c))⟩))
  generalize a.toNatClampNeg = p at ea ta hp m8
  subst ea
  refine four (A := fun q => (¬ S (37 + 2 * q) 1 = -1 → tk_okQ mX7_drop (fun x S1 => tk_Ms mX8_drop [.ref 45, .int (nI p)] S1 (fun y S2 => x = y ∧ Inv S2)) (S (37 + 2 * q) 1) (tk_up S (37 + 2 * q) 1 (-1))) ∧ (S (37 + 2 * q) 1 = -1 → tk_okQ mX7_drop (fun x S1 => tk_Ms mX8_drop [.ref 45, .int (nI p)] S1 (fun y S2 => x = y ∧ Inv S2)) (-11) S)) hp ?_
  obtain ⟨h1, h2⟩ := iq p hp
  refine ⟨fun c => okI (by decide) ?_, fun c => okI (by decide) ?_⟩
  · rcases h1 with h1 | ⟨g1, g2, g3, g4, g5, g6⟩
    · exact absurd h1.1 c
    · have e8 : (tk_up S (37 + 2 * p) 1 (-1)) 58 = S 58 := tk_up_n (by omega)
      have e9 : (tk_up S (37 + 2 * p) 1 (-1)) 59 = S 59 := tk_up_n (by omega)
      refine m8 (fun _ => ?_) (fun z => absurd (by rw [e8, g4]; exact g5) z)
      rw [e9]
      refine ⟨g3.symm, Inv_iff.mpr ⟨((fr.refl.u (nc1 hp)).u (ncn (by decide))).inv i0, fun q hq => ?_⟩⟩
      obtain ⟨k1, k2⟩ := iq q hq
      unfold iS iQ
      by_cases e : q = p
      · subst e
        simp (disch := omega) only [tk_upR_s, tk_up_s, tk_upR_n, tk_up_n, upd_s, upd_n]
        exact ⟨Or.inl ⟨trivial, trivial⟩, h2⟩
      · simp (disch := omega) only [tk_upR_s, tk_up_s, tk_upR_n, tk_up_n, upd_s, upd_n]
        exact ⟨k1, k2⟩
  · rcases h1 with ⟨_, h1⟩ | ⟨g1, _⟩
    · exact m8 (fun z => absurd z (by rw [h1]; decide)) (fun _ => ⟨rfl, hI⟩)
    · rw [c] at g1
      exact absurd g1 (by decide)
theorem sp_X8_lacksRow {Q : Int32 → tS → Prop} {S : tS} {p : Nat} {b c n : Int32} (hp : p < 4) (hb : 0 ≤ b.toInt ∧ b.toInt ≤ 2) (hn : 0 ≤ n.toInt ∧ n.toInt ≤ 8) (h : iL S p) (k1 : S (37 + 2 * p) 1 = -1 → Q (-11) S) (k2 : ¬ S (37 + 2 * p) 1 = -1 → ¬ S (37 + 2 * p) 0 = b → Q (-12) S) (k3 : ¬ S (37 + 2 * p) 1 = -1 → S (37 + 2 * p) 0 = b → (¬ hd S p c n → Q (-13) S) ∧ (hd S p c n → Q 0 S)) : tk_Ms mX8_lacksRow [.ref 45, .int (nI p), .int b, .int c, .int n] S Q := by
  have v : vp_in (nI p) 4 := vp_in_nI hp (by omega)
  have cc : (nI p).toNatClampNeg = p := nI_c (by omega)
  refine w_X8_lacksRow _ _ _ _ ⟨v, fun d => ⟨v, ?_⟩, fun d => ⟨v, fun e => okI (by decide) ?_, fun e => okI (by decide) ?_⟩⟩ <;> rw [cc] at d
  · rcases h with ⟨g1, g2⟩ | ⟨g1, g2, g3, g4, g5, g6⟩
    · rw [g2] at d
      rw [← d, tneg1] at hb
      omega
    · have en : ¬ S (37 + 2 * p) 1 = -1 := fun z => by rw [z] at g1; exact absurd g1 (by decide)
      have el : S (37 + 2 * p) 0 = b := by rw [← g4, d]
      have es : (S 59 p - n).toInt = (S (37 + 2 * p) 1).toInt - n.toInt := by rw [subT, g3] <;> rw [g3] <;> omega
      obtain ⟨j1, j2⟩ := k3 en el
      rw [cc]
      refine sp_X8_in (fun z => zf (okI (by decide) (j1 (fun w => z ?_)))) (fun z => zt (okI (by decide) (j2 ?_)))
      · simp only [l64, Int64.reduceToInt]
        rw [es]
        obtain ⟨w1, w2, w3⟩ := w
        exact ⟨w1, by omega⟩
      · simp only [l64, Int64.reduceToInt] at z
        rw [es] at z
        exact ⟨z.1, hn.1, by omega⟩
  · rw [cc, xle] at e
    rcases h with ⟨g1, g2⟩ | ⟨g1, g2, g3, g4, g5, g6⟩
    · rw [g2] at e
      exact absurd e (by decide)
    · exact k2 (fun z => by rw [z] at g1; exact absurd g1 (by decide)) (fun z => d (by rw [g4, z]))
  · rw [cc, xle] at e
    rcases h with ⟨g1, g2⟩ | ⟨g1, g2, g3, g4, g5, g6⟩
    · exact k1 g1
    · exact absurd (by rw [g4]; exact g5) e
theorem pr_item {S : tS} (hI : Inv S) (a b c d : Int32) : tk_Ms mX7_item [.ref 0, .int a, .int b, .int c, .int d] S (fun x S1 => tk_Ms mX8_item [.ref 45, .int a, .int b, .int c, .int d] S1 (fun y S2 => x = y ∧ Inv S2)) := by
  obtain ⟨i0, iq⟩ := Inv_iff.mp hI
  have nine : ∀ {T : Int32 → tS → Prop} {S1 : tS} {p : Nat}, p < 4 → 0 ≤ b.toInt ∧ b.toInt ≤ 2 → iL S1 p → (S1 (37 + 2 * p) 1 = -1 → T (-11) S1) → (¬ S1 (37 + 2 * p) 1 = -1 → ¬ S1 (37 + 2 * p) 0 = b → T (-12) S1) → (¬ S1 (37 + 2 * p) 1 = -1 → S1 (37 + 2 * p) 0 = b → (¬ hd S1 p c 1 → T (-13) S1) ∧ (hd S1 p c 1 → T 1 (tk_up S1 60 (24 * p + c.toNatClampNeg) (asL b d)))) → tk_Ms mX8_item [.ref 45, .int (nI p), .int b, .int c, .int d] S1 T := by
    intro T S1 p hp hb hs k1 k2 k3
    refine w_X8_item _ _ _ _ (sp_X8_isSheet (fun g => absurd ⟨by rw [nI_t (by omega)]; omega, hb⟩ g) (fun _ => zt' (sp_X8_lacksRow hp hb (by decide) hs (fun g => ?_) (fun g g' => ?_) (fun g g' => ⟨fun z => ?_, fun z => ?_⟩))))
    · exact ⟨fun w => absurd w (by decide), fun _ => okI (by decide) (k1 g)⟩
    · exact ⟨fun w => absurd w (by decide), fun _ => okI (by decide) (k2 g g')⟩
    · exact ⟨fun w => absurd w (by decide), fun _ => okI (by decide) ((k3 g g').1 z)⟩
    · refine ⟨fun w => sp_X8_asLane ?_, fun w => absurd (by decide) w⟩
      have ec := nI_of_t z.1
      have tc := tn z.1
      have h24 := (rng hs).2
      obtain ⟨z1, z2, z3⟩ := z
      simp only [Int32.reduceToInt] at z3
      have e24 : (24 : Int32) * nI p + c = nI (24 * p + c.toNatClampNeg) := by
        conv => lhs; rw [ec]
        exact m24
      rw [e24, nI_c (by omega)]
      exact ⟨vp_in_nI (by omega) (by omega), okI (by decide) ((k3 g g').2 ⟨z1, z2, by simp only [Int32.reduceToInt]; omega⟩)⟩
  refine w_X7_item a b c d (sp_X7_refusalOf (fun h => ?_) (fun p hp ea hb => ⟨fun g => ?_, fun g => ⟨fun g' => ?_, fun g' => ?_⟩⟩))
  · exact ⟨fun e => absurd e (by decide), fun _ => okI (by decide) (w_X8_item _ _ _ _ (sp_X8_isSheet (fun _ => zf' (okI (by decide) ⟨rfl, hI⟩)) (fun z => absurd z h)))⟩
  · subst ea
    exact ⟨fun e => absurd e (by decide), fun _ => okI (by decide) (nine hp hb (iq p hp).1 (fun _ => ⟨rfl, hI⟩) (fun z => absurd g z) (fun z => absurd g z))⟩
  · subst ea
    exact ⟨fun e => absurd e (by decide), fun _ => okI (by decide) (nine hp hb (iq p hp).1 (fun z => absurd z g) (fun _ _ => ⟨rfl, hI⟩) (fun _ z => absurd z g'))⟩
  · subst ea
    refine zf ⟨vp_in_nI hp (by omega), ?_⟩
    refine four (A := fun q => tk_Ms mX4_holds [.ref (37 + 2 * q), .int c, .int 1] S (fun x5 S6 => (¬ x5 = 0 → (tk_Ms mX4_put [.ref (37 + 2 * q), .int c, .int d] S6 (fun _ S9 => tk_okQ mX7_item (fun x S1 => tk_Ms mX8_item [.ref 45, .int (nI p), .int b, .int c, .int d] S1 (fun y S2 => x = y ∧ Inv S2)) 1 S9))) ∧ (x5 = 0 → tk_okQ mX7_item (fun x S1 => tk_Ms mX8_item [.ref 45, .int (nI p), .int b, .int c, .int d] S1 (fun y S2 => x = y ∧ Inv S2)) (-13) S6))) hp ?_
    refine sp_X4_holds hp (rng (iq p hp).1) (fun z => zf' (okI (by decide) (nine hp hb (iq p hp).1 (fun z => absurd z g) (fun _ z => absurd g' z) (fun _ _ => ⟨fun _ => ⟨rfl, hI⟩, fun w => absurd w z⟩)))) (fun z => zt' ?_)
    have ec := nI_of_t z.1
    have tc := tn z.1
    have h24 := (rng (iq p hp).1).2
    have z' := z
    obtain ⟨z1, z2, z3⟩ := z
    simp only [Int32.reduceToInt] at z3
    have hc : c.toNatClampNeg + 1 ≤ 24 := by omega
    have hl := (iq p hp).1
    have key : ∀ j : Nat, c = nI j → j + 1 ≤ 24 → tk_Ms mX4_put [.ref (37 + 2 * p), .int c, .int d] S (fun _ S9 => tk_okQ mX7_item (fun x S1 => tk_Ms mX8_item [.ref 45, .int (nI p), .int b, .int c, .int d] S1 (fun y S2 => x = y ∧ Inv S2)) 1 S9) := by
      intro j hj hj2
      have cj : c.toNatClampNeg = j := by rw [hj, nI_c (by omega)]
      conv => arg 2; rw [hj]
      refine sp_X4_put hp (by omega) (okI (by decide) ?_)
      rw [g']
      have e1 : (tk_up S (38 + 2 * p) j (asL b d)) (37 + 2 * p) = S (37 + 2 * p) := tk_up_n (by omega)
      have e2 : (tk_up S (38 + 2 * p) j (asL b d)) 58 = S 58 := tk_up_n (by omega)
      have e3 : (tk_up S (38 + 2 * p) j (asL b d)) 59 = S 59 := tk_up_n (by omega)
      refine nine hp hb (by unfold iL; rw [e1, e2, e3]; exact hl) (fun w => absurd (by rw [e1] at w; exact w) g) (fun _ w => absurd (by rw [e1]; exact g') w) (fun _ _ => ⟨fun w => absurd (by unfold hd; rw [e1]; exact z') w, fun _ => ⟨rfl, Inv_iff.mpr ⟨((fr.refl.u (nc2 hp)).u (ncn (by decide))).inv i0, fun q hq => ?_⟩⟩⟩)
      rw [cj]
      obtain ⟨k1, k2⟩ := iq q hq
      unfold iS iQ
      by_cases e : q = p
      · subst e
        simp (disch := omega) only [tk_upR_s, tk_up_s, tk_upR_n, tk_up_n]
        refine ⟨k1, fun i hi => ?_⟩
        by_cases eij : i = j
        · subst eij
          rw [upd_s, upd_s]
        · rw [upd_n eij, upd_n (by omega)]
          exact k2 i hi
      · simp (disch := omega) only [tk_upR_s, tk_up_s, tk_upR_n, tk_up_n]
        refine ⟨k1, fun i hi => ?_⟩
        rw [upd_n (by omega)]
        exact k2 i hi
    exact key _ ec (by omega)
