/-! FILM, COPY -/
theorem asL_small : ∀ c, c < 31 → (nI c).toInt8.toInt32 = nI c ∧ (nI c).toInt16.toInt32 = nI c := by decide +kernel
theorem asL_id {l x : Int32} (h0 : 0 ≤ x.toInt) (h1 : x.toInt ≤ 30) : asL l x = x := by
  have e := nI_of_t h0
  have t := tn h0
  have := asL_small x.toNatClampNeg (by omega)
  rw [← e] at this
  unfold asL
  split
  · exact this.1
  · split
    · exact this.2
    · rfl
theorem lp_X7_film {Q : Int32 → tS → Prop} {S : tS} {p c n : Nat} {b l4 : Int32} (hp : p < 4) (hn : n ≤ 8) (hc : c + n ≤ 24) (h5 : S 5 0 = nI n) (hs : ∀ i, i < n → 0 ≤ (S 9 i).toInt ∧ (S 9 i).toInt ≤ 30) (k : Q (nI n) (tk_upR S (38 + 2 * p) (va_cpy (S 9) (S (38 + 2 * p)) 0 c n))) : ∀ m i : Nat, i + m = n → tk_Gs mX7_film none 42 [.ref 0, .int (nI p), .int b, .int (nI c), .int l4, .int (nI i)] [] (tk_upR S (38 + 2 * p) (va_cpy (S 9) (S (38 + 2 * p)) 0 c i)) Q := by
  intro m
  induction m with
  | zero =>
    intro i e
    have e : i = n := e
    subst e
    have e5 : (tk_upR S (38 + 2 * p) (va_cpy (S 9) (S (38 + 2 * p)) 0 c i)) 5 = S 5 := tk_upR_n (by omega)
    refine w_X7_film_42 _ _ _ _ _ ⟨fun _ => ?_, fun c => absurd (by rw [e5, h5]; exact nI_le (Nat.le_refl _) (by omega)) c⟩
    rw [e5, h5]
    exact k
  | succ m ih =>
    intro i e
    have e5 : (tk_upR S (38 + 2 * p) (va_cpy (S 9) (S (38 + 2 * p)) 0 c i)) 5 = S 5 := tk_upR_n (by omega)
    have e9 : (tk_upR S (38 + 2 * p) (va_cpy (S 9) (S (38 + 2 * p)) 0 c i)) 9 = S 9 := tk_upR_n (by omega)
    refine w_X7_film_42 _ _ _ _ _ ⟨fun g => absurd g (by rw [e5, h5]; exact nI_ge (by omega) (by omega)), fun _ => ⟨vp_in_nI hp (by omega), ?_⟩⟩
    rw [nI_add, nI_c (by omega), nI_1, e9]
    refine four (A := fun q => vp_in (nI i) 8 ∧ tk_Ms mX4_put [.ref (37 + 2 * q), .int (nI (c + i)), .int (S 9 i)] (tk_upR S (38 + 2 * p) (va_cpy (S 9) (S (38 + 2 * p)) 0 c i)) (fun _ S4 => tk_Gs mX7_film none 42 [.ref 0, .int (nI p), .int b, .int (nI c), .int l4, .int (nI (i + 1))] [] S4 Q)) hp ⟨vp_in_nI (by omega) (by omega), sp_X4_put hp (by omega) ?_⟩
    rw [asL_id (hs i (by omega)).1 (hs i (by omega)).2, upR_up]
    have := cpy1 (f := S 9) (g := S (38 + 2 * p)) (sp := 0) (dp := c) (n := i)
    rw [Nat.zero_add] at this
    rw [this]
    exact ih (i + 1) (by omega)
theorem lp_X8_film {Q : Int32 → tS → Prop} {S : tS} {p c n : Nat} {b l4 : Int32} (hp : p < 4) (hn : n ≤ 8) (hc : c + n ≤ 24) (h5 : S 45 9 = nI n) (k : Q (nI n) (tk_upR S 60 (va_cpy (S 52) (S 60) 0 (24 * p + c) n))) : ∀ m i : Nat, i + m = n → tk_Gs mX8_film none 34 [.ref 45, .int (nI p), .int b, .int (nI c), .int l4, .int (nI i)] [] (tk_upR S 60 (va_cpy (S 52) (S 60) 0 (24 * p + c) i)) Q
  | 0, i, e => by
    have e : i = n := e
    subst e
    refine w_X8_film_34 _ _ _ _ _ ⟨fun _ => ?_, fun c => absurd (show S 45 9 ≤ nI i by rw [h5]; exact nI_le (Nat.le_refl _) (by omega)) c⟩
    show Q (S 45 9) _
    rw [h5]
    exact k
  | m + 1, i, e => by
    refine w_X8_film_34 _ _ _ _ _ ⟨fun g => absurd g (show ¬ S 45 9 ≤ nI i by rw [h5]; exact nI_ge (by omega) (by omega)), fun _ => ⟨vp_in_nI (by omega) (by omega), ?_⟩⟩
    rw [m24, nI_add, nI_c (by omega), nI_c (by omega), nI_1, upR_up]
    refine ⟨vp_in_nI (by omega) (by omega), ?_⟩
    have := cpy1 (f := S 52) (g := S 60) (sp := 0) (dp := 24 * p + c) (n := i)
    rw [Nat.zero_add] at this
    show tk_Gs mX8_film none 34 _ [] (tk_upR S 60 (upd (va_cpy (S 52) (S 60) 0 (24 * p + c) i) (24 * p + c + i) (S 52 i))) Q
    rw [this]
    exact lp_X8_film hp hn hc h5 k m (i + 1) (by omega)
theorem pr_film {S : tS} (hI : Inv S) (a b c : Int32) : tk_Ms mX7_film [.ref 0, .int a, .int b, .int c] S (fun x S1 => tk_Ms mX8_film [.ref 45, .int a, .int b, .int c] S1 (fun y S2 => x = y ∧ Inv S2)) := by
  obtain ⟨i0, iq⟩ := Inv_iff.mp hI
  obtain ⟨n, hn, e1, e2, hK⟩ := hI.keys
  have tn8 : 0 ≤ (nI n).toInt ∧ (nI n).toInt ≤ 8 := by rw [nI_t (by omega)]; omega
  have nine : ∀ {T : Int32 → tS → Prop} {S1 : tS} {p : Nat}, p < 4 → 0 ≤ b.toInt ∧ b.toInt ≤ 2 → S1 45 9 = nI n → iL S1 p → (S1 (37 + 2 * p) 1 = -1 → T (-11) S1) → (¬ S1 (37 + 2 * p) 1 = -1 → ¬ S1 (37 + 2 * p) 0 = b → T (-12) S1) → (¬ S1 (37 + 2 * p) 1 = -1 → S1 (37 + 2 * p) 0 = b → (¬ hd S1 p c (nI n) → T (-13) S1) ∧ (hd S1 p c (nI n) → T (nI n) (tk_upR S1 60 (va_cpy (S1 52) (S1 60) 0 (24 * p + c.toNatClampNeg) n)))) → tk_Ms mX8_film [.ref 45, .int (nI p), .int b, .int c] S1 T := by
    intro T S1 p hp hb h9 hs k1 k2 k3
    refine w_X8_film _ _ _ (sp_X8_isSheet (fun g => absurd ⟨by rw [nI_t (by omega)]; omega, hb⟩ g) (fun _ => zt' ?_))
    rw [h9]
    refine sp_X8_lacksRow hp hb tn8 hs (fun g => ?_) (fun g g' => ?_) (fun g g' => ⟨fun z => ?_, fun z => ?_⟩)
    · exact ⟨fun w => absurd w (by decide), fun _ => okI (by decide) (k1 g)⟩
    · exact ⟨fun w => absurd w (by decide), fun _ => okI (by decide) (k2 g g')⟩
    · exact ⟨fun w => absurd w (by decide), fun _ => okI (by decide) ((k3 g g').1 z)⟩
    · refine ⟨fun w => ?_, fun w => absurd (by decide) w⟩
      have ec := nI_of_t z.1
      have tc := tn z.1
      have h24 := (rng hs).2
      have kk := (k3 g g').2 z
      obtain ⟨z1, z2, z3⟩ := z
      rw [nI_t (by omega)] at z3
      have := lp_X8_film (S := S1) (p := p) (c := c.toNatClampNeg) (b := b) (l4 := 0) hp hn (by omega) h9 (okI (μ := mX8_film) (by decide) kk) n 0 (by omega)
      rw [cpy0, upR_self, ← ec] at this
      exact this
  refine w_X7_film a b c (sp_X7_refusalOf (fun h => ?_) (fun p hp ea hb => ⟨fun g => ?_, fun g => ⟨fun g' => ?_, fun g' => ?_⟩⟩))
  · exact ⟨fun e => absurd e (by decide), fun _ => okI (by decide) (w_X8_film _ _ _ (sp_X8_isSheet (fun _ => zf' (okI (by decide) ⟨rfl, hI⟩)) (fun z => absurd z h)))⟩
  · subst ea
    exact ⟨fun e => absurd e (by decide), fun _ => okI (by decide) (nine hp hb e2 (iq p hp).1 (fun _ => ⟨rfl, hI⟩) (fun z => absurd g z) (fun z => absurd g z))⟩
  · subst ea
    exact ⟨fun e => absurd e (by decide), fun _ => okI (by decide) (nine hp hb e2 (iq p hp).1 (fun z => absurd z g) (fun _ _ => ⟨rfl, hI⟩) (fun _ z => absurd z g'))⟩
  · subst ea
    refine zf ⟨vp_in_nI hp (by omega), ?_⟩
    rw [e1]
    refine four (A := fun q => tk_Ms mX4_holds [.ref (37 + 2 * q), .int c, .int (nI n)] S (fun x5 S6 => (¬ x5 = 0 → tk_Gs mX7_film none 42 [.ref 0, .int (nI p), .int b, .int c, .int 0, .int 0] [] S6 (tk_okQ mX7_film (fun x S1 => tk_Ms mX8_film [.ref 45, .int (nI p), .int b, .int c] S1 (fun y S2 => x = y ∧ Inv S2)))) ∧ (x5 = 0 → tk_okQ mX7_film (fun x S1 => tk_Ms mX8_film [.ref 45, .int (nI p), .int b, .int c] S1 (fun y S2 => x = y ∧ Inv S2)) (-13) S6))) hp ?_
    have hl := (iq p hp).1
    refine sp_X4_holds hp (rng hl) (fun z => zf' (okI (by decide) (nine hp hb e2 hl (fun z => absurd z g) (fun _ z => absurd g' z) (fun _ _ => ⟨fun _ => ⟨rfl, hI⟩, fun w => absurd w z⟩)))) (fun z => zt' ?_)
    have ec := nI_of_t z.1
    have tc := tn z.1
    have h24 := (rng hl).2
    have z' := z
    obtain ⟨z1, z2, z3⟩ := z
    rw [nI_t (by omega)] at z3
    have key : ∀ j : Nat, c = nI j → j + n ≤ 24 → tk_Gs mX7_film none 42 [.ref 0, .int (nI p), .int b, .int c, .int 0, .int 0] [] S (tk_okQ mX7_film (fun x S1 => tk_Ms mX8_film [.ref 45, .int (nI p), .int b, .int c] S1 (fun y S2 => x = y ∧ Inv S2))) := by
      intro j hj hj2
      have cj : c.toNatClampNeg = j := by rw [hj, nI_c (by omega)]
      have e1' : (tk_upR S (38 + 2 * p) (va_cpy (S 9) (S (38 + 2 * p)) 0 j n)) (37 + 2 * p) = S (37 + 2 * p) := tk_upR_n (by omega)
      have e2' : (tk_upR S (38 + 2 * p) (va_cpy (S 9) (S (38 + 2 * p)) 0 j n)) 58 = S 58 := tk_upR_n (by omega)
      have e3' : (tk_upR S (38 + 2 * p) (va_cpy (S 9) (S (38 + 2 * p)) 0 j n)) 59 = S 59 := tk_upR_n (by omega)
      have e4' : (tk_upR S (38 + 2 * p) (va_cpy (S 9) (S (38 + 2 * p)) 0 j n)) 45 = S 45 := tk_upR_n (by omega)
      have := lp_X7_film (S := S) (p := p) (c := j) (b := b) (l4 := 0) (Q := tk_okQ mX7_film (fun x S1 => tk_Ms mX8_film [.ref 45, .int (nI p), .int b, .int c] S1 (fun y S2 => x = y ∧ Inv S2))) hp hn hj2 e1 (fun i hi => ⟨(hK i hi).2.2.2.2.2.2.2.2.2.2.2.1, (hK i hi).2.2.2.2.2.2.2.2.2.2.2.2.1⟩) (okI (by decide) ?_) n 0 (by omega)
      · rw [cpy0, upR_self, ← hj] at this
        exact this
      · refine nine hp hb (by rw [e4']; exact e2) (by unfold iL; rw [e1', e2', e3']; exact hl) (fun w => absurd (by rw [e1'] at w; exact w) g) (fun _ w => absurd (by rw [e1']; exact g') w) (fun _ _ => ⟨fun w => absurd (by unfold hd; rw [e1']; exact z') w, fun _ => ⟨rfl, Inv_iff.mpr ⟨((fr.refl.r (nc2 hp)).r (ncn (by decide))).inv i0, fun q hq => ?_⟩⟩⟩)
        rw [cj]
        obtain ⟨k1, k2⟩ := iq q hq
        unfold iS iQ
        by_cases e : q = p
        · subst e
          simp (disch := omega) only [tk_upR_s, tk_upR_n]
          exact ⟨k1, itm hj2 k2 (fun i hi => (hK _ (by omega)).2.2.2.1)⟩
        · simp (disch := omega) only [tk_upR_s, tk_upR_n]
          exact ⟨k1, fun i hi => (itn hj2 e hi).trans (k2 i hi)⟩
    exact key _ ec (by omega)

