/-! ASKED: the pair -/
theorem Inv.cong2 {S V : tS} (hI : Inv S) (h : ∀ c, (c < 30 ∨ 35 < c) ∧ c ≠ 61 ∧ c ≠ 62 → V c = S c) : Inv V := by
  unfold Inv at hI ⊢
  rw [h 0 (by decide), h 1 (by decide), h 2 (by decide), h 3 (by decide), h 4 (by decide), h 5 (by decide), h 6 (by decide), h 7 (by decide), h 8 (by decide), h 9 (by decide), h 10 (by decide), h 11 (by decide), h 12 (by decide), h 13 (by decide), h 14 (by decide), h 15 (by decide), h 16 (by decide), h 17 (by decide), h 18 (by decide), h 19 (by decide), h 20 (by decide), h 21 (by decide), h 22 (by decide), h 37 (by decide), h 38 (by decide), h 39 (by decide), h 40 (by decide), h 41 (by decide), h 42 (by decide), h 43 (by decide), h 44 (by decide), h 45 (by decide), h 46 (by decide), h 47 (by decide), h 48 (by decide), h 49 (by decide), h 50 (by decide), h 51 (by decide), h 52 (by decide), h 53 (by decide), h 54 (by decide), h 57 (by decide), h 58 (by decide), h 59 (by decide), h 60 (by decide)]
  exact hI
theorem sp_X8_lacksRw {Q : Int32 → tS → Prop} {S : tS} {p : Nat} {b c n : Int32} (hp : p < 4) (hb : 0 ≤ b.toInt ∧ b.toInt ≤ 2) (hn : 0 ≤ n.toInt ∧ n.toInt ≤ 24) (h : iL S p) (k1 : S (37 + 2 * p) 1 = -1 → Q (-11) S) (k2 : ¬ S (37 + 2 * p) 1 = -1 → ¬ S (37 + 2 * p) 0 = b → Q (-12) S) (k3 : ¬ S (37 + 2 * p) 1 = -1 → S (37 + 2 * p) 0 = b → (¬ hd S p c n → Q (-13) S) ∧ (hd S p c n → Q 0 S)) : tk_Ms mX8_lacksRow [.ref 45, .int (nI p), .int b, .int c, .int n] S Q := by
  have v : vp_in (nI p) 4 := vp_in_nI hp (by omega)
  have cc : (nI p).toNatClampNeg = p := nI_c (by omega)
  refine w_X8_lacksRow _ _ _ _ ⟨v, fun d => ⟨v, ?_⟩, fun d => ⟨v, fun e => okI (by decide) ?_, fun e => okI (by decide) ?_⟩⟩ <;> rw [cc] at d
  · rcases h with ⟨g1, g2⟩ | ⟨g1, g2, g3, g4, g5, g6⟩
    · rw [g2] at d
      rw [← d, tneg1] at hb
      omega
    · have en : ¬ S (37 + 2 * p) 1 = -1 := fun z => by rw [z] at g1; exact absurd g1 (by decide)
      have el : S (37 + 2 * p) 0 = b := by rw [← g4, d]
      have es : (S 59 p - n).toInt = (S (37 + 2 * p) 1).toInt - n.toInt := by rw [subT, g3] <;> rw [g3] <;> omega
      obtain ⟨j1, j2⟩ := k3 en el
      rw [cc]
      refine sp_X8_in (fun z => zf (okI (by decide) (j1 (fun w => z ?_)))) (fun z => zt (okI (by decide) (j2 ?_)))
      · simp only [l64, Int64.reduceToInt]
        rw [es]
        obtain ⟨w1, w2, w3⟩ := w
        exact ⟨w1, by omega⟩
      · simp only [l64, Int64.reduceToInt] at z
        rw [es] at z
        exact ⟨z.1, hn.1, by omega⟩
  · rw [cc, xle] at e
    rcases h with ⟨g1, g2⟩ | ⟨g1, g2, g3, g4, g5, g6⟩
    · rw [g2] at e
      exact absurd e (by decide)
    · exact k2 (fun z => by rw [z] at g1; exact absurd g1 (by decide)) (fun z => d (by rw [g4, z]))
  · rw [cc, xle] at e
    rcases h with ⟨g1, g2⟩ | ⟨g1, g2, g3, g4, g5, g6⟩
    · exact k1 g1
    · exact absurd (by rw [g4]; exact g5) e
theorem lp_X8_as86 {Q : Int32 → tS → Prop} {M : tS} {n : Nat} {l1 l2 l3 l5 l6 l7 : Int32} (hn : n ≤ 6) (k : ∀ T, frR M T → (∀ i, i < n → T 61 i = nI i) → tk_Gs mX8_asked none 115 [.ref 45, .int l1, .int l2, .int l3, .int (nI n), .int l5, .int l6, .int l7, .int (-4), .int 1, .null, .null] [] T Q) : ∀ (q j : Nat) (T : tS), j + q = n → frR M T → (∀ i, i < j → T 61 i = nI i) → tk_Gs mX8_asked none 86 [.ref 45, .int l1, .int l2, .int l3, .int (nI n), .int l5, .int l6, .int l7, .int (nI j), .null, .null, .null] [] T Q := by
  intro q
  induction q with
  | zero =>
    intro j T e g h
    have e : j = n := e
    subst e
    exact w_X8_asked_86 _ _ _ _ _ _ _ _ ⟨fun _ => k T g h, fun z => absurd (nI_le (Nat.le_refl _) (by omega)) z⟩
  | succ q ih =>
    intro j T e g h
    refine w_X8_asked_86 _ _ _ _ _ _ _ _ ⟨fun z => absurd z (nI_ge (by omega) (by omega)), fun _ => ⟨vp_in_nI (by omega) (by omega), ?_⟩⟩
    rw [nI_c (by omega), nI_1]
    refine ih (j + 1) _ (by omega) (g.f61 fr61.refl.up) (fun i hi => ?_)
    by_cases ei : i = j
    · subst ei
      exact tk_up_ss
    · rw [tk_up_sn ei]
      exact h i (by omega)
theorem cMx_frQ {S T : tS} {it : Nat → Int32} {c j o : Nat} (g : frQ S T) : cMx T it c j o = cMx S it c j o := by
  unfold cMx
  rw [kx_frQ g]
theorem enM_u {n : Nat} {l5 x y : Int32} {r : Option (Nat × List Nat)} (h1 : enM n l5 r x) (h2 : enM n l5 r y) : x = y := by
  cases r with
  | none => exact Eq.trans h1 (Eq.symm h2)
  | some vL =>
    rcases h1 with ⟨a1, a2⟩ | ⟨a1, a2⟩ <;> rcases h2 with ⟨b1, b2⟩ | ⟨b1, b2⟩
    · exact a2.trans b2.symm
    · exact absurd a1 b1
    · exact absurd b1 a1
    · exact a2.trans b2.symm
def asP (a b n i : Int32) : Prop := ((0 ≤ a.toInt ∧ a.toInt ≤ 3) ∧ 0 ≤ b.toInt ∧ b.toInt ≤ 2) ∧ (1 ≤ n.toInt ∧ n.toInt ≤ 6) ∧ -1 ≤ i.toInt ∧ i.toInt < n.toInt
theorem pr_asked {S : tS} (hI : Inv S) (a b c n i : Int32) : tk_Ms mX7_asked [.ref 0, .int a, .int b, .int c, .int n, .int i] S (fun x S1 => tk_Ms mX8_asked [.ref 45, .int a, .int b, .int c, .int n, .int i] S1 (fun y S2 => x = y ∧ Inv S2)) := by
  obtain ⟨i0, iq⟩ := Inv_iff.mp hI
  obtain ⟨m, hm, e1, e2, hK⟩ := hI.keys
  obtain ⟨et, t0, t1⟩ := hI.today
  have mm1 : (-1 : Int64).toInt = -1 := by decide
  have i1 : (1 : Int64).toInt = 1 := by decide
  have i6 : (6 : Int64).toInt = 6 := by decide
  have n1t : 1 ≤ n.toInt ∧ n.toInt ≤ 6 → (n - 1).toInt = n.toInt - 1 := fun h => by
    have : (1 : Int32).toInt = 1 := by decide
    rw [subT] <;> omega
  have bad : ¬ asP a b n i → tk_Ms mX8_asked [.ref 45, .int a, .int b, .int c, .int n, .int i] S (fun y S2 => -1 = y ∧ Inv S2) := by
    intro h
    refine w_X8_asked _ _ _ _ _ (sp_X8_isSheet (fun _ => zf (okI (by decide) ⟨rfl, hI⟩)) (fun h1 => zt (sp_X8_in (fun _ => zf (okI (by decide) ⟨rfl, hI⟩)) (fun h2 => zt (sp_X8_in (fun _ => zf' (okI (by decide) ⟨rfl, hI⟩)) (fun h3 => absurd ?_ h))))))
    rw [l64, i1, i6] at h2
    rw [l64, l64, mm1, n1t h2] at h3
    exact ⟨h1, h2, h3.1, by omega⟩
  by_cases hP : asP a b n i
  · obtain ⟨⟨ha, hb⟩, hn, hi⟩ := hP
    have hP' : asP a b n i := ⟨⟨ha, hb⟩, hn, hi⟩
    obtain ⟨p, hp, rfl⟩ : ∃ p, p < 4 ∧ a = nI p := ⟨a.toNatClampNeg, by have := tn ha.1; omega, nI_of_t ha.1⟩
    have hn0 : 0 ≤ n.toInt := by omega
    have tn0 := tn hn0
    obtain ⟨N, hN1, hN6, rfl⟩ : ∃ N, 1 ≤ N ∧ N ≤ 6 ∧ n = nI N := ⟨n.toNatClampNeg, by omega, by omega, nI_of_t hn0⟩
    have e2n : (2 : Int32) * nI N = nI (2 * N) := pk_mul 2 _
    have tN : (nI N).toInt = (N : Int) := nI_t (by omega)
    have t2N : (nI (2 * N)).toInt = ((2 * N : Nat) : Int) := nI_t (by omega)
    obtain ⟨L, P, hex, hL, hrw⟩ := rws_n hN1 hN6
    have hl := (iq p hp).1
    have h60 := (iq p hp).2
    generalize hit : S (38 + 2 * p) = it at h60
    generalize hcc : c.toNatClampNeg = C
    generalize hr : (exl N N []).foldl (stp (cMx S it C) N) none = r
    have mM : ∀ {Q : Int32 → tS → Prop} (S1 : tS), frQ S S1 → (S (37 + 2 * p) 1 = -1 → Q (-11) S1) → (¬ S (37 + 2 * p) 1 = -1 → ¬ S (37 + 2 * p) 0 = b → Q (-12) S1) → (¬ S (37 + 2 * p) 1 = -1 → S (37 + 2 * p) 0 = b → (¬ hd S p c (nI (2 * N)) → Q (-13) S1) ∧ (hd S p c (nI (2 * N)) → (¬ (∀ j, j < N → okA m (S 0 2).toInt it C j) → Q (-2) S1) ∧ ((∀ j, j < N → okA m (S 0 2).toInt it C j) → ∀ x T, frR S1 T → enM N i r x → Q x T))) → tk_Ms mX8_asked [.ref 45, .int (nI p), .int b, .int c, .int (nI N), .int i] S1 Q := by
      intro Q S1 g k1 k2 k3
      have g37 : S1 (37 + 2 * p) = S (37 + 2 * p) := g _ (by omega)
      have hl1 : iL S1 p := by
        unfold iL
        rw [g37, g 58 (by decide), g 59 (by decide)]
        exact hl
      have hdd : hd S1 p c (nI (2 * N)) ↔ hd S p c (nI (2 * N)) := by
        unfold hd
        rw [g37]
      refine w_X8_asked _ _ _ _ _ (sp_X8_isSheet (fun z => absurd ⟨ha, hb⟩ z) (fun h1 => zt (sp_X8_in (fun z => absurd (by rw [l64, i1, i6]; exact hn) z) (fun h2 => zt (sp_X8_in (fun z => absurd (by rw [l64, l64, mm1, n1t hn]; omega) z) (fun h3 => zt' ?_))))))
      rw [e2n]
      refine sp_X8_lacksRw hp hb (by rw [t2N]; omega) hl1 (fun z => ?_) (fun z z' => ?_) (fun z z' => ⟨fun w => ?_, fun w => ?_⟩)
      · rw [g37] at z
        exact ⟨fun w => absurd w (by decide), fun _ => okI (by decide) (k1 z)⟩
      · rw [g37] at z z'
        exact ⟨fun w => absurd w (by decide), fun _ => okI (by decide) (k2 z z')⟩
      · rw [g37] at z z'
        exact ⟨fun w => absurd w (by decide), fun _ => okI (by decide) ((k3 z z').1 (fun y => w (hdd.mpr y)))⟩
      · rw [g37] at z z'
        have w := hdd.mp w
        obtain ⟨k4, k5⟩ := (k3 z z').2 w
        refine ⟨fun _ => ?_, fun y => absurd (by decide) y⟩
        have h24 := (rng hl).2
        obtain ⟨w1, w2, w3⟩ := w
        have ec := nI_of_t w1
        have tc := tn w1
        rw [hcc] at ec tc
        rw [t2N] at w3
        have hC : C + 2 * N ≤ 24 := by omega
        rw [ec, m24]
        have hit1 : ∀ j, j < 2 * N → S1 60 (24 * p + C + j) = it (C + j) := fun j hj => by
          rw [g 60 (by decide), Nat.add_assoc]
          exact h60 (C + j) (by omega)
        have t10 : (S1 45 10).toInt = (S 0 2).toInt := by rw [g 45 (by decide), et]
        refine sp_X8_areTold (it := it) (c := C) (td := (S 0 2).toInt) hm (by omega) hit1 (by rw [g 45 (by decide)]; exact e2) t10 (fun h => zf' (okI (by decide) (k4 h))) (fun h => zt' ?_)
        have s0 : S1 0 = S 0 := g 0 (by decide)
        refine lp_X8_as86 (M := S1) hN6 (fun T gT hT => ?_) N 0 S1 (by omega) frR.refl (fun i hi => absurd hi (Nat.not_lt_zero _))
        have hA1 : ∀ j, j < N → okA m (S1 0 2).toInt it C j := by rw [s0]; exact h
        refine lp_X8_as115 (M0 := S1) (it := it) (c := C) hm hN1 hN6 (by omega) hit1 (fun i hi => (hK i hi).frQ g) (by rw [s0]; exact t0) hA1 (by rw [← tN]; exact hi.2) r (fun x U gU hx => okI (by decide) (k5 h x U gU hx)) P L none (-4) T hrw gT (fun i hi => by rw [hT i hi, hL i hi]) rfl ?_
        rw [← hr, hex]
        have ecm : cMx S1 it C = cMx S it C := by
          funext j o
          exact cMx_frQ g
        rw [ecm]
    refine w_X7_asked _ _ _ _ _ ⟨fun z => ?_, fun _ => ⟨fun z => ?_, fun _ => ⟨fun z => ?_, fun _ => ⟨fun _ => ?_, fun z => ?_⟩⟩⟩⟩
    · rw [xlt] at z
      simp only [Int32.reduceToInt] at z
      omega
    · rw [xlt] at z
      simp only [Int32.reduceToInt] at z
      omega
    · rw [xlt, tneg1] at z
      omega
    · rw [e2n]
      refine sp_X7_refusalOf (fun z => absurd ⟨ha, hb⟩ z) (fun p' hp' ep _ => ?_)
      have epp : p = p' := nI_ij (by omega) (by omega) ep
      subst epp
      refine ⟨fun g => ?_, fun g => ⟨fun g' => ?_, fun g' => ?_⟩⟩
      · exact ⟨fun e => absurd e (by decide), fun _ => okI (by decide) (mM S frQ.refl (fun _ => ⟨rfl, hI⟩) (fun z => absurd g z) (fun z => absurd g z))⟩
      · exact ⟨fun e => absurd e (by decide), fun _ => okI (by decide) (mM S frQ.refl (fun z => absurd z g) (fun _ _ => ⟨rfl, hI⟩) (fun _ z => absurd z g'))⟩
      · refine zf ⟨vp_in_nI hp (by omega), ?_⟩
        -- the object's answer, and the reference's behind it
        have invT : ∀ {T}, frQ S T → Inv T := fun {T} g => hI.cong2 (fun c hc => g c hc.1)
        have fin : ∀ x T, (∀ j, j < N → okA m (S 0 2).toInt it C j) → hd S p c (nI (2 * N)) → frQ S T → enM N i r x → tk_Ms mX8_asked [.ref 45, .int (nI p), .int b, .int c, .int (nI N), .int i] T (fun y S2 => x = y ∧ Inv S2) := by
          intro x T hA hh gT hx
          refine mM T gT (fun z => absurd z g) (fun _ z => absurd g' z) (fun _ _ => ⟨fun z => absurd hh z, fun _ => ⟨fun z => absurd hA z, fun _ y U gU hy => ⟨enM_u hx hy, ?_⟩⟩⟩)
          exact (invT gT).cong2 (fun c hc => gU c hc.2.1 hc.2.2)
        refine four (A := fun q => tk_Ms mX4_holds [.ref (37 + 2 * q), .int c, .int (nI (2 * N))] S (fun x9 S10 => (¬ x9 = 0 → tk_Ms mX7_takeAsked [.ref 0, .ref (37 + 2 * q), .int c, .int (nI N)] S10 (fun x12 S13 => (¬ x12 = 0 → tk_Ms (mX7_tryRows 13) [.ref 30, .int 0, .int 0] S13 (fun _ S16 => (¬ (S16 30 1) = (-1) → (0 ≤ i → vp_in i 6 ∧ tk_okQ mX7_asked (fun x S1 => tk_Ms mX8_asked [.ref 45, .int (nI p), .int b, .int c, .int (nI N), .int i] S1 (fun y S2 => x = y ∧ Inv S2)) (S16 35 i.toNatClampNeg) S16) ∧ (¬ 0 ≤ i → tk_okQ mX7_asked (fun x S1 => tk_Ms mX8_asked [.ref 45, .int (nI p), .int b, .int c, .int (nI N), .int i] S1 (fun y S2 => x = y ∧ Inv S2)) (S16 30 1) S16)) ∧ ((S16 30 1) = (-1) → tk_okQ mX7_asked (fun x S1 => tk_Ms mX8_asked [.ref 45, .int (nI p), .int b, .int c, .int (nI N), .int i] S1 (fun y S2 => x = y ∧ Inv S2)) (-4) S16))) ∧ (x12 = 0 → tk_okQ mX7_asked (fun x S1 => tk_Ms mX8_asked [.ref 45, .int (nI p), .int b, .int c, .int (nI N), .int i] S1 (fun y S2 => x = y ∧ Inv S2)) (-2) S13))) ∧ (x9 = 0 → tk_okQ mX7_asked (fun x S1 => tk_Ms mX8_asked [.ref 45, .int (nI p), .int b, .int c, .int (nI N), .int i] S1 (fun y S2 => x = y ∧ Inv S2)) (-13) S10))) hp ?_
        refine sp_X4_holds hp (rng hl) (fun z => zf' (okI (by decide) ?_)) (fun z => zt' ?_)
        · exact mM S frQ.refl (fun z => absurd z g) (fun _ z => absurd g' z) (fun _ _ => ⟨fun _ => ⟨rfl, hI⟩, fun w => absurd w z⟩)
        · have zz := z
          obtain ⟨z1, z2, z3⟩ := z
          have ec := nI_of_t z1
          have tc := tn z1
          rw [hcc] at ec tc
          rw [t2N] at z3
          have h24 := (rng hl).2
          have hC : C + 2 * N ≤ 24 := by omega
          have tA := sp_X7_takeAsked (Q := fun x12 S13 => (¬ x12 = 0 → tk_Ms (mX7_tryRows 13) [.ref 30, .int 0, .int 0] S13 (fun _ S16 => (¬ (S16 30 1) = (-1) → (0 ≤ i → vp_in i 6 ∧ tk_okQ mX7_asked (fun x S1 => tk_Ms mX8_asked [.ref 45, .int (nI p), .int b, .int c, .int (nI N), .int i] S1 (fun y S2 => x = y ∧ Inv S2)) (S16 35 i.toNatClampNeg) S16) ∧ (¬ 0 ≤ i → tk_okQ mX7_asked (fun x S1 => tk_Ms mX8_asked [.ref 45, .int (nI p), .int b, .int c, .int (nI N), .int i] S1 (fun y S2 => x = y ∧ Inv S2)) (S16 30 1) S16)) ∧ ((S16 30 1) = (-1) → tk_okQ mX7_asked (fun x S1 => tk_Ms mX8_asked [.ref 45, .int (nI p), .int b, .int c, .int (nI N), .int i] S1 (fun y S2 => x = y ∧ Inv S2)) (-4) S16))) ∧ (x12 = 0 → tk_okQ mX7_asked (fun x S1 => tk_Ms mX8_asked [.ref 45, .int (nI p), .int b, .int c, .int (nI N), .int i] S1 (fun y S2 => x = y ∧ Inv S2)) (-2) S13)) hp hm hN6 hC hit e1 hK (fun hA T gT => zf' (okI (by decide) ?_)) (fun hA T gT h30 h301 h33 => zt' ?_)
          · rw [← ec] at tA
            exact tA
          · exact mM T gT (fun z => absurd z g) (fun _ z => absurd g' z) (fun _ _ => ⟨fun w => absurd zz w, fun _ => ⟨fun _ => ⟨rfl, invT gT⟩, fun w => absurd w hA⟩⟩)
          · have tR := sp_X7_tryRows (cM := cMx S it C) hN6 N (9 - N) [] none 0 T (fun _ S16 => (¬ (S16 30 1) = (-1) → (0 ≤ i → vp_in i 6 ∧ tk_okQ mX7_asked (fun x S1 => tk_Ms mX8_asked [.ref 45, .int (nI p), .int b, .int c, .int (nI N), .int i] S1 (fun y S2 => x = y ∧ Inv S2)) (S16 35 i.toNatClampNeg) S16) ∧ (¬ 0 ≤ i → tk_okQ mX7_asked (fun x S1 => tk_Ms mX8_asked [.ref 45, .int (nI p), .int b, .int c, .int (nI N), .int i] S1 (fun y S2 => x = y ∧ Inv S2)) (S16 30 1) S16)) ∧ ((S16 30 1) = (-1) → tk_okQ mX7_asked (fun x S1 => tk_Ms mX8_asked [.ref 45, .int (nI p), .int b, .int c, .int (nI N), .int i] S1 (fun y S2 => x = y ∧ Inv S2)) (-4) S16)) (Nat.zero_add _) (fun x hx => absurd hx List.not_mem_nil) (fun t _ => b_0 t) h30 h33 (fun j hj => absurd hj (Nat.not_lt_zero _)) (fun j hj => absurd hj (Nat.not_lt_zero _)) h301 (fun T' gT' _ hre => ?_)
            · rw [show 9 - N + N + 4 = 13 by omega] at tR
              exact tR
            · rw [hr] at hre
              have gq : frQ S T' := fun c hc => (gT'.1 c (by omega) (by omega) (by omega)).trans (gT c hc)
              have fin' : ∀ x, enM N i r x → tk_okQ mX7_asked (fun x S1 => tk_Ms mX8_asked [.ref 45, .int (nI p), .int b, .int c, .int (nI N), .int i] S1 (fun y S2 => x = y ∧ Inv S2)) x T' := fun x hx => okI (by decide) (fin x T' hA zz gq hx)
              cases r with
              | none =>
                have hre : T' 30 1 = -1 := hre
                exact ⟨fun w => absurd hre w, fun _ => fin' _ rfl⟩
              | some vL =>
                obtain ⟨v, K⟩ := vL
                obtain ⟨r1, r2, r3⟩ := hre
                rw [r2]
                refine ⟨fun _ => ⟨fun w => ?_, fun w => fin' _ (Or.inr ⟨w, rfl⟩)⟩, fun w => absurd w (nI_nm (by omega))⟩
                have w' := w
                rw [le0'] at w'
                have tw := tn w'
                rw [r3 _ (by omega)]
                exact ⟨vin w' (by omega), fin' _ (Or.inl ⟨w, rfl⟩)⟩
    · exact absurd (by rw [xlt]; exact hi.2) z
  · refine w_X7_asked _ _ _ _ _ ⟨fun _ => okI (by decide) (bad hP), fun c1 => ⟨fun _ => okI (by decide) (bad hP), fun c2 => ⟨fun _ => okI (by decide) (bad hP), fun c3 => ⟨fun c4 => ?_, fun _ => okI (by decide) (bad hP)⟩⟩⟩⟩
    refine sp_X7_refusalOf (fun _ => ⟨fun e => absurd e (by decide), fun _ => okI (by decide) (bad hP)⟩) (fun p hp ea hb => ?_)
    exfalso
    apply hP
    rw [xlt] at c1 c2 c3 c4
    rw [tneg1] at c3
    simp only [Int32.reduceToInt] at c1 c2
    have : a.toInt = (p : Int) := by rw [ea, nI_t (by omega)]
    exact ⟨⟨by omega, hb⟩, by omega, by omega⟩
