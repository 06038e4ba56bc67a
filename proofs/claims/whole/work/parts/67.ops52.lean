/-! ASKED: the reference's parts -/
theorem sp_X8_hasN {Q : Int32 → tS → Prop} {S : tS} {s : Int32} {k : Nat} (hk : k < 32) (k0 : ¬ bt s k = true → Q 0 S) (k1 : bt s k = true → Q 1 S) : tk_Ms mX8_has [.int s, .int (nI k)] S Q := by
  refine w_X8_has _ _ ?_
  rw [has1 s hk]
  by_cases b : bt s k = true
  · rw [if_pos b]
    exact ⟨fun z => absurd rfl z, fun _ => ok1 (k1 b)⟩
  · rw [if_neg b]
    exact ⟨fun _ => ok0 (k0 b), fun z => absurd z (by decide)⟩
theorem sp_X8_hasE {Q : Int32 → tS → Prop} {S : tS} {s x : Int32} {k : Nat} (hx : x = nI k) (hk : k < 32) (k0 : ¬ bt s k = true → Q 0 S) (k1 : bt s k = true → Q 1 S) : tk_Ms mX8_has [.int s, .int x] S Q := by
  subst hx
  exact sp_X8_hasN hk k0 k1
theorem lp_X8_areTold {Q : Int32 → tS → Prop} {M : tS} {it : Nat → Int32} {a c n m : Nat} {td : Int} (hm : m ≤ 8) (ha : a + 2 * n ≤ 96) (hit : ∀ j, j < 2 * n → M 60 (a + j) = it (c + j)) (h9 : M 45 9 = nI m) (h10 : (M 45 10).toInt = td) (kF : ¬ (∀ j, j < n → okA m td it c j) → Q 0 M) (kT : (∀ j, j < n → okA m td it c j) → Q 1 M) : ∀ (q j : Nat) (u : Int32), j + q = n → (∀ i, i < j → okA m td it c i) → (∀ t, t < 32 → (bt u t = true ↔ ∃ i, i < j ∧ aK it c i = nI t)) → tk_Gs mX8_areTold none 8 [.ref 45, .int (nI a), .int (nI n), .int u, .int 1, .int (nI j), .null] [] M Q := by
  have fail : ∀ {v w : Int32}, ¬ (∀ j, j < n → okA m td it c j) → tk_Gs mX8_areTold none 8 [.ref 45, .int (nI a), .int (nI n), .int v, .int 0, .int w, .null] [] M Q := fun h => w_X8_areTold_8 _ _ _ _ _ ⟨fun _ => kF h, fun _ => ⟨fun _ => kF h, fun z => absurd rfl z⟩⟩
  intro q
  induction q with
  | zero =>
    intro j u e hA hu
    have e : j = n := e
    subst e
    exact w_X8_areTold_8 _ _ _ _ _ ⟨fun _ => kT hA, fun z => absurd (nI_le (Nat.le_refl _) (by omega)) z⟩
  | succ q ih =>
    intro j u e hA hu
    have e2 : (2 : Int32) * nI j = nI (2 * j) := pk_mul 2 _
    have e3 : nI a + nI (2 * j) = nI (a + 2 * j) := nI_add _ _
    have e4 : nI (a + 2 * j) + 1 = nI (a + 2 * j + 1) := nI_1 _
    have k1 : M 60 (a + 2 * j) = aK it c j := hit (2 * j) (by omega)
    have k2 : M 60 (a + 2 * j + 1) = aD it c j := hit (2 * j + 1) (by omega)
    have t9 : (M 45 9).toInt = (m : Int) := by rw [h9, nI_t (by omega)]
    refine w_X8_areTold_8 _ _ _ _ _ ⟨fun z => absurd z (nI_ge (by omega) (by omega)), fun _ => ⟨fun z => absurd z (by decide), fun _ => ?_⟩⟩
    rw [e2, e3, e4, nI_c (by omega), nI_c (by omega), k1]
    refine ⟨vp_in_nI (by omega) (by omega), sp_X8_isKey (by rw [t9]; omega) (fun z => zf (zf (fail (fun w => z ?_)))) (fun hj => zt ?_)⟩
    · rw [t9]
      exact (w j (by omega)).1
    · rw [t9] at hj
      obtain ⟨b1, b2⟩ := tkn hm (fun i hi => (hA i hi).1) hj hu
      obtain ⟨x1, x2⟩ := tk_at hm hj
      have x3 : bt u (aK it c j).toNatClampNeg = true ↔ ∃ i, i < j ∧ aK it c i = aK it c j := by
        rw [hu _ (by omega), ← x1]
      refine sp_X8_hasE x1 (by omega) (fun nb => zf' ⟨vp_in_nI (by omega) (by omega), ?_⟩) (fun b => zt' (zf (fail (fun w => ?_))))
      · have nd : ∀ i, i < j → aK it c i ≠ aK it c j := fun i hi ei => nb (x3.mpr ⟨i, hi, ei⟩)
        rw [k2]
        refine sp_X8_in (fun z => zf (zf (fail (fun w => z ?_)))) (fun z => zt (zt ?_))
        · rw [l64, l64, h10]
          exact (w j (by omega)).2.1
        · rw [l64, l64, h10] at z
          rw [nI_1]
          refine ih (j + 1) _ (by omega) (fun i hi => ?_) b2
          by_cases ei : i = j
          · subst ei
            exact ⟨hj, z, nd⟩
          · exact hA i (by omega)
      · obtain ⟨i, hi, ei⟩ := x3.mp b
        exact (w j (by omega)).2.2 i hi ei
theorem sp_X8_areTold {Q : Int32 → tS → Prop} {M : tS} {it : Nat → Int32} {a c n m : Nat} {td : Int} (hm : m ≤ 8) (ha : a + 2 * n ≤ 96) (hit : ∀ j, j < 2 * n → M 60 (a + j) = it (c + j)) (h9 : M 45 9 = nI m) (h10 : (M 45 10).toInt = td) (kF : ¬ (∀ j, j < n → okA m td it c j) → Q 0 M) (kT : (∀ j, j < n → okA m td it c j) → Q 1 M) : tk_Ms mX8_areTold [.ref 45, .int (nI a), .int (nI n)] M Q := by
  refine w_X8_areTold _ _ (lp_X8_areTold (it := it) (c := c) hm ha hit h9 h10 (fun h => ok0 (kF h)) (fun h => ok1 (kT h)) n 0 0 (by omega) (fun i hi => absurd hi (Nat.not_lt_zero _)) (fun t _ => ?_))
  rw [b_0]
  exact ⟨fun z => absurd z (by decide), fun ⟨i, hi, _⟩ => absurd hi (Nat.not_lt_zero _)⟩
theorem lp_X8_areClean {Q : Int32 → tS → Prop} {M : tS} {it : Nat → Int32} {a c n m : Nat} {p : Nat → Nat} (hm : m ≤ 8) (hn : n ≤ 6) (ha : a + 2 * n ≤ 96) (hit : ∀ j, j < 2 * n → M 60 (a + j) = it (c + j)) (hK : ∀ i, i < m → kOk M i) (ht : 0 ≤ (M 0 2).toInt) (hA : ∀ j, j < n → okA m (M 0 2).toInt it c j) (hp : ∀ i, i < n → M 61 i = nI (p i) ∧ p i < n) (kF : ¬ (∀ k, k < n → cMx M it c k (p k) = true) → Q 0 M) (kT : (∀ k, k < n → cMx M it c k (p k) = true) → Q 1 M) : ∀ (q k : Nat) (l3 : Int32), k + q = n → ((l3 = 1 ∧ ∀ i, i < k → cMx M it c i (p i) = true) ∨ (l3 = 0 ∧ ¬ ∀ i, i < n → cMx M it c i (p i) = true)) → tk_Gs mX8_areClean none 5 [.ref 45, .int (nI a), .int (nI n), .int l3, .int (nI k)] [] M Q := by
  intro q
  induction q with
  | zero =>
    intro k l3 e h
    have e : k = n := e
    subst e
    refine w_X8_areClean_5 _ _ _ _ ⟨fun _ => ?_, fun z => absurd (nI_le (Nat.le_refl _) (by omega)) z⟩
    rcases h with ⟨h1, h2⟩ | ⟨h1, h2⟩
    · rw [h1]; exact kT h2
    · rw [h1]; exact kF h2
  | succ q ih =>
    intro k l3 e h
    refine w_X8_areClean_5 _ _ _ _ ⟨fun z => absurd z (nI_ge (by omega) (by omega)), fun _ => ?_⟩
    rw [nI_1]
    rcases h with ⟨h1, h2⟩ | ⟨h1, h2⟩
    · subst h1
      obtain ⟨p1, p2⟩ := hp k (by omega)
      have e2 : (2 : Int32) * nI k = nI (2 * k) := pk_mul 2 _
      have e2' : (2 : Int32) * nI (p k) = nI (2 * p k) := pk_mul 2 _
      have e3 : nI a + nI (2 * k) = nI (a + 2 * k) := nI_add _ _
      have e3' : nI a + nI (2 * p k) = nI (a + 2 * p k) := nI_add _ _
      have e4 : nI (a + 2 * k) + 1 = nI (a + 2 * k + 1) := nI_1 _
      have k1 : M 60 (a + 2 * p k) = aK it c (p k) := hit (2 * p k) (by omega)
      have k2 : M 60 (a + 2 * k + 1) = aD it c k := hit (2 * k + 1) (by omega)
      refine zt ?_
      rw [nI_c (by omega : k < _), p1, e2, e2', e3, e3', e4, nI_c (by omega), nI_c (by omega), k1, k2]
      obtain ⟨x1, x2⟩ := tk_at hm (hA (p k) p2).1
      have hd := (hA k (by omega)).2.1
      refine ⟨vp_in_nI (by omega) (by omega), vp_in_nI (by omega) (by omega), vp_in_nI (by omega) (by omega), sp_X8_shownBy (i := (aK it c (p k)).toNatClampNeg) (by omega) x1 (hK _ x2) ht hd.1 hd.2 (fun x hx => ⟨fun z => ?_, fun z => ?_⟩)⟩
      · refine ih (k + 1) 0 (by omega) (Or.inr ⟨rfl, fun w => z ?_⟩)
        have := of_decide_eq_true (w k (by omega))
        rw [xeq, hx, this]
        rfl
      · refine ih (k + 1) 1 (by omega) (Or.inl ⟨rfl, fun i hi => ?_⟩)
        by_cases ei : i = k
        · subst ei
          exact decide_eq_true (by rw [← hx, z]; rfl)
        · exact h2 i (by omega)
    · subst h1
      exact zf (ih (k + 1) 0 (by omega) (Or.inr ⟨rfl, h2⟩))
theorem lp_X8_rg34 {Q : Int32 → tS → Prop} {M : tS} {n : Nat} {p : Nat → Nat} {l1 l3 l4 : Int32} (hn : n ≤ 6) (hp : ∀ i, i < n → M 61 i = nI (p i) ∧ p i < n) : ∀ (f i : Nat) (s : Nat → Bool) (u : Int32), i < n → cnt (fun t => !s t) n ≤ f → (∀ t, t < 32 → bt u t = s t) → (∀ u', (∀ t, t < 32 → bt u' t = orb p f s i t) → tk_Gs mX8_rings none 7 [.ref 45, .int l1, .int u', .int l3, .int (l4 + 1), .null] [] M Q) → tk_Gs mX8_rings none 34 [.ref 45, .int l1, .int u, .int l3, .int l4, .int (nI i)] [] M Q := by
  intro f
  induction f with
  | zero =>
    intro i s u hi hf hu k
    refine w_X8_rings_34 _ _ _ _ _ (sp_X8_hasN (by omega) (fun nb => ?_) (fun b => zt' (k u hu)))
    exfalso
    have hs : s i = false := by
      rw [hu i (by omega)] at nb
      revert nb
      cases s i <;> simp
    have := cnt_lt (p := fun _ => false) (q := fun t => !s t) (j := i) (by show (!s i) = true; rw [hs]; rfl) (by decide) n hi (fun i _ h => absurd h (by decide))
    omega
  | succ f ih =>
    intro i s u hi hf hu k
    refine w_X8_rings_34 _ _ _ _ _ (sp_X8_hasN (by omega) (fun nb => zf' ⟨vp_in_nI (by omega) (by omega), ?_⟩) (fun b => zt' (k u (fun t ht => ?_))))
    · rw [hu i (by omega)] at nb
      have hs : s i = false := by
        revert nb
        cases s i <;> simp
      have eo : orb p (f + 1) s i = orb p f (fun j => s j || decide (j = i)) (p i) := if_neg nb
      rw [eo] at k
      obtain ⟨p1, p2⟩ := hp i hi
      rw [nI_c (by omega), p1]
      refine ih (p i) (fun j => s j || decide (j = i)) _ p2 ?_ (fun t ht => ?_) k
      · have := cnt_lt (p := fun t => !(s t || decide (t = i))) (q := fun t => !s t) (j := i) (by show (!s i) = true; rw [hs]; rfl) (by show ¬ (!(s i || decide (i = i))) = true; rw [decide_eq_true (p := i = i) rfl, Bool.or_true]; decide) n hi (fun t _ h => by
          have h : (!(s t || decide (t = i))) = true := h
          show (!s t) = true
          revert h
          cases s t <;> simp)
        omega
      · rw [orbit u (by omega) ht, hu t ht]
    · rw [hu i (by omega)] at b
      rw [show orb p (f + 1) s i = s from if_pos b]
      exact hu t ht
theorem lp_X8_rg7 {Q : Int32 → tS → Prop} {M : tS} {n : Nat} {p : Nat → Nat} (hn : n ≤ 6) (hp : ∀ i, i < n → M 61 i = nI (p i) ∧ p i < n) : ∀ (q k : Nat) (s : Nat → Bool) (u : Int32) (c : Nat), k + q = n → (∀ t, t < 32 → bt u t = s t) → Q (nI (cyc p n q k s c)) M → tk_Gs mX8_rings none 7 [.ref 45, .int (nI n), .int u, .int (nI c), .int (nI k), .null] [] M Q := by
  intro q
  induction q with
  | zero =>
    intro k s u c e hu kk
    have e : k = n := e
    subst e
    exact w_X8_rings_7 _ _ _ _ ⟨fun _ => kk, fun z => absurd (nI_le (Nat.le_refl _) (by omega)) z⟩
  | succ q ih =>
    intro k s u c e hu kk
    have kk : Q (nI (cyc p n q (k + 1) (orb p n s k) (if s k = true then c else c + 1))) M := kk
    have z0 : nI c + 0 = nI c := nI_add c 0
    have hcn := cnt_le (fun t => !s t) n
    refine w_X8_rings_7 _ _ _ _ ⟨fun z => absurd z (nI_ge (by omega) (by omega)), fun _ => sp_X8_hasN (by omega) (fun nb => zf ?_) (fun b => zt ?_)⟩
    · rw [hu k (by omega)] at nb
      rw [if_neg nb] at kk
      rw [nI_1]
      refine lp_X8_rg34 hn hp n k s u (by omega) hcn hu (fun u' hu' => ?_)
      rw [nI_1]
      exact ih (k + 1) _ u' (c + 1) (by omega) hu' kk
    · rw [hu k (by omega)] at b
      rw [if_pos b] at kk
      rw [z0]
      refine lp_X8_rg34 hn hp n k s u (by omega) hcn hu (fun u' hu' => ?_)
      rw [nI_1]
      exact ih (k + 1) _ u' c (by omega) hu' kk
theorem sp_X8_rings {Q : Int32 → tS → Prop} {M : tS} {n : Nat} {p : Nat → Nat} (hn : n ≤ 6) (hp : ∀ i, i < n → M 61 i = nI (p i) ∧ p i < n) (k : Q (nI (cyc p n n 0 (fun _ => false) 0)) M) : tk_Ms mX8_rings [.ref 45, .int (nI n)] M Q :=
  w_X8_rings _ (lp_X8_rg7 hn hp n 0 (fun _ => false) 0 0 (by omega) (fun t _ => b_0 t) (okI (by decide) k))
