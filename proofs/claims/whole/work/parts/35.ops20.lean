/-! FINDFARS 2, RINGS, SEEN -/
def FinM (E : Nat → Nat → Prop) (s : Nat) (g : Nat → Int32) : Prop := ∀ p, p < 11 → (g p = 99 ∧ ∀ d, ¬ Lw E s d p) ∨ ∃ d, d ≤ 10 ∧ g p = nI d ∧ Lw E s d p
theorem fin_of {n s : Nat} {o1 o2 lk : Nat → Nat} {pa : Nat → Prop} {g : Nat → Int32} {v : Nat → Nat} (hs : s < 11) (hg : geo n o1 o2 lk) (hf : fgv g v) (hv : vOK (Ed n o1 o2 pa) s v) (hr : ∀ k, (k < n ∨ k = 16) → pa k → rl v o1 o2 k) : FinM (Ed n o1 o2 pa) s g := by
  have ub : ∀ d p, p < 11 → Wk (Ed n o1 o2 pa) d s p → v p ≤ d := by
    intro d
    induction d with
    | zero =>
      intro p _ h
      have h : s = p := h
      rw [← h, hv.1]
      exact Nat.le_refl _
    | succ d ih =>
      rintro p hp ⟨q, h1, ⟨k, hk, hp2, h3⟩⟩
      obtain ⟨g1, g2, -⟩ := hg.2 k hk
      have hq : q < 11 := by omega
      have := ih q hq h1
      obtain ⟨r1, r2⟩ := hr k hk hp2
      rcases h3 with ⟨x1, x2⟩ | ⟨x1, x2⟩
      · subst x1; subst x2; omega
      · subst x1; subst x2; omega
  intro p hp
  obtain ⟨h1, h2⟩ := hv.2 p hp
  by_cases h : v p = 99
  · refine Or.inl ⟨by rw [hf p hp, h]; rfl, fun d hl => ?_⟩
    have := hl.le10 (Ed.lt hg) hs
    have := ub d p hp hl.1
    omega
  · have hl : Lw (Ed n o1 o2 pa) s (v p) p := ⟨h2 (by omega), fun m hm hw => by have := ub m p hp hw; omega⟩
    exact Or.inr ⟨v p, hl.le10 (Ed.lt hg) hs, hf p hp, hl⟩
theorem lp_X8_f2 {Q : Int32 → tS → Prop} {S : tS} {n s : Nat} {o1 o2 lk : Nat → Nat} {ks ms : Int32} (hs : s < 11) (hg : geo n o1 o2 lk) (hd : dat (S 45 3) (S 46) (S 47) (S 48) n o1 o2 lk) (hb : ∀ l, l ≤ 8 → (bt ms l = true ↔ l = 8 ∨ bt ks l = true)) (k : ∀ g, FinM (Ed n o1 o2 (pas ks lk)) s g → Q 0 (tk_upR S 56 g)) : ∀ (N : Nat) (g : Nat → Int32) (v : Nat → Nat), sms v 11 < N → fgv g v → vOK (Ed n o1 o2 (pas ks lk)) s v → tk_Gs mX8_findFars none 33 [.ref 45, .int (nI s), .int ms, .int 1, .null, .null, .null, .null] [] (tk_upR S 56 g) Q
  | 0, _, _, h, _, _ => absurd h (Nat.not_lt_zero _)
  | N + 1, g, v, h, hf, hv => by
    refine w_X8_findFars_33 _ _ _ (zt ?_)
    refine lp_X8_f3 (N := sms v 11) hs hg hd hb (fun g' v' fl q1 q2 q3 => ?_) (n + 1) 0 g v 0 (by omega) hf hv (Nat.le_refl _) (Or.inl ⟨rfl, fun i hi => absurd hi (Nat.not_lt_zero _)⟩)
    rcases q3 with ⟨x1, x2⟩ | ⟨x1, x2⟩
    · subst x1
      exact w_X8_findFars_33 _ _ _ (zf (k g' (fin_of hs hg q1 q2 x2)))
    · subst x1
      exact lp_X8_f2 hs hg hd hb k N g' v' (by omega) q1 q2
theorem lp_X8_f1 {Q : Int32 → tS → Prop} {S : tS} {s : Nat} {ms : Int32} (hs : s < 11) (k : tk_Gs mX8_findFars none 33 [.ref 45, .int (nI s), .int ms, .int 1, .null, .null, .null, .null] [] (tk_upR S 56 (f0 s 99 (S 56) 11)) Q) : ∀ m i : Nat, i + m = 11 → tk_Gs mX8_findFars none 2 [.ref 45, .int (nI s), .int ms, .int (nI i), .null, .null, .null, .null] [] (tk_upR S 56 (f0 s 99 (S 56) i)) Q
  | 0, i, e => by
    have e : i = 11 := e
    subst e
    exact w_X8_findFars_2 _ _ _ ⟨fun _ => k, fun c => absurd (by decide) c⟩
  | m + 1, i, e => by
    have v : vp_in (nI i) 11 := vp_in_nI (by omega) (by omega)
    have ih := lp_X8_f1 hs k m (i + 1) (by omega)
    rw [← f0_1] at ih
    refine w_X8_findFars_2 _ _ _ ⟨fun c => absurd c (nI_ge (a := i) (b := 11) (by omega) (by omega)), fun _ => ⟨fun c => ⟨v, ?_⟩, fun c => ⟨v, ?_⟩⟩⟩
    · rw [nI_1, nI_c (by omega), upR_up]
      rw [if_neg (fun z => c (by rw [z]))] at ih
      exact ih
    · rw [nI_1, nI_c (by omega), upR_up]
      rw [if_pos (nI_ij (by omega) (by omega) c)] at ih
      exact ih
theorem sp_X8_findFars {Q : Int32 → tS → Prop} {S : tS} {n s : Nat} {o1 o2 lk : Nat → Nat} {ks ms : Int32} (hs : s < 11) (hg : geo n o1 o2 lk) (hd : dat (S 45 3) (S 46) (S 47) (S 48) n o1 o2 lk) (hb : ∀ l, l ≤ 8 → (bt ms l = true ↔ l = 8 ∨ bt ks l = true)) (k : ∀ g, FinM (Ed n o1 o2 (pas ks lk)) s g → Q 0 (tk_upR S 56 g)) : tk_Ms mX8_findFars [.ref 45, .int (nI s), .int ms] S Q := by
  refine w_X8_findFars _ _ ?_
  have h1 := lp_X8_f2 (Q := tk_okQ mX8_findFars Q) (S := S) (n := n) (s := s) (o1 := o1) (o2 := o2) (lk := lk) (ks := ks) (ms := ms) hs hg hd hb (fun g hf => ok0 (k g hf)) _ (f0 s 99 (S 56) 11) (fun p => if p = s then 0 else 99) (Nat.lt_succ_self _) (fun p hp => ?_) ⟨if_pos rfl, fun p hp => ?_⟩
  · have h2 := lp_X8_f1 (Q := tk_okQ mX8_findFars Q) (S := S) (s := s) (ms := ms) hs h1 11 0 rfl
    have e0 : f0 s 99 (S 56) 0 = S 56 := by
      funext p
      exact if_neg (Nat.not_lt_zero _)
    rw [e0, upR_self] at h2
    exact h2
  · unfold f0
    rw [if_pos hp]
    by_cases e : p = s
    · rw [if_pos e]
      show (0 : Int32) = nI (if p = s then 0 else 99)
      rw [if_pos e]
      rfl
    · rw [if_neg e]
      show (99 : Int32) = nI (if p = s then 0 else 99)
      rw [if_neg e]
      rfl
  · show (if p = s then 0 else 99) ≤ 99 ∧ ((if p = s then 0 else 99) < 99 → Wk _ (if p = s then 0 else 99) s p)
    by_cases e : p = s
    · rw [if_pos e]
      exact ⟨by omega, fun _ => Eq.symm e⟩
    · rw [if_neg e]
      exact ⟨by omega, fun h => absurd h (by omega)⟩
/-- a set of keys, as the object and the reference write it -/
def rgP (S : tS) (a q : Int32) (i : Nat) : Prop := S 8 i = a ∧ ¬ (¬ q = 0 ∧ S 7 i = 1)
theorem lp_X3_ring {Q : Int32 → tS → Prop} {S : tS} {n : Nat} {a q : Int32} (hn : S 5 0 = nI n) (h8 : n ≤ 8) (k : ∀ r, (∀ i, i < 32 → (bt r i = true ↔ i < n ∧ rgP S a q i)) → Q r S) : ∀ (m j : Nat) (r : Int32), j + m = n → (∀ i, i < 32 → (bt r i = true ↔ i < j ∧ rgP S a q i)) → tk_Gs mX3_ring none 5 [.ref 5, .int a, .int q, .int r, .int (nI j)] [] S Q
  | 0, j, r, e, h => by
    have e : j = n := e
    subst e
    exact w_X3_ring_5 _ _ _ _ ⟨fun _ => k r h, fun c => absurd (by rw [hn]; exact nI_le (Nat.le_refl _) (by omega)) c⟩
  | m + 1, j, r, e, h => by
    have v : vp_in (nI j) 8 := vp_in_nI (by omega) (by omega)
    have cj : (nI j).toNatClampNeg = j := nI_c (by omega)
    have no : ¬ rgP S a q j → tk_Gs mX3_ring none 5 [.ref 5, .int a, .int q, .int r, .int (nI j + 1)] [] S Q := by
      intro g
      rw [nI_1]
      refine lp_X3_ring hn h8 k m (j + 1) r (by omega) (fun i hi => ?_)
      rw [h i hi]
      by_cases ei : i = j
      · subst ei
        exact ⟨fun z => absurd z.1 (by omega), fun z => absurd z.2 g⟩
      · exact ⟨fun z => ⟨by omega, z.2⟩, fun z => ⟨by omega, z.2⟩⟩
    have yes : rgP S a q j → tk_Gs mX3_ring none 5 [.ref 5, .int a, .int q, .int (r ||| (1 <<< (nI j &&& 31))), .int (nI j + 1)] [] S Q := by
      intro g
      rw [nI_1]
      refine lp_X3_ring hn h8 k m (j + 1) _ (by omega) (fun i hi => ?_)
      rw [orbit r (by omega) hi, Bool.or_eq_true, decide_eq_true_eq, h i hi]
      by_cases ei : i = j
      · subst ei
        exact ⟨fun _ => ⟨by omega, g⟩, fun _ => Or.inr rfl⟩
      · exact ⟨fun z => z.elim (fun z => ⟨by omega, z.2⟩) (fun z => absurd z ei), fun z => Or.inl ⟨by omega, z.2⟩⟩
    refine w_X3_ring_5 _ _ _ _ ⟨fun c => absurd c (by rw [hn]; exact nI_ge (by omega) (by omega)), fun _ => ⟨v, fun c => ?_, fun c => ⟨fun d => ?_, fun d => ⟨v, fun w => ?_, fun w => ?_⟩⟩⟩⟩
    · rw [cj] at c
      exact no (fun z => c z.1)
    · rw [cj] at c
      exact yes ⟨c, fun z => z.1 d⟩
    · rw [cj] at w
      exact no (fun z => z.2 ⟨d, w⟩)
    · rw [cj] at c w
      exact yes ⟨c, fun z => w z.2⟩
theorem sp_X3_ring {Q : Int32 → tS → Prop} {S : tS} {n : Nat} {a q : Int32} (hn : S 5 0 = nI n) (h8 : n ≤ 8) (k : ∀ r, (∀ i, i < 32 → (bt r i = true ↔ i < n ∧ rgP S a q i)) → Q r S) : tk_Ms mX3_ring [.ref 5, .int a, .int q] S Q :=
  w_X3_ring _ _ (lp_X3_ring hn h8 (fun r hr => okI (by decide) (k r hr)) n 0 0 (by omega) (fun i _ => by
    rw [b_0]
    exact ⟨fun z => absurd z (by decide), fun z => absurd z.1 (Nat.not_lt_zero _)⟩))
def rgM (S : tS) (a q : Int32) (i : Nat) : Prop := S 51 i = a ∧ ¬ (¬ q = 0 ∧ S 50 i = 1)
theorem or0 (r : Int32) : r ||| 0 = r := Int32.or_zero
theorem lp_X8_ringOf {Q : Int32 → tS → Prop} {S : tS} {n : Nat} {a q : Int32} (hn : S 45 9 = nI n) (h8 : n ≤ 8) (k : ∀ r, (∀ i, i < 32 → (bt r i = true ↔ i = 8 ∨ (i < n ∧ rgM S a q i))) → Q r S) : ∀ (m j : Nat) (r : Int32), j + m = n → (∀ i, i < 32 → (bt r i = true ↔ i = 8 ∨ (i < j ∧ rgM S a q i))) → tk_Gs mX8_ringOf none 7 [.ref 45, .int a, .int q, .int r, .int (nI j)] [] S Q
  | 0, j, r, e, h => by
    have e : j = n := e
    subst e
    exact w_X8_ringOf_7 _ _ _ _ ⟨fun _ => k r h, fun c => absurd (by rw [hn]; exact nI_le (Nat.le_refl _) (by omega)) c⟩
  | m + 1, j, r, e, h => by
    have v : vp_in (nI j) 8 := vp_in_nI (by omega) (by omega)
    have cj : (nI j).toNatClampNeg = j := nI_c (by omega)
    have no : ¬ rgM S a q j → tk_Gs mX8_ringOf none 7 [.ref 45, .int a, .int q, .int (r ||| 0), .int (nI j + 1)] [] S Q := by
      intro g
      rw [nI_1, or0]
      refine lp_X8_ringOf hn h8 k m (j + 1) r (by omega) (fun i hi => ?_)
      rw [h i hi]
      by_cases ei : i = j
      · subst ei
        exact ⟨fun z => z.elim Or.inl (fun z => absurd z.1 (by omega)), fun z => z.elim Or.inl (fun z => absurd z.2 g)⟩
      · exact ⟨fun z => z.elim Or.inl (fun z => Or.inr ⟨by omega, z.2⟩), fun z => z.elim Or.inl (fun z => Or.inr ⟨by omega, z.2⟩)⟩
    have yes : rgM S a q j → tk_Gs mX8_ringOf none 7 [.ref 45, .int a, .int q, .int (r ||| (1 <<< (nI j &&& 31))), .int (nI j + 1)] [] S Q := by
      intro g
      rw [nI_1]
      refine lp_X8_ringOf hn h8 k m (j + 1) _ (by omega) (fun i hi => ?_)
      rw [orbit r (by omega) hi, Bool.or_eq_true, decide_eq_true_eq, h i hi]
      by_cases ei : i = j
      · subst ei
        exact ⟨fun _ => Or.inr ⟨by omega, g⟩, fun _ => Or.inr rfl⟩
      · exact ⟨fun z => z.elim (fun z => z.elim Or.inl (fun z => Or.inr ⟨by omega, z.2⟩)) (fun z => absurd z ei), fun z => Or.inl (z.elim Or.inl (fun z => Or.inr ⟨by omega, z.2⟩))⟩
    refine w_X8_ringOf_7 _ _ _ _ ⟨fun c => absurd c (by rw [hn]; exact nI_ge (by omega) (by omega)), fun _ => ⟨v, fun c => ?_, fun c => ⟨fun d => ?_, fun d => ⟨v, fun w => ?_, fun w => ?_⟩⟩⟩⟩
    · rw [cj] at c
      exact no (fun z => c z.1)
    · rw [cj] at c
      exact yes ⟨c, fun z => z.1 d⟩
    · rw [cj] at w
      exact no (fun z => z.2 ⟨d, w⟩)
    · rw [cj] at c w
      exact yes ⟨c, fun z => w z.2⟩
theorem b_256 : ∀ i, i < 32 → (bt 256 i = true ↔ i = 8) := by decide +kernel
theorem sp_X8_ringOf {Q : Int32 → tS → Prop} {S : tS} {n : Nat} {a q : Int32} (hn : S 45 9 = nI n) (h8 : n ≤ 8) (k : ∀ r, (∀ i, i < 32 → (bt r i = true ↔ i = 8 ∨ (i < n ∧ rgM S a q i))) → Q r S) : tk_Ms mX8_ringOf [.ref 45, .int a, .int q] S Q :=
  w_X8_ringOf _ _ (lp_X8_ringOf hn h8 (fun r hr => okI (by decide) (k r hr)) n 0 256 (by omega) (fun i hi => by
    rw [b_256 i hi]
    exact ⟨Or.inl, fun z => z.elim id (fun z => absurd z.1 (Nat.not_lt_zero _))⟩))
/-- the two sets agree on every lock -/
theorem ring_eq {S : tS} {n : Nat} {a q ks ms : Int32} (h8 : n ≤ 8) (hK : ∀ i, i < n → S 51 i = S 8 i ∧ S 50 i = S 7 i) (hk : ∀ i, i < 32 → (bt ks i = true ↔ i < n ∧ rgP S a q i)) (hm : ∀ i, i < 32 → (bt ms i = true ↔ i = 8 ∨ (i < n ∧ rgM S a q i))) : ∀ l, l ≤ 8 → (bt ms l = true ↔ l = 8 ∨ bt ks l = true) := by
  intro l hl
  rw [hm l (by omega), hk l (by omega)]
  by_cases h : l < n
  · obtain ⟨e1, e2⟩ := hK l h
    unfold rgP rgM
    rw [e1, e2]
  · exact ⟨fun z => z.elim Or.inl (fun z => absurd z.1 h), fun z => z.elim Or.inl (fun z => absurd z.1 h)⟩
