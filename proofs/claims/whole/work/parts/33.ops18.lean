/-! MEASURE: the object -/
theorem nI_nm {d : Nat} (h : d ≤ 1000) : nI d ≠ -1 := by
  intro e
  rw [xeq, nI_t (by omega), tneg1] at e
  omega
theorem nI_ij {a b : Nat} (ha : a ≤ 1000) (hb : b ≤ 1000) (h : nI a = nI b) : a = b := by
  rw [xeq, nI_t (by omega), nI_t (by omega)] at h
  omega
theorem sp_X2_canPass2 {Q : Int32 → tS → Prop} {S : tS} {n k : Nat} {o1 o2 lk : Nat → Nat} {ks : Int32} (hk : k ≤ 16) (hg : geo n o1 o2 lk) (hd : dat (S 1 0) (S 2) (S 3) (S 4) n o1 o2 lk) (k0 : ¬ ((k < n ∨ k = 16) ∧ pas ks lk k) → Q 0 S) (k1 : (k < n ∨ k = 16) → pas ks lk k → Q 1 S) : tk_Ms mX2_canPass [.ref 1, .int (nI k), .int ks] S Q := by
  have v : vp_in (nI k) 17 := vp_in_nI (by omega) (by omega)
  have ck : (nI k).toNatClampNeg = k := nI_c (by omega)
  have n16 := hg.1
  have leaf : (k < n ∨ k = 16) → vp_in (nI k) 17 ∧ ((S 4 (nI k).toNatClampNeg = 8 → tk_okQ mX2_canPass Q 1 S) ∧ (¬ S 4 (nI k).toNatClampNeg = 8 → vp_in (nI k) 17 ∧ ((((ks >>> ((S 4 (nI k).toNatClampNeg) &&& 31)) &&& 1) = 0 → tk_okQ mX2_canPass Q 0 S) ∧ (¬ ((ks >>> ((S 4 (nI k).toNatClampNeg) &&& 31)) &&& 1) = 0 → tk_okQ mX2_canPass Q 1 S)))) := by
    intro hv
    obtain ⟨-, -, e4⟩ := hd.2 k hv
    obtain ⟨-, -, -, h8⟩ := hg.2 k hv
    rw [ck, e4, has1 ks (by omega)]
    refine ⟨v, fun g => ok1 (k1 hv (Or.inl ?_)), fun g => ⟨v, fun h => ok0 (k0 (fun z => ?_)), fun h => ok1 (k1 hv (Or.inr ?_))⟩⟩
    · exact nI_ij (b := 8) (by omega) (by omega) g
    · rcases z.2 with z | z
      · exact g (by rw [z]; rfl)
      · rw [if_pos z] at h
        exact absurd h (by decide)
    · exact Classical.byContradiction (fun z => h (if_neg z))
  refine w_X2_canPass _ _ ⟨fun c => absurd c (nI_nlt (a := k) (b := 0) (by omega) (by omega)), fun _ => ⟨fun d => ?_, fun d => ⟨fun e => zf (ok0 (k0 (fun z => ?_))), fun e => zt (leaf (Or.inr ?_))⟩⟩⟩
  · rw [hd.1, xlt, nI_t (by omega), nI_t (by omega)] at d
    exact zt (leaf (Or.inl (by omega)))
  · rw [hd.1, xlt, nI_t (by omega), nI_t (by omega)] at d
    rcases z.1 with z | z
    · omega
    · exact e (by rw [z]; rfl)
  · exact nI_ij (b := 16) (by omega) (by omega) e
def AB (E : Nat → Nat → Prop) (s t : Nat) (f : Nat → Int32) : Prop := (∀ p, p < 11 → ∀ d, d ≤ t → (f p = nI d ↔ Lw E s d p)) ∧ ∀ p, p < 11 → f p = -1 ∨ (∃ d, d ≤ t ∧ f p = nI d) ∨ (f p = nI (t + 1) ∧ Lw E s (t + 1) p)
theorem sp_X6_spread {Q : Int32 → tS → Prop} {S : tS} {E : Nat → Nat → Prop} {s t a b : Nat} (ht : t ≤ 9) (ha : a < 11) (hb : b < 11) (hE : E a b) (h : AB E s t (S 29)) (k : ∀ f, AB E s t f → (Lw E s t a → f b ≠ -1) → (∀ p, S 29 p ≠ -1 → f p ≠ -1) → Q 0 (tk_upR S 29 f)) : tk_Ms mX6_spread [.ref 28, .int (nI a), .int (nI b), .int (nI t)] S Q := by
  have va : vp_in (nI a) 11 := vp_in_nI ha (by omega)
  have vb : vp_in (nI b) 11 := vp_in_nI hb (by omega)
  have ca : (nI a).toNatClampNeg = a := nI_c (by omega)
  have cb : (nI b).toNatClampNeg = b := nI_c (by omega)
  have k0 := k (S 29) h
  rw [upR_self] at k0
  refine w_X6_spread _ _ _ ⟨va, fun c => ok0 (k0 (fun g => ?_) (fun p hp => hp)), fun c => ⟨vb, fun d => ok0 (k0 (fun _ => ?_) (fun p hp => hp)), fun d => ⟨vb, ok0 ?_⟩⟩⟩
  · rw [ca] at c
    exact absurd ((h.1 a ha t (Nat.le_refl _)).mpr g) c
  · rw [cb] at d
    exact d
  · rw [ca] at c
    rw [cb] at d
    have la := (h.1 a ha t (Nat.le_refl _)).mp c
    have lb : Lw E s (t + 1) b := by
      refine ⟨⟨a, la.1, hE⟩, fun m hm hw => ?_⟩
      obtain ⟨d', hd', hl⟩ := Lw.of hw
      have := (h.1 b hb d' (by omega)).mpr hl
      rw [d] at this
      exact nI_nm (d := d') (by omega) this.symm
    rw [cb, nI_1, up_R]
    refine k _ ⟨fun p hp d' hd' => ?_, fun p hp => ?_⟩ (fun _ => ?_) (fun p hp => ?_)
    · by_cases e : p = b
      · subst e
        rw [upd_s]
        refine ⟨fun z => absurd (nI_ij (by omega) (by omega) z) (by omega), fun z => absurd (z.uniq lb) (by omega)⟩
      · rw [upd_n e]
        exact h.1 p hp d' hd'
    · by_cases e : p = b
      · subst e
        rw [upd_s]
        exact Or.inr (Or.inr ⟨rfl, lb⟩)
      · rw [upd_n e]
        exact h.2 p hp
    · rw [upd_s]
      exact nI_nm (by omega)
    · by_cases e : p = b
      · subst e
        rw [upd_s]
        exact nI_nm (by omega)
      · rw [upd_n e]
        exact hp
def FinC (E : Nat → Nat → Prop) (s : Nat) (f : Nat → Int32) : Prop := ∀ p, p < 11 → (f p = -1 ∧ ∀ d, ¬ Lw E s d p) ∨ ∃ d, d ≤ 10 ∧ f p = nI d ∧ Lw E s d p
theorem lp_X6_m3 {Q : Int32 → tS → Prop} {S : tS} {n s : Nat} {o1 o2 lk : Nat → Nat} {ks : Int32} (hg : geo n o1 o2 lk) (hd : dat (S 1 0) (S 2) (S 3) (S 4) n o1 o2 lk) {t : Nat} (ht : t ≤ 9) (k : ∀ f, AB (Ed n o1 o2 (pas ks lk)) s (t + 1) f → tk_Gs mX6_measure none 37 [.ref 28, .ref 1, .int (nI s), .int ks, .int (nI (t + 1)), .null] [] (tk_upR S 29 f) Q) : ∀ (m j : Nat) (f : Nat → Int32), j + m = 17 → AB (Ed n o1 o2 (pas ks lk)) s t f → (∀ i, i < j → (i < n ∨ i = 16) → pas ks lk i → (Lw (Ed n o1 o2 (pas ks lk)) s t (o1 i) → f (o2 i) ≠ -1) ∧ (Lw (Ed n o1 o2 (pas ks lk)) s t (o2 i) → f (o1 i) ≠ -1)) → tk_Gs mX6_measure none 47 [.ref 28, .ref 1, .int (nI s), .int ks, .int (nI t), .int (nI j)] [] (tk_upR S 29 f) Q
  | 0, j, f, e, hA, hC => by
    have e : j = 17 := e
    subst e
    refine w_X6_measure_47 _ _ _ _ ⟨fun _ => ?_, fun c => absurd (by decide) c⟩
    rw [nI_1]
    refine k f ⟨fun p hp d hd' => ?_, fun p hp => ?_⟩
    · by_cases ed : d = t + 1
      · subst ed
        constructor
        · intro z
          rcases hA.2 p hp with y | ⟨d', y1, y2⟩ | ⟨_, y⟩
          · rw [y] at z
            exact absurd z.symm (nI_nm (by omega))
          · rw [y2] at z
            exact absurd (nI_ij (by omega) (by omega) z) (by omega)
          · exact y
        · intro z
          obtain ⟨q, ⟨i, hi, hp2, h3⟩, hq⟩ := z.pred
          have hn := hg.1
          obtain ⟨c1, c2⟩ := hC i (by omega) hi hp2
          have ne : f p ≠ -1 := by
            rcases h3 with ⟨x1, x2⟩ | ⟨x1, x2⟩
            · subst x1; subst x2; exact c1 hq
            · subst x1; subst x2; exact c2 hq
          rcases hA.2 p hp with y | ⟨d', y1, y2⟩ | ⟨y, _⟩
          · exact absurd y ne
          · exact absurd (((hA.1 p hp d' y1).mp y2).uniq z) (by omega)
          · exact y
      · exact hA.1 p hp d (by omega)
    · rcases hA.2 p hp with y | ⟨d', y1, y2⟩ | ⟨y, _⟩
      · exact Or.inl y
      · exact Or.inr (Or.inl ⟨d', by omega, y2⟩)
      · exact Or.inr (Or.inl ⟨t + 1, Nat.le_refl _, y⟩)
  | m + 1, j, f, e, hA, hC => by
    have hd' : dat ((tk_upR S 29 f) 1 0) ((tk_upR S 29 f) 2) ((tk_upR S 29 f) 3) ((tk_upR S 29 f) 4) n o1 o2 lk := hd
    refine w_X6_measure_47 _ _ _ _ ⟨fun c => absurd c (nI_nlt (a := 16) (b := j) (by omega) (by omega)), fun _ => sp_X2_canPass2 (by omega) hg hd' (fun z => zf ?_) (fun hv hp => zt ?_)⟩
    · rw [nI_1]
      refine lp_X6_m3 hg hd ht k m (j + 1) f (by omega) hA (fun i hi h1 h2 => ?_)
      by_cases ei : i = j
      · subst ei
        exact absurd ⟨h1, h2⟩ z
      · exact hC i (by omega) h1 h2
    · have v : vp_in (nI j) 17 := vp_in_nI (by omega) (by omega)
      obtain ⟨e2, e3, -⟩ := hd.2 j hv
      obtain ⟨g1, g2, -⟩ := hg.2 j hv
      have ck : (nI j).toNatClampNeg = j := nI_c (by omega)
      refine ⟨v, v, ?_⟩
      show tk_Ms mX6_spread [.ref 28, .int (S 2 (nI j).toNatClampNeg), .int (S 3 (nI j).toNatClampNeg), .int (nI t)] (tk_upR S 29 f) _
      rw [ck, e2, e3]
      refine sp_X6_spread (E := Ed n o1 o2 (pas ks lk)) (s := s) ht (by omega) (by omega) ⟨j, hv, hp, Or.inl ⟨rfl, rfl⟩⟩ hA (fun f1 hA1 hB1 hM1 => ⟨v, v, ?_⟩)
      rw [upRR]
      show tk_Ms mX6_spread [.ref 28, .int (S 3 j), .int (S 2 j), .int (nI t)] (tk_upR S 29 f1) _
      rw [e2, e3]
      refine sp_X6_spread (E := Ed n o1 o2 (pas ks lk)) (s := s) ht (by omega) (by omega) ⟨j, hv, hp, Or.inr ⟨rfl, rfl⟩⟩ hA1 (fun f2 hA2 hB2 hM2 => ?_)
      rw [upRR, nI_1]
      refine lp_X6_m3 hg hd ht k m (j + 1) f2 (by omega) hA2 (fun i hi h1 h2 => ?_)
      by_cases ei : i = j
      · subst ei
        exact ⟨fun z => hM2 _ (hB1 z), hB2⟩
      · obtain ⟨c1, c2⟩ := hC i (by omega) h1 h2
        exact ⟨fun z => hM2 _ (hM1 _ (c1 z)), fun z => hM2 _ (hM1 _ (c2 z))⟩
theorem lp_X6_m2 {Q : Int32 → tS → Prop} {S : tS} {n s : Nat} {o1 o2 lk : Nat → Nat} {ks : Int32} (hs : s < 11) (hg : geo n o1 o2 lk) (hd : dat (S 1 0) (S 2) (S 3) (S 4) n o1 o2 lk) (k : ∀ f, FinC (Ed n o1 o2 (pas ks lk)) s f → Q 0 (tk_upR S 29 f)) : ∀ (m t : Nat) (f : Nat → Int32), t + m = 10 → AB (Ed n o1 o2 (pas ks lk)) s t f → tk_Gs mX6_measure none 37 [.ref 28, .ref 1, .int (nI s), .int ks, .int (nI t), .null] [] (tk_upR S 29 f) Q
  | 0, t, f, e, hA => by
    have e : t = 10 := e
    subst e
    refine w_X6_measure_37 _ _ _ ⟨fun _ => k f (fun p hp => ?_), fun c => absurd (by decide) c⟩
    rcases hA.2 p hp with y | ⟨d', y1, y2⟩ | ⟨_, y⟩
    · refine Or.inl ⟨y, fun d hl => ?_⟩
      have := (hA.1 p hp d (hl.le10 (Ed.lt hg) hs)).mpr hl
      rw [y] at this
      have h10 := hl.le10 (Ed.lt hg) hs
      exact nI_nm (d := d) (by omega) this.symm
    · exact Or.inr ⟨d', y1, y2, (hA.1 p hp d' y1).mp y2⟩
    · have := y.le10 (Ed.lt hg) hs
      omega
  | m + 1, t, f, e, hA => by
    refine w_X6_measure_37 _ _ _ ⟨fun c => absurd c (nI_ge (a := t) (b := 10) (by omega) (by omega)), fun _ => ?_⟩
    exact lp_X6_m3 hg hd (by omega) (fun f1 h1 => lp_X6_m2 hs hg hd k m (t + 1) f1 (by omega) h1) 17 0 f rfl hA (fun i hi => absurd hi (Nat.not_lt_zero _))
def f0 (s : Nat) (x : Int32) (f : Nat → Int32) (n : Nat) : Nat → Int32 := fun p => if p < n then (if p = s then 0 else x) else f p
theorem f0_1 {s n : Nat} {x : Int32} {f : Nat → Int32} : upd (f0 s x f n) n (if n = s then 0 else x) = f0 s x f (n + 1) := by
  funext p
  unfold upd f0
  by_cases h : p = n
  · subst h
    rw [if_pos rfl, if_pos (show p < p + 1 by omega)]
  · rw [if_neg h]
    by_cases h2 : p < n
    · rw [if_pos h2, if_pos (show p < n + 1 by omega)]
    · rw [if_neg h2, if_neg (show ¬ p < n + 1 by omega)]
theorem lp_X6_m1 {Q : Int32 → tS → Prop} {S : tS} {s : Nat} {ks : Int32} (hs : s < 11) (k : tk_Gs mX6_measure none 37 [.ref 28, .ref 1, .int (nI s), .int ks, .int 0, .null] [] (tk_upR S 29 (f0 s (-1) (S 29) 11)) Q) : ∀ m i : Nat, i + m = 11 → tk_Gs mX6_measure none 3 [.ref 28, .ref 1, .int (nI s), .int ks, .int (nI i), .null] [] (tk_upR S 29 (f0 s (-1) (S 29) i)) Q
  | 0, i, e => by
    have e : i = 11 := e
    subst e
    exact w_X6_measure_3 _ _ _ ⟨fun _ => k, fun c => absurd (by decide) c⟩
  | m + 1, i, e => by
    have v : vp_in (nI i) 11 := vp_in_nI (by omega) (by omega)
    have ih := lp_X6_m1 hs k m (i + 1) (by omega)
    rw [← f0_1] at ih
    refine w_X6_measure_3 _ _ _ ⟨fun c => absurd c (nI_ge (a := i) (b := 11) (by omega) (by omega)), fun _ => ⟨fun c => ⟨v, ?_⟩, fun c => ⟨v, ?_⟩⟩⟩
    · rw [nI_1, nI_c (by omega), upR_up]
      rw [if_neg (fun z => c (by rw [z]))] at ih
      exact ih
    · rw [nI_1, nI_c (by omega), upR_up]
      rw [if_pos (nI_ij (by omega) (by omega) c)] at ih
      exact ih
theorem sp_X6_measure {Q : Int32 → tS → Prop} {S : tS} {n s : Nat} {o1 o2 lk : Nat → Nat} {ks : Int32} (hs : s < 11) (hg : geo n o1 o2 lk) (hd : dat (S 1 0) (S 2) (S 3) (S 4) n o1 o2 lk) (k : ∀ f, FinC (Ed n o1 o2 (pas ks lk)) s f → Q 0 (tk_upR S 29 f)) : tk_Ms mX6_measure [.ref 28, .ref 1, .int (nI s), .int ks] S Q := by
  refine w_X6_measure _ _ ?_
  have h1 := lp_X6_m2 (Q := tk_okQ mX6_measure Q) (S := S) (n := n) (s := s) (o1 := o1) (o2 := o2) (lk := lk) (ks := ks) hs hg hd (fun f hf => ok0 (k f hf)) 10 0 (f0 s (-1) (S 29) 11) rfl ⟨fun p hp d hd' => ?_, fun p hp => ?_⟩
  · have h2 := lp_X6_m1 (Q := tk_okQ mX6_measure Q) (S := S) (s := s) (ks := ks) hs h1 11 0 rfl
    have e0 : f0 s (-1) (S 29) 0 = S 29 := by
      funext p
      exact if_neg (Nat.not_lt_zero _)
    rw [e0, upR_self] at h2
    exact h2
  · have d0 : d = 0 := by omega
    subst d0
    unfold f0
    rw [if_pos hp]
    constructor
    · intro z
      by_cases e : p = s
      · exact ⟨Eq.symm e, fun m hm => absurd hm (Nat.not_lt_zero _)⟩
      · rw [if_neg e] at z
        exact absurd z (by decide)
    · intro z
      have z1 : s = p := z.1
      rw [if_pos z1.symm]
      rfl
  · unfold f0
    rw [if_pos hp]
    by_cases e : p = s
    · rw [if_pos e]
      exact Or.inr (Or.inl ⟨0, Nat.le_refl _, rfl⟩)
    · rw [if_neg e]
      exact Or.inl rfl
