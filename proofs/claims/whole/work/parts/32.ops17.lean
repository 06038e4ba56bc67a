/-! WALKS AND THEIR LEAST LENGTH -/
def Wk (E : Nat → Nat → Prop) : Nat → Nat → Nat → Prop
  | 0, a, b => a = b
  | n + 1, a, b => ∃ c, Wk E n a c ∧ E c b
def Lw (E : Nat → Nat → Prop) (s d p : Nat) : Prop := Wk E d s p ∧ ∀ m, m < d → ¬ Wk E m s p
theorem Wk.front {E : Nat → Nat → Prop} : ∀ {n a c b : Nat}, E a c → Wk E n c b → Wk E (n + 1) a b
  | 0, a, c, b, h, g => ⟨a, rfl, by have g : c = b := g; rw [← g]; exact h⟩
  | n + 1, a, c, b, h, ⟨d, g1, g2⟩ => ⟨d, Wk.front h g1, g2⟩
theorem Wk.symm {E : Nat → Nat → Prop} (hE : ∀ a b, E a b → E b a) : ∀ {n a b : Nat}, Wk E n a b → Wk E n b a
  | 0, _, _, h => Eq.symm h
  | n + 1, a, b, ⟨c, h1, h2⟩ => Wk.front (hE _ _ h2) (Wk.symm hE h1)
theorem Lw.symm {E : Nat → Nat → Prop} (hE : ∀ a b, E a b → E b a) {d a b : Nat} (h : Lw E a d b) : Lw E b d a :=
  ⟨h.1.symm hE, fun m hm g => h.2 m hm (g.symm hE)⟩
theorem Lw.uniq {E : Nat → Nat → Prop} {s d d' p : Nat} (h : Lw E s d p) (g : Lw E s d' p) : d = d' := by
  by_cases h1 : d < d'
  · exact absurd h.1 (g.2 d h1)
  · by_cases h2 : d' < d
    · exact absurd g.1 (h.2 d' h2)
    · omega
theorem Lw.of {E : Nat → Nat → Prop} {s p : Nat} : ∀ {n : Nat}, Wk E n s p → ∃ d, d ≤ n ∧ Lw E s d p := by
  intro n
  induction n using Nat.strongRecOn with
  | ind n ih =>
    intro h
    by_cases g : ∃ m, m < n ∧ Wk E m s p
    · obtain ⟨m, hm, hw⟩ := g
      obtain ⟨d, hd, hl⟩ := ih m hm hw
      exact ⟨d, by omega, hl⟩
    · exact ⟨n, Nat.le_refl _, h, fun m hm hw => g ⟨m, hm, hw⟩⟩
theorem Lw.pred {E : Nat → Nat → Prop} {s d p : Nat} (h : Lw E s (d + 1) p) : ∃ q, E q p ∧ Lw E s d q := by
  obtain ⟨⟨q, h1, h2⟩, h3⟩ := h
  exact ⟨q, h2, h1, fun m hm hw => h3 (m + 1) (by omega) ⟨q, hw, h2⟩⟩
theorem cnt_mono {p q : Nat → Bool} : ∀ n, (∀ i, i < n → p i = true → q i = true) → cnt p n ≤ cnt q n
  | 0, _ => Nat.le_refl _
  | n + 1, h => by
    have ih := cnt_mono (p := p) (q := q) n (fun i hi => h i (by omega))
    have hn := h n (by omega)
    show cnt p n + (if p n = true then 1 else 0) ≤ cnt q n + (if q n = true then 1 else 0)
    by_cases e : p n = true
    · rw [if_pos e, if_pos (hn e)]
      omega
    · rw [if_neg e]
      omega
theorem cnt_lt {p q : Nat → Bool} {j : Nat} (hq : q j = true) (hp : ¬ p j = true) : ∀ n, j < n → (∀ i, i < n → p i = true → q i = true) → cnt p n + 1 ≤ cnt q n
  | 0, hj, _ => absurd hj (Nat.not_lt_zero _)
  | n + 1, hj, h => by
    have hn := h n (by omega)
    show cnt p n + (if p n = true then 1 else 0) + 1 ≤ cnt q n + (if q n = true then 1 else 0)
    by_cases e : j = n
    · subst e
      have := cnt_mono (p := p) (q := q) j (fun i hi => h i (by omega))
      rw [if_neg hp, if_pos hq]
      omega
    · have ih := cnt_lt hq hp n (by omega) (fun i hi => h i (by omega))
      by_cases e2 : p n = true
      · rw [if_pos e2, if_pos (hn e2)]
        omega
      · rw [if_neg e2]
        omega
noncomputable def pb (P : Nat → Prop) (i : Nat) : Bool := @decide (P i) (Classical.propDecidable _)
theorem pb_iff {P : Nat → Prop} {i : Nat} : pb P i = true ↔ P i := @decide_eq_true_iff _ (Classical.propDecidable _)
theorem Lw.le10 {E : Nat → Nat → Prop} (hE : ∀ a b, E a b → b < 11) {s : Nat} (hs : s < 11) {d p : Nat} (h : Lw E s d p) : d ≤ 10 := by
  have lt : ∀ {d p : Nat}, Lw E s d p → p < 11 := by
    intro d p h
    cases d with
    | zero =>
      have : s = p := h.1
      omega
    | succ d =>
      obtain ⟨q, h1, _⟩ := h.pred
      exact hE _ _ h1
  have all : ∀ d p, Lw E s d p → ∀ m, m ≤ d → ∃ q, Lw E s m q := by
    intro d
    induction d with
    | zero => exact fun p h m hm => ⟨p, by rw [show m = 0 by omega]; exact h⟩
    | succ d ih =>
      intro p h m hm
      by_cases e : m = d + 1
      · exact ⟨p, by rw [e]; exact h⟩
      · obtain ⟨q, _, h2⟩ := h.pred
        exact ih q h2 m (by omega)
  have cn : ∀ m, m ≤ d + 1 → m ≤ cnt (pb (fun p => ∃ j, j < m ∧ Lw E s j p)) 11 := by
    intro m
    induction m with
    | zero => exact fun _ => Nat.zero_le _
    | succ m ih =>
      intro hm
      obtain ⟨q, hq⟩ := all d p h m (by omega)
      have := cnt_lt (p := pb (fun p => ∃ j, j < m ∧ Lw E s j p)) (q := pb (fun p => ∃ j, j < m + 1 ∧ Lw E s j p)) (j := q) (pb_iff.mpr ⟨m, by omega, hq⟩) (fun g => by
        obtain ⟨j, hj, hl⟩ := pb_iff.mp g
        have := hl.uniq hq
        omega) 11 (lt hq) (fun i _ hi => by
        obtain ⟨j, hj, hl⟩ := pb_iff.mp hi
        exact pb_iff.mpr ⟨j, by omega, hl⟩)
      have := ih (by omega)
      omega
  have := cn (d + 1) (Nat.le_refl _)
  have := cnt_le (pb (fun p => ∃ j, j < d + 1 ∧ Lw E s j p)) 11
  omega
/-- two places with a door between them that may be passed -/
def Ed (n : Nat) (o1 o2 : Nat → Nat) (pa : Nat → Prop) (a b : Nat) : Prop := ∃ k, (k < n ∨ k = 16) ∧ pa k ∧ ((o1 k = a ∧ o2 k = b) ∨ (o1 k = b ∧ o2 k = a))
theorem Ed.symm {n : Nat} {o1 o2 : Nat → Nat} {pa : Nat → Prop} (a b : Nat) : Ed n o1 o2 pa a b → Ed n o1 o2 pa b a :=
  fun ⟨k, h1, h2, h3⟩ => ⟨k, h1, h2, h3.symm⟩
def geo (n : Nat) (o1 o2 lk : Nat → Nat) : Prop := n ≤ 16 ∧ ∀ k, (k < n ∨ k = 16) → o1 k ≤ 10 ∧ o2 k ≤ 10 ∧ o1 k ≠ o2 k ∧ lk k ≤ 8
def dat (cn : Int32) (f g h : Nat → Int32) (n : Nat) (o1 o2 lk : Nat → Nat) : Prop := cn = nI n ∧ ∀ k, (k < n ∨ k = 16) → f k = nI (o1 k) ∧ g k = nI (o2 k) ∧ h k = nI (lk k)
def pas (ks : Int32) (lk : Nat → Nat) (k : Nat) : Prop := lk k = 8 ∨ bt ks (lk k) = true
theorem Ed.lt {n : Nat} {o1 o2 lk : Nat → Nat} {pa : Nat → Prop} (hg : geo n o1 o2 lk) (a b : Nat) : Ed n o1 o2 pa a b → b < 11 := by
  rintro ⟨k, h1, _, h3⟩
  obtain ⟨g1, g2, _⟩ := hg.2 k h1
  omega
theorem Inv.geo {S : tS} (hI : Inv S) : ∃ n o1 o2 lk, geo n o1 o2 lk ∧ dat (S 1 0) (S 2) (S 3) (S 4) n o1 o2 lk ∧ dat (S 45 3) (S 46) (S 47) (S 48) n o1 o2 lk := by
  obtain ⟨⟨n, hn, e1, e2, h⟩, ⟨x1, x2, x3, y1, y2, y3⟩, _⟩ := hI
  have all : ∀ k, (k < n ∨ k = 16) → S 46 k = S 2 k ∧ S 47 k = S 3 k ∧ S 48 k = S 4 k ∧ 0 ≤ (S 2 k).toInt ∧ (S 2 k).toInt ≤ 10 ∧ 0 ≤ (S 3 k).toInt ∧ (S 3 k).toInt ≤ 10 ∧ S 2 k ≠ S 3 k ∧ 0 ≤ (S 4 k).toInt ∧ (S 4 k).toInt ≤ 8 := by
    intro k hk
    rcases hk with hk | hk
    · exact h k hk
    · subst hk
      rw [x1, x2, x3, y1, y2, y3]
      decide
  refine ⟨n, fun k => (S 2 k).toNatClampNeg, fun k => (S 3 k).toNatClampNeg, fun k => (S 4 k).toNatClampNeg, ⟨hn, fun k hk => ?_⟩, ⟨e1, fun k hk => ?_⟩, ⟨e2, fun k hk => ?_⟩⟩
  · obtain ⟨a1, a2, a3, a4, a5, a6, a7, a8, a9, a10⟩ := all k hk
    have t1 := tn a4
    have t2 := tn a6
    have t3 := tn a9
    refine ⟨by show (S 2 k).toNatClampNeg ≤ 10; omega, by show (S 3 k).toNatClampNeg ≤ 10; omega, fun e => a8 ?_, by show (S 4 k).toNatClampNeg ≤ 8; omega⟩
    have e : (S 2 k).toNatClampNeg = (S 3 k).toNatClampNeg := e
    rw [xeq]
    omega
  · obtain ⟨a1, a2, a3, a4, a5, a6, a7, a8, a9, a10⟩ := all k hk
    exact ⟨nI_of_t a4, nI_of_t a6, nI_of_t a9⟩
  · obtain ⟨a1, a2, a3, a4, a5, a6, a7, a8, a9, a10⟩ := all k hk
    rw [a1, a2, a3]
    exact ⟨nI_of_t a4, nI_of_t a6, nI_of_t a9⟩
