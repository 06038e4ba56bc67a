/-! VISIT: the way -/
def nx (E : Nat → Nat → Prop) (s n : Nat) (o1 o2 lk : Nat → Nat) (r : Int32) (p left k : Nat) : Prop := (k < n ∨ k = 16) ∧ pas r lk k ∧ ((o1 k = p ∧ Lw E s left (o2 k)) ∨ (o2 k = p ∧ Lw E s left (o1 k)))
def fsd (E : Nat → Nat → Prop) (s n : Nat) (o1 o2 lk : Nat → Nat) (r : Int32) (p left e : Nat) : Prop := nx E s n o1 o2 lk r p left e ∧ ∀ i, i < n → i < e → ¬ nx E s n o1 o2 lk r p left i
theorem fsd.uniq {E : Nat → Nat → Prop} {s n : Nat} {o1 o2 lk : Nat → Nat} {r : Int32} {p left e e' : Nat} (hn : n ≤ 16) (h : fsd E s n o1 o2 lk r p left e) (h' : fsd E s n o1 o2 lk r p left e') : e = e' := by
  by_cases h1 : e < e'
  · rcases h.1.1 with g | g
    · exact absurd h.1 (h'.2 e g h1)
    · rcases h'.1.1 with g' | g' <;> omega
  · by_cases h2 : e' < e
    · rcases h'.1.1 with g | g
      · exact absurd h'.1 (h.2 e' g h2)
      · rcases h.1.1 with g' | g' <;> omega
    · omega
theorem nx.ex {n s : Nat} {o1 o2 lk : Nat → Nat} {r : Int32} {p left : Nat} (h : Lw (Ed n o1 o2 (pas r lk)) s (left + 1) p) : ∃ k, nx (Ed n o1 o2 (pas r lk)) s n o1 o2 lk r p left k := by
  obtain ⟨q, ⟨k, hk, hp, h3⟩, hq⟩ := h.pred
  refine ⟨k, hk, hp, ?_⟩
  rcases h3 with ⟨x1, x2⟩ | ⟨x1, x2⟩
  · exact Or.inr ⟨x2, by rw [x1]; exact hq⟩
  · exact Or.inl ⟨x1, by rw [x2]; exact hq⟩
theorem FinC.iff {E : Nat → Nat → Prop} {s p d : Nat} {f : Nat → Int32} (h : FinC E s f) (hp : p < 11) (hd : d ≤ 10) : f p = nI d ↔ Lw E s d p := by
  rcases h p hp with ⟨h1, h2⟩ | ⟨e, e10, h1, h2⟩
  · rw [h1]
    exact ⟨fun z => absurd z.symm (nI_nm (by omega)), fun z => absurd z (h2 d)⟩
  · rw [h1]
    refine ⟨fun z => ?_, fun z => by rw [h2.uniq z]⟩
    have := nI_ij (by omega) (by omega) z
    rw [← this]
    exact h2
theorem FinM.iff {E : Nat → Nat → Prop} {s p d : Nat} {f : Nat → Int32} (h : FinM E s f) (hp : p < 11) (hd : d ≤ 10) : f p = nI d ↔ Lw E s d p := by
  rcases h p hp with ⟨h1, h2⟩ | ⟨e, e10, h1, h2⟩
  · rw [h1]
    exact ⟨fun z => absurd z.symm (nI_n99 hd), fun z => absurd z (h2 d)⟩
  · rw [h1]
    refine ⟨fun z => ?_, fun z => by rw [h2.uniq z]⟩
    have := nI_ij (by omega) (by omega) z
    rw [← this]
    exact h2
theorem lp_X6_doorNearer {Q : Int32 → tS → Prop} {S : tS} {n s p left : Nat} {o1 o2 lk : Nat → Nat} {r : Int32} (hg : geo n o1 o2 lk) (hd : dat (S 1 0) (S 2) (S 3) (S 4) n o1 o2 lk) (hf : FinC (Ed n o1 o2 (pas r lk)) s (S 29)) (hp : p < 11) (hl : left ≤ 10) (ex : ∃ k, nx (Ed n o1 o2 (pas r lk)) s n o1 o2 lk r p left k) (k : ∀ e, e ≤ 16 → fsd (Ed n o1 o2 (pas r lk)) s n o1 o2 lk r p left e → Q (nI e) S) : ∀ m j : Nat, j + m = 16 → (∀ i, i < j → i < n → ¬ nx (Ed n o1 o2 (pas r lk)) s n o1 o2 lk r p left i) → tk_Gs mX6_doorNearer none 3 [.ref 28, .ref 1, .int r, .int (nI p), .int (nI (left + 1)), .int (nI j), .null] [] S Q
  | 0, j, e, h => by
    have e : j = 16 := e
    subst e
    refine w_X6_doorNearer_3 _ _ _ _ ⟨fun _ => k 16 (Nat.le_refl _) ⟨?_, fun i hi hi2 => h i hi2 hi⟩, fun c => absurd (by decide) c⟩
    obtain ⟨k', hk'⟩ := ex
    have hn := hg.1
    rcases hk'.1 with g | g
    · exact absurd hk' (h k' (by omega) g)
    · rw [← g]
      exact hk'
  | m + 1, j, e, h => by
    have hn := hg.1
    have cj : (nI j).toNatClampNeg = j := nI_c (by omega)
    have vj : vp_in (nI j) 17 := vp_in_nI (by omega) (by omega)
    have el : nI (left + 1) - 1 = nI left := pk_sub (b := 1) (by omega)
    have nxt : ¬ nx (Ed n o1 o2 (pas r lk)) s n o1 o2 lk r p left j → tk_Gs mX6_doorNearer none 3 [.ref 28, .ref 1, .int r, .int (nI p), .int (nI (left + 1)), .int (nI j + 1), .null] [] S Q := by
      intro g
      rw [nI_1]
      refine lp_X6_doorNearer hg hd hf hp hl ex k m (j + 1) (by omega) (fun i hi hi2 => ?_)
      by_cases ei : i = j
      · subst ei; exact g
      · exact h i (by omega) hi2
    refine w_X6_doorNearer_3 _ _ _ _ ⟨fun c => absurd c (nI_ge (a := j) (b := 16) (by omega) (by omega)), fun _ => sp_X2_canPass2 (by omega) hg hd (fun z => zf (nxt (fun y => z ⟨y.1, y.2.1⟩))) (fun hv hpa => zt (sp_X2_isAt vj (fun z => zf (nxt (fun y => ?_))) (fun z => zt ⟨vj, fun c => ⟨vj, ?_⟩, fun c => ⟨vj, ?_⟩⟩)))⟩
    · obtain ⟨e1, e2, -⟩ := hd.2 j hv
      rw [cj, e1, e2] at z
      rcases y.2.2 with ⟨y1, _⟩ | ⟨y1, _⟩
      · exact z (Or.inl (by rw [y1]))
      · exact z (Or.inr (by rw [y1]))
    · obtain ⟨e1, e2, -⟩ := hd.2 j hv
      obtain ⟨g1, g2, g3, -⟩ := hg.2 j hv
      rw [cj, e1] at c
      rw [cj, e1, e2] at z
      have c1 : o1 j ≠ p := fun y => c (by rw [y])
      have c2 : o2 j = p := nI_ij (by omega) (by omega) (z.resolve_left c)
      have co : (nI (o1 j)).toNatClampNeg = o1 j := nI_c (by omega)
      rw [cj, e1, co, el]
      refine ⟨vp_in_nI (by omega) (by omega), fun w => nxt (fun y => ?_), fun w => k j (by omega) ⟨⟨hv, hpa, Or.inr ⟨c2, (hf.iff (by omega) hl).mp w⟩⟩, fun i hi hi2 => h i hi2 hi⟩⟩
      rcases y.2.2 with ⟨y1, _⟩ | ⟨_, y1⟩
      · exact c1 y1
      · exact w ((hf.iff (by omega) hl).mpr y1)
    · obtain ⟨e1, e2, -⟩ := hd.2 j hv
      obtain ⟨g1, g2, g3, -⟩ := hg.2 j hv
      rw [cj, e1] at c
      have c1 : o1 j = p := nI_ij (by omega) (by omega) c
      have co : (nI (o2 j)).toNatClampNeg = o2 j := nI_c (by omega)
      rw [cj, e2, co, el]
      refine ⟨vp_in_nI (by omega) (by omega), fun w => nxt (fun y => ?_), fun w => k j (by omega) ⟨⟨hv, hpa, Or.inl ⟨c1, (hf.iff (by omega) hl).mp w⟩⟩, fun i hi hi2 => h i hi2 hi⟩⟩
      rcases y.2.2 with ⟨_, y1⟩ | ⟨y1, _⟩
      · exact w ((hf.iff (by omega) hl).mpr y1)
      · exact g3 (c1.trans y1.symm)
def oth (o1 o2 : Nat → Nat) (e p : Nat) : Nat := if o1 e = p then o2 e else o1 e
/-- the locks on the way -/
def PL (E : Nat → Nat → Prop) (s n : Nat) (o1 o2 lk : Nat → Nat) (r : Int32) : Nat → Nat → Nat → Prop
  | 0, _, _ => False
  | left + 1, p, i => ∃ e, fsd E s n o1 o2 lk r p left e ∧ (lk e = i ∨ PL E s n o1 o2 lk r left (oth o1 o2 e p) i)
theorem PL_1 {E : Nat → Nat → Prop} {s n : Nat} {o1 o2 lk : Nat → Nat} {r : Int32} {p left e i : Nat} (hn : n ≤ 16) (h : fsd E s n o1 o2 lk r p left e) : PL E s n o1 o2 lk r (left + 1) p i ↔ lk e = i ∨ PL E s n o1 o2 lk r left (oth o1 o2 e p) i := by
  constructor
  · rintro ⟨e', h1, h2⟩
    have := h.uniq hn h1
    subst this
    exact h2
  · exact fun h2 => ⟨e, h, h2⟩
theorem fsd_oth {E : Nat → Nat → Prop} {s n : Nat} {o1 o2 lk : Nat → Nat} {r : Int32} {p left e : Nat} (hg : geo n o1 o2 lk) (h : fsd E s n o1 o2 lk r p left e) : Lw E s left (oth o1 o2 e p) ∧ oth o1 o2 e p < 11 := by
  obtain ⟨g1, g2, g3, -⟩ := hg.2 e h.1.1
  unfold oth
  rcases h.1.2.2 with ⟨y1, y2⟩ | ⟨y1, y2⟩
  · rw [if_pos y1]
    exact ⟨y2, by omega⟩
  · rw [if_neg (fun z => g3 (z.trans y1.symm))]
    exact ⟨y2, by omega⟩
theorem lp_X6_locks {Q : Int32 → tS → Prop} {S : tS} {n s : Nat} {o1 o2 lk : Nat → Nat} {r : Int32} (hg : geo n o1 o2 lk) (hd : dat (S 1 0) (S 2) (S 3) (S 4) n o1 o2 lk) (hf : FinC (Ed n o1 o2 (pas r lk)) s (S 29)) : ∀ (left p : Nat) (L : Int32), left ≤ 10 → p < 11 → Lw (Ed n o1 o2 (pas r lk)) s left p → (∀ L', (∀ i, i < 32 → (bt L' i = true ↔ bt L i = true ∨ (i ≠ 8 ∧ PL (Ed n o1 o2 (pas r lk)) s n o1 o2 lk r left p i))) → Q L' S) → tk_Gs mX6_locksFromHall none 13 [.ref 28, .ref 1, .int r, .int L, .int (nI p), .int (nI left), .null] [] S Q
  | 0, p, L, hl, hp, h, k => by
    refine w_X6_locksFromHall_13 _ _ _ _ ⟨fun _ => k L (fun i _ => ⟨Or.inl, fun z => z.elim id (fun z => z.2.elim)⟩), fun c => absurd (by decide) c⟩
  | left + 1, p, L, hl, hp, h, k => by
    have hn := hg.1
    refine w_X6_locksFromHall_13 _ _ _ _ ⟨fun c => absurd c (nI_ge (a := 0) (b := left + 1) (by omega) (by omega)), fun _ => w_X6_doorNearer _ _ _ (lp_X6_doorNearer hg hd hf hp (by omega) (nx.ex h) (fun e e16 he => okI (by decide) ?_) 16 0 rfl (fun i hi => absurd hi (Nat.not_lt_zero _)))⟩
    have ve : vp_in (nI e) 17 := vp_in_nI (by omega) (by omega)
    have ce : (nI e).toNatClampNeg = e := nI_c (by omega)
    obtain ⟨e1, e2, e4⟩ := hd.2 e he.1.1
    obtain ⟨g1, g2, g3, g8⟩ := hg.2 e he.1.1
    obtain ⟨hlw, ho⟩ := fsd_oth hg he
    have rc1 : ∀ L1, (∀ i, i < 32 → (bt L1 i = true ↔ bt L i = true ∨ (i ≠ 8 ∧ lk e = i))) → tk_Gs mX6_locksFromHall none 13 [.ref 28, .ref 1, .int r, .int L1, .int (nI (oth o1 o2 e p)), .int (nI (left + 1) + (-1)), .null] [] S Q := by
      intro L1 h1
      rw [nI_s1]
      refine lp_X6_locks hg hd hf left _ L1 (by omega) ho hlw (fun L' hL' => k L' (fun i hi => ?_))
      rw [hL' i hi, h1 i hi, PL_1 hn he, or_assoc]
      constructor
      · exact fun z => z.elim Or.inl (fun z => Or.inr (z.elim (fun z => ⟨z.1, Or.inl z.2⟩) (fun z => ⟨z.1, Or.inr z.2⟩)))
      · exact fun z => z.elim Or.inl (fun z => Or.inr (z.2.elim (fun y => Or.inl ⟨z.1, y⟩) (fun y => Or.inr ⟨z.1, y⟩)))
    have rec2 : ∀ L1, (∀ i, i < 32 → (bt L1 i = true ↔ bt L i = true ∨ (i ≠ 8 ∧ lk e = i))) → (¬ nI (o1 e) = nI p → tk_Gs mX6_locksFromHall none 13 [.ref 28, .ref 1, .int r, .int L1, .int (nI (o1 e)), .int (nI (left + 1) + (-1)), .null] [] S Q) ∧ (nI (o1 e) = nI p → tk_Gs mX6_locksFromHall none 13 [.ref 28, .ref 1, .int r, .int L1, .int (nI (o2 e)), .int (nI (left + 1) + (-1)), .null] [] S Q) := by
      intro L1 h1
      have := rc1 L1 h1
      unfold oth at this
      constructor
      · intro c
        rw [if_neg (fun z => c (by rw [z]))] at this
        exact this
      · intro c
        rw [if_pos (nI_ij (by omega) (by omega) c)] at this
        exact this
    rw [ce, e1, e2, e4]
    refine ⟨ve, fun c => ⟨ve, ?_⟩, fun c => ⟨ve, ve, ?_⟩⟩
    · have l8 : lk e = 8 := nI_ij (b := 8) (by omega) (by omega) c
      obtain ⟨r1, r2⟩ := rec2 L (fun i _ => ⟨Or.inl, fun z => z.elim id (fun z => absurd (z.2.symm.trans l8) z.1)⟩)
      exact ⟨fun z => ⟨ve, r1 z⟩, fun z => ⟨ve, r2 z⟩⟩
    · have l8 : lk e ≠ 8 := fun z => c (by rw [z]; rfl)
      obtain ⟨r1, r2⟩ := rec2 (L ||| (1 <<< (nI (lk e) &&& 31))) (fun i hi => by
        rw [orbit L (by omega) hi, Bool.or_eq_true, decide_eq_true_eq]
        exact ⟨fun z => z.elim Or.inl (fun z => Or.inr ⟨fun y => l8 (z.symm.trans y), z.symm⟩), fun z => z.elim Or.inl (fun z => Or.inr z.2.symm)⟩)
      exact ⟨fun z => ⟨ve, r1 z⟩, fun z => ⟨ve, r2 z⟩⟩
