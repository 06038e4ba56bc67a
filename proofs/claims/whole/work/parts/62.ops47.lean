/-! A WEEK'S ACTS, one behind another -/
def zz (C : tS) : tS := tk_up C 21 0 0
theorem zz_n {C : tS} {c : Nat} (h : c ≠ 21) : (zz C) c = C c := tk_up_n h
theorem zz_0 {C : tS} : (zz C) 21 0 = 0 := tk_up_ss
theorem zz_R {C : tS} {k : Nat} {f : Nat → Int32} (h : k ≠ 21) : zz (tk_upR C k f) = tk_upR (zz C) k f := by
  unfold zz tk_up
  rw [tk_upR_n (Ne.symm h)]
  exact upR_comm h
theorem zz_up {C : tS} {k j : Nat} {x : Int32} (h : k ≠ 21) : zz (tk_up C k j x) = tk_up (zz C) k j x := by
  show zz (tk_upR C k (upd (C k) j x)) = tk_upR (zz C) k (upd ((zz C) k) j x)
  rw [zz_R h, zz_n h]
theorem stC_z {S : tS} {x t : Int32} {A : Nat → Prop} : zz (stC S x t A) = stC (zz S) x t A := by
  unfold stC
  rw [zz_R (by decide), zz_R (by decide), zz_n (C := S) (c := 7) (by decide), zz_n (C := S) (c := 9) (by decide), zz_n (C := S) (c := 10) (by decide)]
theorem RAC_z {C C' : tS} {n m : Nat} {o1 o2 lk : Nat → Nat} {s p q r y : Int32} (h : RAC C n o1 o2 lk m s p q r y C') : RAC (zz C) n o1 o2 lk m s p q r y (zz C') := by
  have e0 : (zz C) 0 = C 0 := zz_n (by decide)
  have e6 : (zz C) 6 = C 6 := zz_n (by decide)
  have e7 : (zz C) 7 = C 7 := zz_n (by decide)
  have e8 : (zz C) 8 = C 8 := zz_n (by decide)
  have e9 : (zz C) 9 = C 9 := zz_n (by decide)
  unfold RAC RVC RWC RG RNC at h ⊢
  rw [e0, e6, e7, e8, e9]
  rcases h with ⟨e, h⟩ | ⟨e, h⟩ | ⟨e, h⟩ | ⟨e, h⟩
  · refine Or.inl ⟨e, ?_⟩
    rcases h with ⟨h1, h2, h3⟩ | ⟨h1, v, g, h2, h3⟩
    · exact Or.inl ⟨h1, h2, by rw [h3]⟩
    · refine Or.inr ⟨h1, v, g, h2, ?_⟩
      rcases h3 with ⟨g1, g2, g3⟩ | ⟨d, g1, g2, g3, g4⟩
      · exact Or.inl ⟨g1, g2, by rw [g3, zz_R (by decide)]⟩
      · exact Or.inr ⟨d, g1, g2, g3, by rw [g4, stC_z, zz_R (by decide)]⟩
  · refine Or.inr (Or.inl ⟨e, ?_⟩)
    rcases h with ⟨h1, h2, h3⟩ | ⟨h1, h3⟩
    · exact Or.inl ⟨h1, h2, by rw [h3]⟩
    · refine Or.inr ⟨h1, ?_⟩
      rcases h3 with ⟨g1, g2, g3⟩ | ⟨g1, g2, g3⟩
      · exact Or.inl ⟨g1, g2, by rw [g3]⟩
      · refine Or.inr ⟨g1, g2, ?_⟩
        rcases g3 with ⟨w1, w2⟩ | ⟨w1, w2⟩
        · exact Or.inl ⟨w1, by rw [w2, zz_up (by decide)]⟩
        · exact Or.inr ⟨w1, by rw [w2, zz_up (by decide), zz_up (by decide)]⟩
  · refine Or.inr (Or.inr (Or.inl ⟨e, ?_⟩))
    rcases h with ⟨h1, h2, h3⟩ | ⟨h1, h3⟩
    · exact Or.inl ⟨h1, h2, by rw [h3]⟩
    · refine Or.inr ⟨h1, ?_⟩
      rcases h3 with ⟨g1, g2, g3⟩ | ⟨g1, g2, g3⟩
      · exact Or.inl ⟨g1, g2, by rw [g3]⟩
      · exact Or.inr ⟨g1, g2, by rw [g3, zz_up (by decide)]⟩
  · refine Or.inr (Or.inr (Or.inr ⟨e, ?_⟩))
    rcases h with ⟨h1, h2, h3⟩ | ⟨h1, h2, h3⟩
    · exact Or.inl ⟨h1, h2, by rw [h3, zz_up (by decide)]⟩
    · exact Or.inr ⟨h1, h2, by rw [h3]⟩
theorem RAC_fr {C C' : tS} {n m : Nat} {o1 o2 lk : Nat → Nat} {s p q r y : Int32} (h : RAC C n o1 o2 lk m s p q r y C') : ∀ c, c ≠ 0 → c ≠ 8 → c ≠ 9 → c ≠ 10 → c ≠ 29 → C' c = C c := by
  intro c c0 c8 c9 c10 c29
  rcases h with ⟨e, h⟩ | ⟨e, h⟩ | ⟨e, h⟩ | ⟨e, h⟩
  · rcases h with ⟨h1, h2, h3⟩ | ⟨h1, v, g, h2, h3⟩
    · rw [h3]
    · rcases h3 with ⟨g1, g2, g3⟩ | ⟨d, g1, g2, g3, g4⟩
      · rw [g3, tk_upR_n c29]
      · rw [g4]
        unfold stC
        rw [tk_upR_n c10, tk_upR_n c9, tk_upR_n c29]
  · rcases h with ⟨h1, h2, h3⟩ | ⟨h1, h3⟩
    · rw [h3]
    · rcases h3 with ⟨g1, g2, g3⟩ | ⟨g1, g2, g3⟩
      · rw [g3]
      · rcases g3 with ⟨w1, w2⟩ | ⟨w1, w2⟩
        · rw [w2, tk_up_n c9]
        · rw [w2, tk_up_n c10, tk_up_n c9]
  · rcases h with ⟨h1, h2, h3⟩ | ⟨h1, h3⟩
    · rw [h3]
    · rcases h3 with ⟨g1, g2, g3⟩ | ⟨g1, g2, g3⟩
      · rw [g3]
      · rw [g3, tk_up_n c8]
  · rcases h with ⟨h1, h2, h3⟩ | ⟨h1, h2, h3⟩
    · rw [h3, tk_up_n c0]
    · rw [h3]
theorem RAM_fr {M M' : tS} {n m : Nat} {o1 o2 lk : Nat → Nat} {s p q r y : Int32} (h : RAM M n o1 o2 lk m s p q r y M') : (∀ c, c ≠ 45 → c ≠ 51 → c ≠ 52 → c ≠ 53 → c ≠ 56 → M' c = M c) ∧ ∀ j, j ≠ 10 → M' 45 j = M 45 j := by
  rcases h with ⟨e, h⟩ | ⟨e, h⟩ | ⟨e, h⟩ | ⟨e, h⟩
  · rcases h with ⟨h1, h2, h3⟩ | ⟨h1, v, g, h2, h3⟩
    · rw [h3]; exact ⟨fun _ _ _ _ _ _ => rfl, fun _ _ => rfl⟩
    · rcases h3 with ⟨g1, g2, g3⟩ | ⟨d, g1, g2, g3, g4⟩
      · rw [g3]
        exact ⟨fun c c1 c2 c3 c4 c5 => tk_upR_n c5, fun j hj => by rw [tk_upR_n (by decide)]⟩
      · rw [g4]
        unfold stM
        exact ⟨fun c c1 c2 c3 c4 c5 => by rw [tk_upR_n c4, tk_upR_n c3, tk_upR_n c5], fun j hj => by rw [tk_upR_n (by decide), tk_upR_n (by decide), tk_upR_n (by decide)]⟩
  · rcases h with ⟨h1, h2, h3⟩ | ⟨h1, h3⟩
    · rw [h3]; exact ⟨fun _ _ _ _ _ _ => rfl, fun _ _ => rfl⟩
    · rcases h3 with ⟨g1, g2, g3⟩ | ⟨g1, g2, g3⟩
      · rw [g3]; exact ⟨fun _ _ _ _ _ _ => rfl, fun _ _ => rfl⟩
      · rw [g3]
        exact ⟨fun c c1 c2 c3 c4 c5 => tk_up_n c3, fun j hj => by rw [tk_up_n (by decide)]⟩
  · rcases h with ⟨h1, h2, h3⟩ | ⟨h1, h3⟩
    · rw [h3]; exact ⟨fun _ _ _ _ _ _ => rfl, fun _ _ => rfl⟩
    · rcases h3 with ⟨g1, g2, g3⟩ | ⟨g1, g2, g3⟩
      · rw [g3]; exact ⟨fun _ _ _ _ _ _ => rfl, fun _ _ => rfl⟩
      · rw [g3]
        exact ⟨fun c c1 c2 c3 c4 c5 => tk_up_n c2, fun j hj => by rw [tk_up_n (by decide)]⟩
  · rcases h with ⟨h1, h2, h3⟩ | ⟨h1, h2, h3⟩
    · rw [h3]
      exact ⟨fun c c1 c2 c3 c4 c5 => tk_up_n c1, fun j hj => tk_up_sn hj⟩
    · rw [h3]; exact ⟨fun _ _ _ _ _ _ => rfl, fun _ _ => rfl⟩
theorem RAC_same {C C' : tS} {n m : Nat} {o1 o2 lk : Nat → Nat} {s p q r p' q' r' y : Int32} (g : sameA s p q r p' q' r') (h : RAC C n o1 o2 lk m s p' q' r' y C') : RAC C n o1 o2 lk m s p q r y C' := by
  rcases h with ⟨e, h⟩ | ⟨e, h⟩ | ⟨e, h⟩ | ⟨e, h⟩
  · obtain ⟨e1, e2, e3⟩ := g.1 e
    subst e1; subst e2; subst e3
    exact Or.inl ⟨e, h⟩
  · obtain ⟨e1, e2⟩ := g.2 (Or.inl e)
    subst e1; subst e2
    exact Or.inr (Or.inl ⟨e, h⟩)
  · obtain ⟨e1, e2⟩ := g.2 (Or.inr e)
    subst e1; subst e2
    exact Or.inr (Or.inr (Or.inl ⟨e, h⟩))
  · exact Or.inr (Or.inr (Or.inr ⟨e, h⟩))
theorem RAM_same {M M' : tS} {n m : Nat} {o1 o2 lk : Nat → Nat} {s p q r p' q' r' y : Int32} (g : sameA s p q r p' q' r') (h : RAM M n o1 o2 lk m s p' q' r' y M') : RAM M n o1 o2 lk m s p q r y M' := by
  rcases h with ⟨e, h⟩ | ⟨e, h⟩ | ⟨e, h⟩ | ⟨e, h⟩
  · obtain ⟨e1, e2, e3⟩ := g.1 e
    subst e1; subst e2; subst e3
    exact Or.inl ⟨e, h⟩
  · obtain ⟨e1, e2⟩ := g.2 (Or.inl e)
    subst e1; subst e2
    exact Or.inr (Or.inl ⟨e, h⟩)
  · obtain ⟨e1, e2⟩ := g.2 (Or.inr e)
    subst e1; subst e2
    exact Or.inr (Or.inr (Or.inl ⟨e, h⟩))
  · exact Or.inr (Or.inr (Or.inr ⟨e, h⟩))
def frN (C U : tS) : Prop := ∀ c, c ≠ 21 → c ≠ 27 → U c = C c
theorem frN.refl {C : tS} : frN C C := fun _ _ _ => rfl
theorem frN.trans {C U V : tS} (h : frN C U) (g : frN U V) : frN C V := fun c h1 h2 => (g c h1 h2).trans (h c h1 h2)
/-- the object's acts from the k-th on, q of them at most -/
def chC (f : Nat → Int32) (n hn : Nat) (o1 o2 lk : Nat → Nat) (m : Nat) : Nat → Nat → tS → Int32 → tS → Prop
  | 0, k, C, x, C' => frN C C' ∧ x = nI k
  | q + 1, k, C, x, C' => ∃ (U C1 : tS) (y : Int32), frN C U ∧ RAC U hn o1 o2 lk m (chr f n (wP f n m k)) (pA f n m (wP f n m k)).2.2.1 (pA f n m (wP f n m k)).2.2.2.1 (pA f n m (wP f n m k)).2.2.2.2 y C1 ∧ ((y < 0 ∧ x = nI k ∧ frN C1 C') ∨ (¬ y < 0 ∧ chC f n hn o1 o2 lk m q (k + 1) C1 x C'))
theorem chC.pre {f : Nat → Int32} {n hn m : Nat} {o1 o2 lk : Nat → Nat} {q k : Nat} {C T C' : tS} {x : Int32} (h : frN C T) (g : chC f n hn o1 o2 lk m q k T x C') : chC f n hn o1 o2 lk m q k C x C' := by
  cases q with
  | zero => exact ⟨h.trans g.1, g.2⟩
  | succ q =>
    obtain ⟨U, C1, y, g1, g2⟩ := g
    exact ⟨U, C1, y, h.trans g1, g2⟩
theorem chC_fr {f : Nat → Int32} {n hn m : Nat} {o1 o2 lk : Nat → Nat} {x : Int32} {C' : tS} : ∀ (q k : Nat) (C : tS), chC f n hn o1 o2 lk m q k C x C' → ∀ c, 45 ≤ c → C' c = C c := by
  intro q
  induction q with
  | zero => exact fun k C h c hc => h.1 c (by omega) (by omega)
  | succ q ih =>
    intro k C h c hc
    obtain ⟨U, C1, y, g1, g2, g3⟩ := h
    have e : C1 c = C c := (RAC_fr g2 c (by omega) (by omega) (by omega) (by omega) (by omega)).trans (g1 c (by omega) (by omega))
    rcases g3 with ⟨_, _, g3⟩ | ⟨_, g3⟩
    · exact (g3 c (by omega) (by omega)).trans e
    · exact (ih (k + 1) C1 g3 c hc).trans e
theorem pW_t {f : Nat → Int32} {n m q k e N : Nat} (h : pW f n m (q + 1) k = (true, e, N)) : (pA f n m (wP f n m k)).1 = true ∧ ((chr f n (pA f n m (wP f n m k)).2.1 = 59 ∧ pW f n m q (k + 1) = (true, e, N)) ∨ (¬ chr f n (pA f n m (wP f n m k)).2.1 = 59 ∧ chr f n (pA f n m (wP f n m k)).2.1 = -1 ∧ N = k + 1)) := by
  have h : (if (pA f n m (wP f n m k)).1 = false then (false, sk f n (pA f n m (wP f n m k)).2.1, k) else if chr f n (pA f n m (wP f n m k)).2.1 = 59 then pW f n m q (k + 1) else if chr f n (pA f n m (wP f n m k)).2.1 = -1 then (true, sk f n (pA f n m (wP f n m k)).2.1, k + 1) else (false, sk f n (pA f n m (wP f n m k)).2.1, k + 1)) = (true, e, N) := h
  by_cases c1 : (pA f n m (wP f n m k)).1 = false
  · rw [if_pos c1] at h
    exact absurd (congrArg Prod.fst h) Bool.false_ne_true
  · rw [if_neg c1] at h
    refine ⟨by revert c1; cases (pA f n m (wP f n m k)).1 <;> simp, ?_⟩
    by_cases c2 : chr f n (pA f n m (wP f n m k)).2.1 = 59
    · rw [if_pos c2] at h
      exact Or.inl ⟨c2, h⟩
    · rw [if_neg c2] at h
      by_cases c3 : chr f n (pA f n m (wP f n m k)).2.1 = -1
      · rw [if_pos c3] at h
        exact Or.inr ⟨c2, c3, (congrArg (fun z => z.2.2) h).symm⟩
      · rw [if_neg c3] at h
        exact absurd (congrArg Prod.fst h) Bool.false_ne_true
theorem pW_N {f : Nat → Int32} {n m e N : Nat} : ∀ q k : Nat, pW f n m q k = (true, e, N) → k < N
  | 0, k, h => absurd (congrArg Prod.fst h) Bool.false_ne_true
  | q + 1, k, h => by
    rcases (pW_t h).2 with ⟨_, h2⟩ | ⟨_, _, h2⟩
    · have := pW_N q (k + 1) h2
      omega
    · omega
theorem HC.fr {S T : tS} {n m : Nat} {o1 o2 lk : Nat → Nat} (h : HC S n o1 o2 lk m) (g : ∀ c, 1 ≤ c → c ≤ 5 → T c = S c) : HC T n o1 o2 lk m := by
  unfold HC
  rw [g 1 (by decide) (by decide), g 2 (by decide) (by decide), g 3 (by decide) (by decide), g 4 (by decide) (by decide), g 5 (by decide) (by decide)]
  exact h
theorem TpC.eq {f : Nat → Int32} {n : Nat} {S T : tS} (h : TpC f n S) (g : T 21 0 = S 21 0) (g2 : T 22 = S 22) : TpC f n T := by
  unfold TpC
  rw [g, g2]
  exact h
/-- the object does the acts of a week that reads well -/
theorem lp_X7_week2 {Q : Int32 → tS → Prop} {f : Nat → Int32} {n m hn e N : Nat} {o1 o2 lk : Nat → Nat} : ∀ (q k L : Nat) (T : tS), pW f n m q k = (true, e, N) → k + L = N → TpC f n T → HC T hn o1 o2 lk m → T 21 1 = nI (wP f n m k) → wP f n m k ≤ n → 2 * k ≤ wP f n m k → (∀ x C', chC f n hn o1 o2 lk m L k T x C' → Q x C') → tk_Gs mX7_readWeek none 15 [.ref 0, .int 1, .int (nI k), .int 1, .int (nI k)] [] T Q := by
  intro q
  induction q with
  | zero => exact fun k L T h => absurd (congrArg Prod.fst h) Bool.false_ne_true
  | succ q ih =>
    intro k L T hp hL hT hC hat hle h2k kk
    have n160 := hT.1
    have hok := hT.ok
    have hkN := pW_N _ _ hp
    obtain ⟨hA, hc⟩ := pW_t hp
    obtain ⟨hd, hgt⟩ := pA_le (m := m) hok hle
    have hwp := wP_ge (m := m) (k := k) hok hle hA
    have hw1 : wP f n m (k + 1) = sk f n (pA f n m (wP f n m k)).2.1 + 1 := rfl
    obtain ⟨L', rfl⟩ : ∃ L', L = L' + 1 := ⟨L - 1, by omega⟩
    refine w_X7_readWeek_15 _ _ _ _ (zt ⟨fun c => absurd c (nI_ge (a := k) (b := 160) (by omega) (by omega)), fun _ => sp_X7_readAct hle hT hat hC.2.2.1 hC.2.2.2 (fun U h1 h3 h4 => absurd h4 (by rw [hA]; decide)) (fun U h1 h3 h4 h5 h6 => zt' (zt ?_))⟩)
    have hCU : HC U hn o1 o2 lk m := hC.fr (fun c g1 g2 => h1.1 c (by omega) (by omega))
    refine sp7_doAct hCU (fun y C1 hR => ?_)
    rw [h5] at hR
    have hR := RAC_same h6 hR
    have fr := RAC_fr hR
    refine ⟨fun z => zf' (kk _ _ ⟨U, C1, y, h1.1, hR, Or.inl ⟨z, rfl, frN.refl⟩⟩), fun z => zt' ?_⟩
    have e21 : C1 21 = U 21 := fr 21 (by decide) (by decide) (by decide) (by decide) (by decide)
    have e22 : C1 22 = U 22 := fr 22 (by decide) (by decide) (by decide) (by decide) (by decide)
    have hT1 : TpC f n C1 := (hT.fra h1).eq (by rw [e21]) e22
    have hat1 : C1 21 1 = nI (pA f n m (wP f n m k)).2.1 := by rw [e21]; exact h3
    have hC1 : HC C1 hn o1 o2 lk m := hCU.fr (fun c g1 g2 => fr c (by omega) (by omega) (by omega) (by omega) (by omega))
    generalize hD : (pA f n m (wP f n m k)).2.1 = b at *
    have nx : ∀ x C', chC f n hn o1 o2 lk m L' (k + 1) C1 x C' → Q x C' := fun x C' h => kk x C' ⟨U, C1, y, h1.1, hR, Or.inr ⟨z, h⟩⟩
    refine sp_X5_take hd hT1 hat1 (fun y5 => ?_) (fun y5 => ?_)
    · rcases hc with ⟨hc, _⟩ | ⟨_, hc, hN⟩
      · exact absurd hc y5
      · have eL : L' = 0 := by omega
        subst eL
        refine w_X7_readWeek_15 _ _ _ _ (zf (sp_X5_ahead (f := f) (n := n) (a := sk f n b) (sk_n hd) (hT1.fra frA.refl.tc) tC_at ⟨fun w => absurd ?_ w, fun _ => ?_⟩))
        · rw [chr_i hd]
          exact hc
        · rw [nI_1]
          exact nx _ _ ⟨fun c g1 g2 => frA.refl.tc.tc.1 c g1 g2, rfl⟩
    · rcases hc with ⟨_, hp'⟩ | ⟨hc, _⟩
      · have lt := sk_lt (a := b) hok (by rw [y5]; decide)
        rw [nI_1]
        have ft : frA C1 (tC C1 (sk f n b + 1)) := frA.refl.tc
        refine ih (k + 1) L' (tC C1 (sk f n b + 1)) hp' (by omega) (hT1.fra ft) (hC1.fr (fun c g1 g2 => ft.1 c (by omega) (by omega))) (by rw [hw1]; exact tC_at) (by omega) (by omega) (fun x C' h => nx x C' (h.pre ft.1))
      · exact absurd y5 hc
