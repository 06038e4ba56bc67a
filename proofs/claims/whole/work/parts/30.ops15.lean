/-! IMAGE, RESTORE: 3 -/
theorem iD.c {cn mn cn' mn' : Int32} {a b c a' b' c' A B C A' B' C' : Nat → Int32} (h : iD cn mn a b c a' b' c') (e1 : cn' = cn) (e2 : mn' = mn) (e : ∀ i, i < 16 → A i = a i ∧ B i = b i ∧ C i = c i ∧ A' i = a' i ∧ B' i = b' i ∧ C' i = c' i) : iD cn' mn' A B C A' B' C' := by
  obtain ⟨n, hn, h1, h2, hh⟩ := h
  refine ⟨n, hn, e1.trans h1, e2.trans h2, fun i hi => ?_⟩
  obtain ⟨f1, f2, f3, f4, f5, f6⟩ := e i (by omega)
  rw [f1, f2, f3, f4, f5, f6]
  exact hh i hi
theorem iK.c {cn mn td cn' mn' td' : Int32} {k t w m g k' t' w' m' g' K T W M G K' T' W' M' G' : Nat → Int32} (h : iK cn mn td k t w m g k' t' w' m' g') (e1 : cn' = cn) (e2 : mn' = mn) (e3 : td' = td) (e : ∀ i, i < 8 → (K i = k i ∧ T i = t i ∧ W i = w i ∧ M i = m i ∧ G i = g i) ∧ K' i = k' i ∧ T' i = t' i ∧ W' i = w' i ∧ M' i = m' i ∧ G' i = g' i) : iK cn' mn' td' K T W M G K' T' W' M' G' := by
  obtain ⟨n, hn, h1, h2, hh⟩ := h
  refine ⟨n, hn, e1.trans h1, e2.trans h2, fun i hi => ?_⟩
  obtain ⟨⟨f1, f2, f3, f4, f5⟩, f6, f7, f8, f9, f10⟩ := e i (by omega)
  rw [f1, f2, f3, f4, f5, f6, f7, f8, f9, f10, e3]
  exact hh i hi
theorem cpy_in {f g : Nat → Int32} {n i : Nat} (h : i < n) : va_cpy f g 0 0 n i = f i := by
  unfold va_cpy
  rw [if_pos (by omega), Nat.sub_zero, Nat.zero_add]
theorem cpy_out {f g : Nat → Int32} {n i : Nat} (h : n ≤ i) : va_cpy f g 0 0 n i = g i := if_neg (by omega)
theorem cel_n57 {k : Nat} : cel k ≠ 57 := by
  unfold cel
  split
  · omega
  · split <;> omega
theorem lp_X8_image {Q : Int32 → tS → Prop} {S : tS} (k : Q 1 (tk_up (tk_upR S 57 (va_cpy (gt S) (S 57) 0 0 91)) 45 17 1)) : ∀ m i : Nat, i + m = 91 → tk_Gs mX8_image none 2 [.ref 45, .int (nI i)] [] (tk_upR S 57 (va_cpy (gt S) (S 57) 0 0 i)) Q
  | 0, i, e => by
    have e : i = 91 := e
    subst e
    exact w_X8_image_2 _ ⟨fun _ => k, fun c => absurd (by decide) c⟩
  | m + 1, i, e => by
    refine w_X8_image_2 _ ⟨fun c => absurd c (nI_nlt (a := 90) (b := i) (by omega) (by omega)), fun _ => car (by omega) (fun x hx => ⟨vp_in_nI (by omega) (by omega), ?_⟩)⟩
    have hx := hx rfl
    have e1 : gt (tk_upR S 57 (va_cpy (gt S) (S 57) 0 0 i)) i = gt S i := by
      show (tk_upR S 57 _) (cel i) (ix i) = S (cel i) (ix i)
      rw [tk_upR_n cel_n57]
    show tk_Gs mX8_image none 2 _ [] (tk_up (tk_upR S 57 (va_cpy (gt S) (S 57) 0 0 i)) 57 (nI i).toNatClampNeg x) Q
    rw [hx, e1, nI_c (by omega), upR_up, nI_1]
    have := cpy1 (f := gt S) (g := S 57) (sp := 0) (dp := 0) (n := i)
    rw [Nat.zero_add] at this
    rw [this]
    exact lp_X8_image k m (i + 1) (by omega)
theorem cpy16 {f g : Nat → Int32} : va_cpy f g (0 : Int32).toNatClampNeg (0 : Int32).toNatClampNeg (16 : Int32).toNatClampNeg = va_cpy f g 0 0 16 := rfl
theorem cpy8 {f g : Nat → Int32} : va_cpy f g (0 : Int32).toNatClampNeg (0 : Int32).toNatClampNeg (8 : Int32).toNatClampNeg = va_cpy f g 0 0 8 := rfl
theorem g46 {S : tS} {i : Nat} (h : i < 16) : gt S i = S 46 i ∧ gt S (16 + i) = S 47 i ∧ gt S (32 + i) = S 48 i := by
  refine ⟨?_, ?_, ?_⟩
  · unfold gt cel ix
    rw [if_pos (by omega), if_pos (by omega), show i / 16 = 0 by omega, show i % 16 = i by omega]
  · unfold gt cel ix
    rw [if_pos (by omega), if_pos (by omega), show (16 + i) / 16 = 1 by omega, show (16 + i) % 16 = i by omega]
  · unfold gt cel ix
    rw [if_pos (by omega), if_pos (by omega), show (32 + i) / 16 = 2 by omega, show (32 + i) % 16 = i by omega]
theorem g49 {S : tS} {i : Nat} (h : i < 8) : gt S (48 + i) = S 49 i ∧ gt S (56 + i) = S 50 i ∧ gt S (64 + i) = S 51 i ∧ gt S (72 + i) = S 52 i ∧ gt S (80 + i) = S 53 i := by
  refine ⟨?_, ?_, ?_, ?_, ?_⟩
  · unfold gt cel ix
    rw [if_neg (by omega), if_pos (by omega), if_neg (by omega), if_pos (by omega), show (48 + i) / 8 = 6 by omega, show (48 + i) % 8 = i by omega]
  · unfold gt cel ix
    rw [if_neg (by omega), if_pos (by omega), if_neg (by omega), if_pos (by omega), show (56 + i) / 8 = 7 by omega, show (56 + i) % 8 = i by omega]
  · unfold gt cel ix
    rw [if_neg (by omega), if_pos (by omega), if_neg (by omega), if_pos (by omega), show (64 + i) / 8 = 8 by omega, show (64 + i) % 8 = i by omega]
  · unfold gt cel ix
    rw [if_neg (by omega), if_pos (by omega), if_neg (by omega), if_pos (by omega), show (72 + i) / 8 = 9 by omega, show (72 + i) % 8 = i by omega]
  · unfold gt cel ix
    rw [if_neg (by omega), if_pos (by omega), if_neg (by omega), if_pos (by omega), show (80 + i) / 8 = 10 by omega, show (80 + i) % 8 = i by omega]
theorem no0 : ¬ (0 : Int32) < 0 := by decide
theorem no16 : ¬ (16 : Int32) < 0 := by decide
theorem no8 : ¬ (8 : Int32) < 0 := by decide
theorem b17 : (0 : Int32).toNatClampNeg + (16 : Int32).toNatClampNeg ≤ 17 := by decide
theorem b8 : (0 : Int32).toNatClampNeg + (8 : Int32).toNatClampNeg ≤ 8 := by decide
theorem pr_image {S : tS} (hI : Inv S) : tk_Ms mX7_image [.ref 0] S (fun x S1 => tk_Ms mX8_image [.ref 45] S1 (fun y S2 => x = y ∧ Inv S2)) := by
  obtain ⟨h1, h2, h3, h4, h5, h6, h7⟩ := hI
  refine w_X7_image (w_X2_becomeLike_11_1 ⟨no0, no0, no16, b17, b17, no0, no0, no16, b17, b17, no0, no0, no16, b17, b17, okI (by decide) (w_X3_becomeLike_15_5 ⟨no0, no0, no8, b8, b8, no0, no0, no8, b8, b8, no0, no0, no8, b8, b8, no0, no0, no8, b8, b8, no0, no0, no8, b8, b8, okI (by decide) (okI (by decide) ?_)⟩)⟩)
  generalize hT : (tk_up (tk_up (tk_upR (tk_upR (tk_upR (tk_upR (tk_upR (tk_up _ 15 0 _) 16 _) 17 _) 18 _) 19 _) 20 _) 0 5 _) 0 6 1 : tS) = T
  have a11 : T 11 0 = S 1 0 := by rw [← hT]; rfl
  have a12 : T 12 = va_cpy (S 2) (S 12) 0 0 16 := by rw [← hT]; rfl
  have a13 : T 13 = va_cpy (S 3) (S 13) 0 0 16 := by rw [← hT]; rfl
  have a14 : T 14 = va_cpy (S 4) (S 14) 0 0 16 := by rw [← hT]; rfl
  have a15 : T 15 0 = S 5 0 := by rw [← hT]; rfl
  have a16 : T 16 = va_cpy (S 6) (S 16) 0 0 8 := by rw [← hT]; rfl
  have a17 : T 17 = va_cpy (S 7) (S 17) 0 0 8 := by rw [← hT]; rfl
  have a18 : T 18 = va_cpy (S 8) (S 18) 0 0 8 := by rw [← hT]; rfl
  have a19 : T 19 = va_cpy (S 9) (S 19) 0 0 8 := by rw [← hT]; rfl
  have a20 : T 20 = va_cpy (S 10) (S 20) 0 0 8 := by rw [← hT]; rfl
  have a05 : T 0 5 = S 0 2 := by rw [← hT]; rfl
  have a02 : T 0 2 = S 0 2 := by rw [← hT]; rfl
  have a06 : T 0 6 = 1 := by rw [← hT]; rfl
  have oth : ∀ k, k ≠ 0 → (k < 11 ∨ 20 < k) → T k = S k := by
    intro k k0 kk
    rw [← hT]
    simp (disch := omega) only [tk_upR_n, tk_up_n]
  have go := lp_X8_image (S := T) (okI (μ := mX8_image) (Q := fun y S2 => (1 : Int32) = y ∧ Inv S2) (by decide) ⟨rfl, ?_⟩) 91 0 rfl
  · refine w_X8_image ?_
    rw [show va_cpy (gt T) (T 57) 0 0 0 = T 57 from cpy0, upR_self] at go
    exact go
  have kK : ∀ i, i < 91 → va_cpy (gt T) (T 57) 0 0 91 i = gt T i := fun i hi => cpy_in hi
  have o := fun k (a : k ≠ 0) (b : k < 11 ∨ 20 < k) => oth k a b
  have D : iD (T 1 0) (T 45 3) (T 2) (T 3) (T 4) (T 46) (T 47) (T 48) := by
    rw [o 1 (by decide) (by decide), o 45 (by decide) (by decide), o 2 (by decide) (by decide), o 3 (by decide) (by decide), o 4 (by decide) (by decide), o 46 (by decide) (by decide), o 47 (by decide) (by decide), o 48 (by decide) (by decide)]
    exact h1
  have E : iE (T 2) (T 3) (T 4) (T 46) (T 47) (T 48) := by
    rw [o 2 (by decide) (by decide), o 3 (by decide) (by decide), o 4 (by decide) (by decide), o 46 (by decide) (by decide), o 47 (by decide) (by decide), o 48 (by decide) (by decide)]
    exact h2
  have K : iK (T 5 0) (T 45 9) (T 0 2) (T 6) (T 7) (T 8) (T 9) (T 10) (T 49) (T 50) (T 51) (T 52) (T 53) := by
    rw [o 5 (by decide) (by decide), o 45 (by decide) (by decide), a02, o 6 (by decide) (by decide), o 7 (by decide) (by decide), o 8 (by decide) (by decide), o 9 (by decide) (by decide), o 10 (by decide) (by decide), o 49 (by decide) (by decide), o 50 (by decide) (by decide), o 51 (by decide) (by decide), o 52 (by decide) (by decide), o 53 (by decide) (by decide)]
    exact h3
  have Td : iT (T 0 2) (T 45 10) := by
    rw [a02, o 45 (by decide) (by decide)]
    exact h4
  refine ⟨D, E, K, Td, ?_, ?_, ?_⟩
  · show iB (T 21 0) (T 45 12) (T 22) (T 54)
    rw [o 21 (by decide) (by decide), o 45 (by decide) (by decide), o 22 (by decide) (by decide), o 54 (by decide) (by decide)]
    exact h5
  · show iM (T 0 6) 1 (T 11 0) (T 15 0) (T 0 5) (T 12) (T 13) (T 14) (T 16) (T 17) (T 18) (T 19) (T 20) (va_cpy (gt T) (T 57) 0 0 91)
    generalize hk : va_cpy (gt T) (T 57) 0 0 91 = kp at kK
    refine ⟨a06.symm, Or.inr ⟨a06, ?_, ?_, ?_⟩⟩
    · refine iD.c D (a11.trans (by rw [o 1 (by decide) (by decide)])) (kK 88 (by decide)) (fun i hi => ?_)
      obtain ⟨g1, g2, g3⟩ := g46 (S := T) hi
      rw [a12, a13, a14, cpy_in hi, cpy_in hi, cpy_in hi, kK i (by omega), kK _ (by omega), kK _ (by omega), o 2 (by decide) (by decide), o 3 (by decide) (by decide), o 4 (by decide) (by decide)]
      exact ⟨rfl, rfl, rfl, g1, g2, g3⟩
    · refine iK.c K (a15.trans (by rw [o 5 (by decide) (by decide)])) (kK 89 (by decide)) (a05.trans a02.symm) (fun i hi => ?_)
      obtain ⟨g1, g2, g3, g4, g5⟩ := g49 (S := T) hi
      rw [a16, a17, a18, a19, a20, cpy_in hi, cpy_in hi, cpy_in hi, cpy_in hi, cpy_in hi, kK _ (by omega), kK _ (by omega), kK _ (by omega), kK _ (by omega), kK _ (by omega), o 6 (by decide) (by decide), o 7 (by decide) (by decide), o 8 (by decide) (by decide), o 9 (by decide) (by decide), o 10 (by decide) (by decide)]
      exact ⟨⟨rfl, rfl, rfl, rfl, rfl⟩, g1, g2, g3, g4, g5⟩
    · rw [a05, ← a02, kK 90 (by decide)]
      exact Td
  · show iQ (T 37 0) (T 37 1) (T 38) 0 (T 58) (T 59) (T 60) ∧ iQ (T 39 0) (T 39 1) (T 40) 1 (T 58) (T 59) (T 60) ∧ iQ (T 41 0) (T 41 1) (T 42) 2 (T 58) (T 59) (T 60) ∧ iQ (T 43 0) (T 43 1) (T 44) 3 (T 58) (T 59) (T 60)
    rw [o 37 (by decide) (by decide), o 38 (by decide) (by decide), o 39 (by decide) (by decide), o 40 (by decide) (by decide), o 41 (by decide) (by decide), o 42 (by decide) (by decide), o 43 (by decide) (by decide), o 44 (by decide) (by decide), o 58 (by decide) (by decide), o 59 (by decide) (by decide), o 60 (by decide) (by decide)]
    exact h7
