/-! RESTORE -/
def rs (S : tS) (K : Nat → Int32) : Nat → tS
  | 0 => S
  | n + 1 => pt (rs S K n) n (K n)
theorem loc_inj : ∀ k, k < 91 → ∀ l, l < 91 → k ≠ l → ¬ (cel k = cel l ∧ ix k = ix l) := by
  intro k hk l hl h
  unfold cel ix
  by_cases a1 : k < 48 <;> by_cases b1 : l < 48
  · rw [if_pos a1, if_pos a1, if_pos b1, if_pos b1]; omega
  · rw [if_pos a1, if_pos a1, if_neg b1, if_neg b1]
    by_cases b2 : l < 88
    · rw [if_pos b2, if_pos b2]; omega
    · rw [if_neg b2, if_neg b2]; omega
  · rw [if_neg a1, if_neg a1, if_pos b1, if_pos b1]
    by_cases a2 : k < 88
    · rw [if_pos a2, if_pos a2]; omega
    · rw [if_neg a2, if_neg a2]; omega
  · rw [if_neg a1, if_neg a1, if_neg b1, if_neg b1]
    by_cases a2 : k < 88 <;> by_cases b2 : l < 88
    · rw [if_pos a2, if_pos a2, if_pos b2, if_pos b2]; omega
    · rw [if_pos a2, if_pos a2, if_neg b2, if_neg b2]; omega
    · rw [if_neg a2, if_neg a2, if_pos b2, if_pos b2]; omega
    · rw [if_neg a2, if_neg a2, if_neg b2, if_neg b2]
      by_cases a3 : k = 88 <;> by_cases b3 : l = 88 <;> by_cases a4 : k = 89 <;> by_cases b4 : l = 89 <;> simp [a3, b3, a4, b4] <;> omega
theorem pt_at {S : tS} {k c j : Nat} {v : Int32} (h : ¬ (c = cel k ∧ j = ix k)) : pt S k v c j = S c j := by
  unfold pt
  by_cases e : c = cel k
  · subst e
    rw [tk_up_sn (fun e2 => h ⟨rfl, e2⟩)]
  · rw [tk_up_n e]
theorem rs_out {S : tS} {K : Nat → Int32} {c j : Nat} : ∀ n, (∀ k, k < n → ¬ (c = cel k ∧ j = ix k)) → rs S K n c j = S c j
  | 0, _ => rfl
  | n + 1, h => (pt_at (h n (by omega))).trans (rs_out n (fun k hk => h k (by omega)))
theorem rs_in {S : tS} {K : Nat → Int32} {k : Nat} : ∀ n, n ≤ 91 → k < n → gt (rs S K n) k = K k
  | 0, _, h => absurd h (Nat.not_lt_zero _)
  | n + 1, hn, h => by
    by_cases e : k = n
    · subst e
      exact tk_up_ss
    · have := rs_in n (by omega) (S := S) (K := K) (k := k) (by omega)
      exact (pt_at (loc_inj k (by omega) n (by omega) e)).trans this
theorem cel_cases (k : Nat) : 46 ≤ cel k ∧ cel k ≤ 53 ∨ cel k = 45 := by
  unfold cel
  split
  · omega
  · split <;> omega
theorem rs_cell {S : tS} {K : Nat → Int32} {c : Nat} (h : c < 45 ∨ 53 < c) (n : Nat) : rs S K n c = S c := by
  funext j
  refine rs_out n (fun k _ e => ?_)
  have := cel_cases k
  omega
theorem lp_X8_restore {Q : Int32 → tS → Prop} {S : tS} (k : Q 1 (rs S (S 57) 91)) : ∀ m i : Nat, i + m = 91 → tk_Gs mX8_restore none 12 [.ref 45, .int (nI i)] [] (rs S (S 57) i) Q
  | 0, i, e => by
    have e : i = 91 := e
    subst e
    exact w_X8_restore_12 _ ⟨fun _ => k, fun c => absurd (by decide) c⟩
  | m + 1, i, e => by
    refine w_X8_restore_12 _ ⟨fun c => absurd c (nI_nlt (a := 90) (b := i) (by omega) (by omega)), fun _ => ⟨vp_in_nI (by omega) (by omega), car (by omega) (fun x _ => ?_)⟩⟩
    rw [nI_1, nI_c (by omega), rs_cell (c := 57) (by decide)]
    exact lp_X8_restore k m (i + 1) (by omega)
theorem ix16 {k : Nat} (h : 46 ≤ cel k) : ix k < 16 := by
  unfold cel at h
  unfold ix
  split
  · omega
  · rename_i h1
    rw [if_neg h1] at h
    split
    · omega
    · rename_i h2
      rw [if_neg h2] at h
      omega
theorem pr_restore {S : tS} (hI : Inv S) : tk_Ms mX7_restore [.ref 0] S (fun x S1 => tk_Ms mX8_restore [.ref 45] S1 (fun y S2 => x = y ∧ Inv S2)) := by
  have hI0 := hI
  obtain ⟨h1, h2, h3, h4, h5, ⟨ef, hf⟩, h7⟩ := hI
  refine w_X7_restore ⟨fun c => ?_, fun c => okI (by decide) (w_X8_restore ⟨fun d => absurd (ef.trans c) d, fun _ => okI (by decide) ⟨rfl, hI0⟩⟩)⟩
  rcases hf with hf | ⟨hf, g1, g2, g3⟩
  · exact absurd hf c
  refine w_X2_becomeLike_1_11 ⟨no0, no0, no16, b17, b17, no0, no0, no16, b17, b17, no0, no0, no16, b17, b17, okI (by decide) (w_X3_becomeLike_5_15 ⟨no0, no0, no8, b8, b8, no0, no0, no8, b8, b8, no0, no0, no8, b8, b8, no0, no0, no8, b8, b8, no0, no0, no8, b8, b8, okI (by decide) (okI (by decide) ?_)⟩)⟩
  generalize hT : (tk_up (tk_upR (tk_upR (tk_upR (tk_upR (tk_upR (tk_up _ 5 0 _) 6 _) 7 _) 8 _) 9 _) 10 _) 0 2 _ : tS) = T
  have a1 : T 1 0 = S 11 0 := by rw [← hT]; rfl
  have a2 : T 2 = va_cpy (S 12) (S 2) 0 0 16 := by rw [← hT]; rfl
  have a3 : T 3 = va_cpy (S 13) (S 3) 0 0 16 := by rw [← hT]; rfl
  have a4 : T 4 = va_cpy (S 14) (S 4) 0 0 16 := by rw [← hT]; rfl
  have a5 : T 5 0 = S 15 0 := by rw [← hT]; rfl
  have a6 : T 6 = va_cpy (S 16) (S 6) 0 0 8 := by rw [← hT]; rfl
  have a7 : T 7 = va_cpy (S 17) (S 7) 0 0 8 := by rw [← hT]; rfl
  have a8 : T 8 = va_cpy (S 18) (S 8) 0 0 8 := by rw [← hT]; rfl
  have a9 : T 9 = va_cpy (S 19) (S 9) 0 0 8 := by rw [← hT]; rfl
  have a10 : T 10 = va_cpy (S 20) (S 10) 0 0 8 := by rw [← hT]; rfl
  have a02 : T 0 2 = S 0 5 := by rw [← hT]; rfl
  have a05 : T 0 5 = S 0 5 := by rw [← hT]; rfl
  have a06 : T 0 6 = S 0 6 := by rw [← hT]; rfl
  have o : ∀ k, 10 < k → T k = S k := by
    intro k k0
    rw [← hT]
    simp (disch := omega) only [tk_upR_n, tk_up_n]
  have go := lp_X8_restore (S := T) (okI (μ := mX8_restore) (Q := fun y S2 => (1 : Int32) = y ∧ Inv S2) (by decide) ⟨rfl, ?_⟩) 91 0 rfl
  · refine w_X8_restore ⟨fun _ => go, fun d => absurd ((show S 45 17 = 0 by rw [← o 45 (by decide)]; exact d)) (by rw [ef]; exact c)⟩
  generalize hU : rs T (T 57) 91 = U
  have u : ∀ k, k < 45 ∨ 53 < k → U k = T k := fun k hk => by rw [← hU]; exact rs_cell hk 91
  have ui : ∀ k, k < 91 → gt U k = S 57 k := fun k hk => by
    rw [← hU, rs_in 91 (by omega) hk, o 57 (by decide)]
  have u16 : ∀ c, 46 ≤ c → U c 16 = T c 16 := fun c hc => by
    rw [← hU]
    refine rs_out 91 (fun k _ e => ?_)
    have := ix16 (k := k) (by omega)
    omega
  have u45 : ∀ j, j = 12 ∨ j = 17 → U 45 j = T 45 j := fun j hj => by
    rw [← hU]
    refine rs_out 91 (fun k hk e => ?_)
    have h1 := e.1
    have h2 := e.2
    unfold cel at h1
    unfold ix at h2
    by_cases k1 : k < 48
    · rw [if_pos k1] at h1
      omega
    · rw [if_neg k1] at h1 h2
      by_cases k2 : k < 88
      · rw [if_pos k2] at h1
        omega
      · rw [if_neg k2] at h2
        by_cases k3 : k = 88
        · rw [if_pos k3] at h2; omega
        · rw [if_neg k3] at h2
          by_cases k4 : k = 89
          · rw [if_pos k4] at h2; omega
          · rw [if_neg k4] at h2; omega
  have d3 : U 45 3 = S 57 88 := ui 88 (by decide)
  have d9 : U 45 9 = S 57 89 := ui 89 (by decide)
  have d10 : U 45 10 = S 57 90 := ui 90 (by decide)
  obtain ⟨x1, x2, x3, x4, x5, x6⟩ := h2
  refine ⟨?_, ?_, ?_, ?_, ?_, ?_, ?_⟩
  · refine iD.c g1 (by rw [u 1 (by decide), a1]) d3 (fun i hi => ?_)
    obtain ⟨f1, f2, f3⟩ := g46 (S := U) hi
    rw [u 2 (by decide), u 3 (by decide), u 4 (by decide), a2, a3, a4, cpy_in hi, cpy_in hi, cpy_in hi, ← f1, ← f2, ← f3, ui _ (by omega), ui _ (by omega), ui _ (by omega)]
    exact ⟨rfl, rfl, rfl, rfl, rfl, rfl⟩
  · unfold iE
    rw [u 2 (by decide), u 3 (by decide), u 4 (by decide), a2, a3, a4, cpy_out (Nat.le_refl _), cpy_out (Nat.le_refl _), cpy_out (Nat.le_refl _), u16 46 (by decide), u16 47 (by decide), u16 48 (by decide), o 46 (by decide), o 47 (by decide), o 48 (by decide)]
    exact ⟨x1, x2, x3, x4, x5, x6⟩
  · refine iK.c g2 (by rw [u 5 (by decide), a5]) d9 (by rw [u 0 (by decide), a02]) (fun i hi => ?_)
    obtain ⟨f1, f2, f3, f4, f5⟩ := g49 (S := U) hi
    rw [u 6 (by decide), u 7 (by decide), u 8 (by decide), u 9 (by decide), u 10 (by decide), a6, a7, a8, a9, a10, cpy_in hi, cpy_in hi, cpy_in hi, cpy_in hi, cpy_in hi, ← f1, ← f2, ← f3, ← f4, ← f5, ui _ (by omega), ui _ (by omega), ui _ (by omega), ui _ (by omega), ui _ (by omega)]
    exact ⟨⟨rfl, rfl, rfl, rfl, rfl⟩, rfl, rfl, rfl, rfl, rfl⟩
  · show iT (U 0 2) (U 45 10)
    rw [u 0 (by decide), a02, d10]
    exact g3
  · rw [u 21 (by decide), u45 12 (Or.inl rfl), u 22 (by decide), u 54 (by decide), o 21 (by decide), o 45 (by decide), o 22 (by decide), o 54 (by decide)]
    exact h5
  · rw [u 0 (by decide), u45 17 (Or.inr rfl), u 11 (by decide), u 15 (by decide), u 12 (by decide), u 13 (by decide), u 14 (by decide), u 16 (by decide), u 17 (by decide), u 18 (by decide), u 19 (by decide), u 20 (by decide), u 57 (by decide), a05, a06, o 45 (by decide), o 11 (by decide), o 15 (by decide), o 12 (by decide), o 13 (by decide), o 14 (by decide), o 16 (by decide), o 17 (by decide), o 18 (by decide), o 19 (by decide), o 20 (by decide), o 57 (by decide)]
    exact ⟨ef, Or.inr ⟨hf, g1, g2, g3⟩⟩
  · rw [u 37 (by decide), u 38 (by decide), u 39 (by decide), u 40 (by decide), u 41 (by decide), u 42 (by decide), u 43 (by decide), u 44 (by decide), u 58 (by decide), u 59 (by decide), u 60 (by decide), o 37 (by decide), o 38 (by decide), o 39 (by decide), o 40 (by decide), o 41 (by decide), o 42 (by decide), o 43 (by decide), o 44 (by decide), o 58 (by decide), o 59 (by decide), o 60 (by decide)]
    exact h7
