/-! THE LAW: every call's answers agree -/
theorem lp_L_law {L : Nat} {xs : Nat → Int32} (hL : L ≤ 384) : ∀ (q i : Nat) (S : tS), L + 6 ≤ i + 6 * q → i ≤ 390 → Inv S → tk_Gs mL_law (some (L, xs)) 18 [.ref 4096, .ref 0, .ref 45, .int (nI i)] [] S (tk_okQ mL_law (fun x _ => x = 1)) := by
  have e6 : (Int32.ofNat L - 6).toInt = (L : Int) - 6 := by
    have e : (Int32.ofNat L).toInt = (L : Int) := nI_t (by omega)
    rw [subT] <;> rw [e] <;> simp only [Int32.reduceToInt] <;> omega
  intro q
  induction q with
  | zero =>
    intro i S hq hi hI
    refine w_L_law_18 _ ⟨fun _ => ok1 rfl, fun z => absurd ?_ z⟩
    rw [xlt, e6, nI_t (by omega)]
    omega
  | succ q ih =>
    intro i S hq hi hI
    by_cases hc : L < i + 6
    · refine w_L_law_18 _ ⟨fun _ => ok1 rfl, fun z => absurd ?_ z⟩
      rw [xlt, e6, nI_t (by omega)]
      omega
    · have s1 : nI i + 1 = nI (i + 1) := nI_1 _
      have s2 : nI i + 2 = nI (i + 2) := nI_add i 2
      have s3 : nI i + 3 = nI (i + 3) := nI_add i 3
      have s4 : nI i + 4 = nI (i + 4) := nI_add i 4
      have s5 : nI i + 5 = nI (i + 5) := nI_add i 5
      have s6 : nI i + 6 = nI (i + 6) := nI_add i 6
      have v0 : vp_in (nI i) L := vp_in_nI (by omega) (by omega)
      have v1 : vp_in (nI i + 1) L := by rw [s1]; exact vp_in_nI (by omega) (by omega)
      have v2 : vp_in (nI i + 2) L := by rw [s2]; exact vp_in_nI (by omega) (by omega)
      have v3 : vp_in (nI i + 3) L := by rw [s3]; exact vp_in_nI (by omega) (by omega)
      have v4 : vp_in (nI i + 4) L := by rw [s4]; exact vp_in_nI (by omega) (by omega)
      have v5 : vp_in (nI i + 5) L := by rw [s5]; exact vp_in_nI (by omega) (by omega)
      have go : ∀ S2 : tS, Inv S2 → tk_Gs mL_law (some (L, xs)) 18 [.ref 4096, .ref 0, .ref 45, .int (nI i + 6)] [] S2 (tk_okQ mL_law (fun x _ => x = 1)) := by
        intro S2 h2
        rw [s6]
        exact ih (i + 6) S2 (by omega) (by omega) h2
      have nxt : ∀ (x y : Int32) (S2 : tS), (x = y ∧ Inv S2) → ((x = y → tk_Gs mL_law (some (L, xs)) 18 [.ref 4096, .ref 0, .ref 45, .int (nI i + 6)] [] S2 (tk_okQ mL_law (fun x _ => x = 1))) ∧ (¬ x = y → tk_okQ mL_law (fun x _ => x = 1) 0 S2)) := fun x y S2 h => ⟨fun _ => go S2 h.2, fun z => absurd h.1 z⟩
      refine w_L_law_18 _ ⟨fun z => absurd z ?_, fun _ => ⟨v0, ?_⟩⟩
      · rw [xlt, e6, nI_t (by omega)]
        omega
      · exact ⟨fun _ => ⟨v1, v2, v3, tk_Ms.mono (pr_door hI _ _ _) (fun x S1 h => ⟨v1, v2, v3, tk_Ms.mono h (nxt x)⟩)⟩,
          fun _ => ⟨v1, v2, tk_Ms.mono (pr_key hI _ _) (fun x S1 h => ⟨v1, v2, tk_Ms.mono h (nxt x)⟩)⟩,
          fun _ => ⟨v1, v2, tk_Ms.mono (pr_told hI _ _) (fun x S1 h => ⟨v1, v2, tk_Ms.mono h (nxt x)⟩)⟩,
          fun _ => ⟨v1, v2, tk_Ms.mono (pr_of hI _ _) (fun x S1 h => ⟨v1, v2, tk_Ms.mono h (nxt x)⟩)⟩,
          fun _ => ⟨v1, v2, v3, tk_Ms.mono (pr_type hI _ _) (fun x S1 h => ⟨v1, v2, v3, tk_Ms.mono h (nxt x)⟩)⟩,
          fun _ => tk_Ms.mono (pr_house hI) (fun x S1 h => tk_Ms.mono h (nxt x)),
          fun _ => tk_Ms.mono (pr_week hI) (fun x S1 h => tk_Ms.mono h (nxt x)),
          fun _ => ⟨v1, tk_Ms.mono (pr_count hI _) (fun x S1 h => ⟨v1, tk_Ms.mono h (nxt x)⟩)⟩,
          fun _ => ⟨v1, v2, v3, tk_Ms.mono (pr_visit hI _ _ _) (fun x S1 h => ⟨v1, v2, v3, tk_Ms.mono h (nxt x)⟩)⟩,
          fun _ => ⟨v1, v2, tk_Ms.mono (pr_wash hI _ _) (fun x S1 h => ⟨v1, v2, tk_Ms.mono h (nxt x)⟩)⟩,
          fun _ => ⟨v1, v2, tk_Ms.mono (pr_change hI _ _) (fun x S1 h => ⟨v1, v2, tk_Ms.mono h (nxt x)⟩)⟩,
          fun _ => tk_Ms.mono (pr_next hI) (fun x S1 h => tk_Ms.mono h (nxt x)),
          fun _ => ⟨v1, v2, tk_Ms.mono (pr_shown hI _ _) (fun x S1 h => ⟨v1, v2, tk_Ms.mono h (nxt x)⟩)⟩,
          fun _ => ⟨v1, v2, v3, tk_Ms.mono (pr_seen hI _ _ _) (fun x S1 h => ⟨v1, v2, v3, tk_Ms.mono h (nxt x)⟩)⟩,
          fun _ => ⟨v1, tk_Ms.mono (pr_reach hI _) (fun x S1 h => ⟨v1, tk_Ms.mono h (nxt x)⟩)⟩,
          fun _ => ⟨v1, v2, v3, tk_Ms.mono (pr_fits hI _ _ _) (fun x S1 h => ⟨v1, v2, v3, tk_Ms.mono h (nxt x)⟩)⟩,
          fun _ => ⟨v1, v2, v3, tk_Ms.mono (pr_been hI _ _ _) (fun x S1 h => ⟨v1, v2, v3, tk_Ms.mono h (nxt x)⟩)⟩,
          fun _ => ⟨v1, v2, v3, tk_Ms.mono (pr_look hI _ _ _) (fun x S1 h => ⟨v1, v2, v3, tk_Ms.mono h (nxt x)⟩)⟩,
          fun _ => tk_Ms.mono (pr_image hI) (fun x S1 h => tk_Ms.mono h (nxt x)),
          fun _ => tk_Ms.mono (pr_restore hI) (fun x S1 h => tk_Ms.mono h (nxt x)),
          fun _ => ⟨v1, v2, v3, v4, v5, tk_Ms.mono (pr_asked hI _ _ _ _ _) (fun x S1 h => ⟨v1, v2, v3, v4, v5, tk_Ms.mono h (nxt x)⟩)⟩,
          fun _ => ⟨v1, v2, v3, tk_Ms.mono (pr_film hI _ _ _) (fun x S1 h => ⟨v1, v2, v3, tk_Ms.mono h (nxt x)⟩)⟩,
          fun _ => ⟨v1, v2, v3, tk_Ms.mono (pr_sheet hI _ _ _) (fun x S1 h => ⟨v1, v2, v3, tk_Ms.mono h (nxt x)⟩)⟩,
          fun _ => ⟨v1, tk_Ms.mono (pr_drop hI _) (fun x S1 h => ⟨v1, tk_Ms.mono h (nxt x)⟩)⟩,
          fun _ => ⟨v1, v2, v3, v4, tk_Ms.mono (pr_item hI _ _ _ _) (fun x S1 h => ⟨v1, v2, v3, v4, tk_Ms.mono h (nxt x)⟩)⟩,
          fun _ => ⟨v1, v2, v3, v4, v5, tk_Ms.mono (pr_copy hI _ _ _ _ _) (fun x S1 h => ⟨v1, v2, v3, v4, v5, tk_Ms.mono h (nxt x)⟩)⟩,
          fun _ => go S hI⟩
