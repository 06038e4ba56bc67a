/-! THE LAW FROM ITS ENTRY -/
def tk_S0 : tS := (tk_up (tk_up (tk_up (tk_up (tk_up (tk_up (tk_up (tk_up (tk_up (tk_up (tk_up (tk_up (tk_up (tk_up (tk_up (tk_up (tk_up (tk_up (tk_up (tk_up (tk_up (tk_up (tk_up (tk_up (tk_up (tk_up (tk_up (tk_up (tk_up (tk_up (tk_up (tk_up (tk_up (tk_up (tk_up (tk_up (tk_up (tk_up (tk_up (tk_up (fun _ _ => 0) 1 0 0) 2 16 0) 3 16 10) 4 16 8) 5 0 0) 0 2 0) 11 0 0) 12 16 0) 13 16 10) 14 16 8) 15 0 0) 0 5 0) 0 6 0) 21 0 0) 21 1 0) 23 0 0) 24 16 0) 25 16 10) 26 16 8) 27 0 0) 27 1 0) 27 2 0) 27 3 0) 27 4 0) 30 0 0) 30 1 (-1)) 37 0 0) 37 1 (-1)) 39 0 0) 39 1 (-1)) 41 0 0) 41 1 (-1)) 43 0 0) 43 1 (-1)) 58 0 (-1)) 58 1 (-1)) 58 2 (-1)) 58 3 (-1)) 47 16 10) 48 16 8)
def tk_F0 : tF := (tk_upF (tk_upF (tk_upF (tk_upF (tk_upF (tk_upF (tk_upF (tk_upF (tk_upF (tk_upF (tk_upF (tk_upF (tk_upF (tk_upF (tk_upF (tk_upF (tk_upF (tk_upF (tk_upF (tk_upF (tk_upF (tk_upF (tk_upF (tk_upF (tk_upF (tk_upF (tk_upF (tk_upF (tk_upF (tk_upF (tk_upF (tk_upF (tk_upF (tk_upF (tk_upF (tk_upF (tk_upF (tk_upF (tk_upF (tk_upF (tk_upF (tk_upF (tk_upF (tk_upF (tk_upF (tk_upF (tk_upF (tk_upF (tk_upF (tk_upF (tk_upF (tk_upF (tk_upF (tk_upF (tk_upF (tk_upF (tk_upF (tk_upF (tk_upF (tk_upF (tk_upF (tk_upF (fun _ _ => none) 1 1 (some 2)) 1 2 (some 3)) 1 3 (some 4)) 0 0 (some 1)) 5 1 (some 6)) 5 2 (some 7)) 5 3 (some 8)) 5 4 (some 9)) 5 5 (some 10)) 0 1 (some 5)) 11 1 (some 12)) 11 2 (some 13)) 11 3 (some 14)) 0 3 (some 11)) 15 1 (some 16)) 15 2 (some 17)) 15 3 (some 18)) 15 4 (some 19)) 15 5 (some 20)) 0 4 (some 15)) 21 2 (some 22)) 0 7 (some 21)) 23 1 (some 24)) 23 2 (some 25)) 23 3 (some 26)) 0 8 (some 23)) 0 9 (some 27)) 28 0 (some 29)) 0 10 (some 28)) 30 2 (some 31)) 30 3 (some 32)) 30 4 (some 33)) 30 5 (some 34)) 30 6 (some 35)) 0 11 (some 30)) 0 12 (some 36)) 37 2 (some 38)) 36 0 (some 37)) 39 2 (some 40)) 36 1 (some 39)) 41 2 (some 42)) 36 2 (some 41)) 43 2 (some 44)) 36 3 (some 43)) 45 0 (some 46)) 45 1 (some 47)) 45 2 (some 48)) 45 4 (some 49)) 45 5 (some 50)) 45 6 (some 51)) 45 7 (some 52)) 45 8 (some 53)) 45 11 (some 54)) 45 15 (some 55)) 45 16 (some 56)) 45 18 (some 57)) 45 19 (some 58)) 45 20 (some 59)) 45 21 (some 60)) 45 22 (some 61)) 45 23 (some 62)) 45 24 (some 63))
def tk_Fj (n : Nat) (F : tF) : Prop := ∀ k j, n ≤ j → F k j = none
theorem tk_Fj.zero {n : Nat} : tk_Fj n (fun _ _ => none) := fun _ _ _ => rfl
theorem tk_Fj.up {n k j : Nat} {x : Option Nat} {F : tF} (hj : j < n) (h : tk_Fj n F) : tk_Fj n (tk_upF F k j x) := fun c i hi => by
  unfold tk_upF
  by_cases hc : c = k
  · rw [if_pos hc]
    unfold va_up
    rw [if_neg (by omega)]
    exact h _ i hi
  · rw [if_neg hc]
    exact h c i hi
theorem tk_F0_lo : ∀ k, k < 64 → ∀ j, j < 25 → tk_F0 k j = tkRF k j := by decide +kernel
theorem tkRF_len : tkRFt.length = 46 ∧ ∀ r, r ∈ tkRFt → r.length ≤ 25 := by decide +kernel
theorem tk_F0_eq : tk_F0 = tkRF := by
  have z1 : tk_Fz 64 tk_F0 := by
    unfold tk_F0
    repeat (first | exact tk_Fz.zero | refine tk_Fz.up (by decide) ?_)
  have z2 : tk_Fj 25 tk_F0 := by
    unfold tk_F0
    repeat (first | exact tk_Fj.zero | refine tk_Fj.up (by decide) ?_)
  funext k j
  by_cases hk : k < 64
  · by_cases hj : j < 25
    · exact tk_F0_lo k hk j hj
    · rw [z2 k j (by omega)]
      unfold tkRF
      cases hr : tkRFt[k]? with
      | none => rfl
      | some r =>
        have hl := tkRF_len.2 r (List.mem_of_getElem? hr)
        show none = (r[j]?).getD none
        rw [List.getElem?_eq_none (by omega)]
        rfl
  · rw [z1 k (by omega) j]
    unfold tkRF
    rw [show tkRFt[k]? = none from List.getElem?_eq_none (by rw [tkRF_len.1]; omega)]
    rfl
theorem tk_S0_inv : Inv tk_S0 := ⟨⟨0, by decide, rfl, rfl, fun i hi => absurd hi (Nat.not_lt_zero _)⟩, ⟨rfl, rfl, rfl, rfl, rfl, rfl⟩, ⟨0, by decide, rfl, rfl, fun i hi => absurd hi (Nat.not_lt_zero _)⟩, ⟨rfl, by show 0 ≤ (0 : Int32).toInt; decide, by show (0 : Int32).toInt ≤ 999; decide⟩, ⟨0, by decide, rfl, rfl, fun i hi => absurd hi (Nat.not_lt_zero _)⟩, ⟨rfl, Or.inl rfl⟩, ⟨Or.inl ⟨rfl, rfl⟩, fun j hj => rfl⟩, ⟨Or.inl ⟨rfl, rfl⟩, fun j hj => rfl⟩, ⟨Or.inl ⟨rfl, rfl⟩, fun j hj => rfl⟩, ⟨Or.inl ⟨rfl, rfl⟩, fun j hj => rfl⟩⟩
theorem law_0 {L : Nat} {xs : Nat → Int32} (hL : L ≤ 384) : tk_G mL_law 64 1517 (some (L, xs)) 0 [.ref 4096, .null, .null, .null] [] ([], fun _ _ => 0, fun _ _ => none) (fun x _ => x = 1) := by
  refine g_new (a := 63) (b := 1504) (ci := 7) (k := 13) (N := 0) dL_law_0 rfl (by decide) nw_L_7 tk_lays0.2.2.2.2.2.2.2.1 tyX7_ok df_X7 rfl (by decide) tk_Fw.none rfl (fun _ => rfl) (fun _ => rfl) ?_
  refine g_dup dL_law_3 rfl ?_
  refine g_callI (a := 19) (b := 918) (a' := 44) (b' := 586) dL_law_4 im_X7_init.1 im_X7_init.2 rfl ml_L_9 rfl (by decide) (Nat.le_of_ble_eq_true rfl) rfl ?_
  refine in_X7_0 tk_Sz.zero tk_Fz.zero tk_Fw.none ?_
  refine g_astore_n (ls' := [.ref 4096, .ref 0, .null, .null]) dL_law_7 rfl (by decide) rfl ?_
  refine g_new (a := 18) (b := 893) (ci := 8) (k := 25) (N := 45) dL_law_8 rfl (by decide) nw_L_10 tk_lays0.2.2.2.2.2.2.2.2 tyX8_ok df_X8 rfl (by decide) (by repeat (first | exact tk_Fw.none | refine tk_Fw.up (by decide) ?_)) rfl (tk_Sz.here (by repeat (first | exact tk_Sz.zero | refine tk_Sz.up (by decide) ?_))) (tk_Fz.here (by repeat (first | exact tk_Fz.zero | refine tk_Fz.up (by decide) ?_))) ?_
  refine g_dup dL_law_11 rfl ?_
  refine g_callI (a := 0) (b := 0) (a' := 18) (b' := 893) dL_law_12 im_X8_init.1 im_X8_init.2 rfl ml_L_12 rfl (by decide) (Nat.le_of_ble_eq_true rfl) rfl ?_
  refine in_X8_45 (by repeat (first | exact tk_Sz.zero | refine tk_Sz.up (by decide) ?_)) (by repeat (first | exact tk_Fz.zero | refine tk_Fz.up (by decide) ?_)) (by repeat (first | exact tk_Fw.none | refine tk_Fw.up (by decide) ?_)) ?_
  show tk_G mL_law 0 0 (some (L, xs)) 15 _ _ (tkSH, tk_S0, tk_F0) _
  rw [tk_F0_eq]
  have hI := tk_S0_inv
  generalize tk_S0 = S at hI ⊢
  refine g_astore_n (ls' := [.ref 4096, .ref 0, .ref 45, .null]) dL_law_15 rfl (by decide) rfl ?_
  refine g_iconst (v := 0) dL_law_16 (by decide) ?_
  refine g_istore_n (ls' := [.ref 4096, .ref 0, .ref 45, .int 0]) dL_law_17 rfl (by decide) rfl ?_
  have lp := lp_L_law (L := L) (xs := xs) hL (L + 1) 0 S (by omega) (by omega) hI
  exact tk_G.mono lp (fun x h ⟨S', e, q⟩ => q.2)
