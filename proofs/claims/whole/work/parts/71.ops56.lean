/-! CONSTRUCTORS: each at its cells -/
def tk_Sz (n : Nat) (S : tS) : Prop := ∀ c, n ≤ c → ∀ j, S c j = 0
theorem tk_Sz.zero {n : Nat} : tk_Sz n (fun _ _ => 0) := fun _ _ _ => rfl
theorem tk_Sz.mono {n n' : Nat} {S : tS} (h : tk_Sz n S) (hn : n ≤ n') : tk_Sz n' S := fun c hc => h c (Nat.le_trans hn hc)
theorem tk_Sz.up {n k j : Nat} {x : Int32} {S : tS} (hk : k < n) (h : tk_Sz n S) : tk_Sz n (tk_up S k j x) := fun c hc i => by
  rw [tk_up_n (by omega)]
  exact h c hc i
theorem tk_Sz.here {n : Nat} {S : tS} (h : tk_Sz n S) : ∀ j, S n j = 0 := h n (Nat.le_refl _)
def tk_Fz (n : Nat) (F : tF) : Prop := ∀ c, n ≤ c → ∀ j, F c j = none
theorem tk_Fz.zero {n : Nat} : tk_Fz n (fun _ _ => none) := fun _ _ _ => rfl
theorem tk_Fz.mono {n n' : Nat} {F : tF} (h : tk_Fz n F) (hn : n ≤ n') : tk_Fz n' F := fun c hc => h c (Nat.le_trans hn hc)
theorem tk_Fz.up {n k j : Nat} {x : Option Nat} {F : tF} (hk : k < n) (h : tk_Fz n F) : tk_Fz n (tk_upF F k j x) := fun c hc i => by
  unfold tk_upF
  rw [if_neg (by omega)]
  exact h c hc i
theorem tk_Fz.here {n : Nat} {F : tF} (h : tk_Fz n F) : ∀ j, F n j = none := h n (Nat.le_refl _)
theorem df_X0 : ∀ j, j < 5 → defaultValue (tyX0 j) = vp_V (tk_df 0 5) j := by
  intro j hj
  have : j = 0 ∨ j = 1 ∨ j = 2 ∨ j = 3 ∨ j = 4 := by omega
  rcases this with rfl | rfl | rfl | rfl | rfl <;> rfl
theorem df_X1 : ∀ j, j < 7 → defaultValue (tyX1 j) = vp_V (tk_df 1 7) j := by
  intro j hj
  have : j = 0 ∨ j = 1 ∨ j = 2 ∨ j = 3 ∨ j = 4 ∨ j = 5 ∨ j = 6 := by omega
  rcases this with rfl | rfl | rfl | rfl | rfl | rfl | rfl <;> rfl
theorem df_X2 : ∀ j, j < 4 → defaultValue (tyX2 j) = vp_V (tk_df 2 4) j := by
  intro j hj
  have : j = 0 ∨ j = 1 ∨ j = 2 ∨ j = 3 := by omega
  rcases this with rfl | rfl | rfl | rfl <;> rfl
theorem df_X3 : ∀ j, j < 6 → defaultValue (tyX3 j) = vp_V (tk_df 3 6) j := by
  intro j hj
  have : j = 0 ∨ j = 1 ∨ j = 2 ∨ j = 3 ∨ j = 4 ∨ j = 5 := by omega
  rcases this with rfl | rfl | rfl | rfl | rfl | rfl <;> rfl
theorem df_X4 : ∀ j, j < 3 → defaultValue (tyX4 j) = vp_V (tk_df 4 3) j := by
  intro j hj
  have : j = 0 ∨ j = 1 ∨ j = 2 := by omega
  rcases this with rfl | rfl | rfl <;> rfl
theorem df_X5 : ∀ j, j < 3 → defaultValue (tyX5 j) = vp_V (tk_df 5 3) j := by
  intro j hj
  have : j = 0 ∨ j = 1 ∨ j = 2 := by omega
  rcases this with rfl | rfl | rfl <;> rfl
theorem df_X6 : ∀ j, j < 1 → defaultValue (tyX6 j) = vp_V (tk_df 6 1) j := by
  intro j hj
  have : j = 0 := by omega
  subst this
  rfl
theorem df_X7 : ∀ j, j < 13 → defaultValue (tyX7 j) = vp_V (tk_df 7 13) j := by
  intro j hj
  have : j = 0 ∨ j = 1 ∨ j = 2 ∨ j = 3 ∨ j = 4 ∨ j = 5 ∨ j = 6 ∨ j = 7 ∨ j = 8 ∨ j = 9 ∨ j = 10 ∨ j = 11 ∨ j = 12 := by omega
  rcases this with rfl | rfl | rfl | rfl | rfl | rfl | rfl | rfl | rfl | rfl | rfl | rfl | rfl <;> rfl
theorem df_X8 : ∀ j, j < 25 → defaultValue (tyX8 j) = vp_V (tk_df 8 25) j := by
  intro j hj
  have : j = 0 ∨ j = 1 ∨ j = 2 ∨ j = 3 ∨ j = 4 ∨ j = 5 ∨ j = 6 ∨ j = 7 ∨ j = 8 ∨ j = 9 ∨ j = 10 ∨ j = 11 ∨ j = 12 ∨ j = 13 ∨ j = 14 ∨ j = 15 ∨ j = 16 ∨ j = 17 ∨ j = 18 ∨ j = 19 ∨ j = 20 ∨ j = 21 ∨ j = 22 ∨ j = 23 ∨ j = 24 := by omega
  rcases this with rfl | rfl | rfl | rfl | rfl | rfl | rfl | rfl | rfl | rfl | rfl | rfl | rfl | rfl | rfl | rfl | rfl | rfl | rfl | rfl | rfl | rfl | rfl | rfl | rfl <;> rfl
theorem nw_X7_7 : Cond.classLink RX7 7 RX2 ∈ tk_TS ∧ Cond.instantiable RX2 4 ∈ tk_TS ∧ Cond.initialized RX2 ∈ tk_TS := ⟨tk_in 60 (by decide +kernel) (by decide +kernel), tk_in 61 (by decide +kernel) (by decide +kernel), tk_in 42 (by decide +kernel) (by decide +kernel)⟩
theorem nw_X7_16 : Cond.classLink RX7 16 RX3 ∈ tk_TS ∧ Cond.instantiable RX3 6 ∈ tk_TS ∧ Cond.initialized RX3 ∈ tk_TS := ⟨tk_in 87 (by decide +kernel) (by decide +kernel), tk_in 88 (by decide +kernel) (by decide +kernel), tk_in 43 (by decide +kernel) (by decide +kernel)⟩
theorem nw_X7_40 : Cond.classLink RX7 40 RX5 ∈ tk_TS ∧ Cond.instantiable RX5 3 ∈ tk_TS ∧ Cond.initialized RX5 ∈ tk_TS := ⟨tk_in 118 (by decide +kernel) (by decide +kernel), tk_in 119 (by decide +kernel) (by decide +kernel), tk_in 44 (by decide +kernel) (by decide +kernel)⟩
theorem nw_X7_50 : Cond.classLink RX7 50 RX0 ∈ tk_TS ∧ Cond.instantiable RX0 5 ∈ tk_TS ∧ Cond.initialized RX0 ∈ tk_TS := ⟨tk_in 137 (by decide +kernel) (by decide +kernel), tk_in 138 (by decide +kernel) (by decide +kernel), tk_in 45 (by decide +kernel) (by decide +kernel)⟩
theorem nw_X7_57 : Cond.classLink RX7 57 RX6 ∈ tk_TS ∧ Cond.instantiable RX6 1 ∈ tk_TS ∧ Cond.initialized RX6 ∈ tk_TS := ⟨tk_in 164 (by decide +kernel) (by decide +kernel), tk_in 165 (by decide +kernel) (by decide +kernel), tk_in 46 (by decide +kernel) (by decide +kernel)⟩
theorem nw_X7_64 : Cond.classLink RX7 64 RX1 ∈ tk_TS ∧ Cond.instantiable RX1 7 ∈ tk_TS ∧ Cond.initialized RX1 ∈ tk_TS := ⟨tk_in 175 (by decide +kernel) (by decide +kernel), tk_in 176 (by decide +kernel) (by decide +kernel), tk_in 47 (by decide +kernel) (by decide +kernel)⟩
theorem nw_X7_71 : Cond.classLink RX7 71 RX4 ∈ tk_TS ∧ Cond.instantiable RX4 3 ∈ tk_TS ∧ Cond.initialized RX4 ∈ tk_TS := ⟨tk_in 210 (by decide +kernel) (by decide +kernel), tk_in 212 (by decide +kernel) (by decide +kernel), tk_in 48 (by decide +kernel) (by decide +kernel)⟩
theorem nw_L_7 : Cond.classLink RL 7 RX7 ∈ tk_TS ∧ Cond.instantiable RX7 13 ∈ tk_TS ∧ Cond.initialized RX7 ∈ tk_TS := ⟨tk_in 52 (by decide +kernel) (by decide +kernel), tk_in 53 (by decide +kernel) (by decide +kernel), tk_in 41 (by decide +kernel) (by decide +kernel)⟩
theorem nw_L_10 : Cond.classLink RL 10 RX8 ∈ tk_TS ∧ Cond.instantiable RX8 25 ∈ tk_TS ∧ Cond.initialized RX8 ∈ tk_TS := ⟨tk_in 609 (by decide +kernel) (by decide +kernel), tk_in 610 (by decide +kernel) (by decide +kernel), tk_in 49 (by decide +kernel) (by decide +kernel)⟩
theorem cl_X7_71 : Cond.classLink RX7 71 "TellKeys$Sheet" ∈ tk_TS := nw_X7_71.1
theorem in_X2_1 {S : tS} {F : tF} {Q : Int32 → tH → Prop} (hS : tk_Sz 2 S) (hF : tk_Fz 2 F) (hw : tk_Fw 2 F) (q : Q 0 ([(7, 13), (2, 4), (10, 17), (10, 17), (10, 17)], (tk_up (tk_up (tk_up (tk_up S 1 0 0) 2 16 0) 3 16 10) 4 16 8), (tk_upF (tk_upF (tk_upF F 1 1 (some 2)) 1 2 (some 3)) 1 3 (some 4)))) : tk_Mt mX2_init 3 51 [.ref 1] ([(7, 13), (2, 4)], S, F) Q := by
  refine tk_Mt.of (ls := [.ref 1]) (by decide) (Or.inl rfl) (Nat.le_of_ble_eq_true rfl) rfl ?_
  refine g_aload_n dX2_init_0 rfl ?_
  refine g_objInit dX2_init_1 ml_X2_3 (by decide) (Nat.le_of_ble_eq_true rfl) ?_
  refine g_aload_n dX2_init_4 rfl ?_
  refine g_iconst (v := 0) dX2_init_5 (by decide) ?_
  refine g_putI (n := 4) dX2_init_6 fl_X2_9 rfl (by decide) (by decide) rfl rfl rfl ?_
  refine g_aload_n dX2_init_9 rfl ?_
  refine g_bipush (v := 17) dX2_init_10 (by decide) ?_
  refine g_newI (a := 2) (b := 34) (k := 17) (N := 2) dX2_init_12 (by decide) rfl (by decide) rfl (by decide) (by repeat (first | exact hw.mono (by decide) | exact tk_Fw.none | refine tk_Fw.up (by decide) ?_)) (by decide) (tk_Sz.here (by repeat (first | exact hS.mono (by decide) | exact tk_Sz.zero | refine tk_Sz.up (by decide) ?_))) ?_
  refine g_putRF (n := 4) dX2_init_14 fl_X2_15 (fun q h => by cases h; rfl) rfl rfl (by decide) (by decide) rfl (fun _ => rfl) (fun _ => rfl) ?_
  refine g_aload_n dX2_init_17 rfl ?_
  refine g_bipush (v := 17) dX2_init_18 (by decide) ?_
  refine g_newI (a := 1) (b := 17) (k := 17) (N := 3) dX2_init_20 (by decide) rfl (by decide) rfl (by decide) (by repeat (first | exact hw.mono (by decide) | exact tk_Fw.none | refine tk_Fw.up (by decide) ?_)) (by decide) (tk_Sz.here (by repeat (first | exact hS.mono (by decide) | exact tk_Sz.zero | refine tk_Sz.up (by decide) ?_))) ?_
  refine g_putRF (n := 4) dX2_init_22 fl_X2_19 (fun q h => by cases h; rfl) rfl rfl (by decide) (by decide) rfl (fun _ => rfl) (fun _ => rfl) ?_
  refine g_aload_n dX2_init_25 rfl ?_
  refine g_bipush (v := 17) dX2_init_26 (by decide) ?_
  refine g_newI (a := 0) (b := 0) (k := 17) (N := 4) dX2_init_28 (by decide) rfl (by decide) rfl (by decide) (by repeat (first | exact hw.mono (by decide) | exact tk_Fw.none | refine tk_Fw.up (by decide) ?_)) (by decide) (tk_Sz.here (by repeat (first | exact hS.mono (by decide) | exact tk_Sz.zero | refine tk_Sz.up (by decide) ?_))) ?_
  refine g_putRF (n := 4) dX2_init_30 fl_X2_22 (fun q h => by cases h; rfl) rfl rfl (by decide) (by decide) rfl (fun _ => rfl) (fun _ => rfl) ?_
  refine g_aload_n dX2_init_33 rfl ?_
  refine g_getR (n := 4) dX2_init_34 fl_X2_15 rfl (by decide) (by decide) rfl rfl ?_
  refine g_bipush (v := 16) dX2_init_37 (by decide) ?_
  refine g_iconst (v := 0) dX2_init_39 (by decide) ?_
  refine g_iast (n := 17) dX2_init_40 rfl (vin (by decide) (by decide)) ?_
  refine g_aload_n dX2_init_41 rfl ?_
  refine g_getR (n := 4) dX2_init_42 fl_X2_19 rfl (by decide) (by decide) rfl rfl ?_
  refine g_bipush (v := 16) dX2_init_45 (by decide) ?_
  refine g_bipush (v := 10) dX2_init_47 (by decide) ?_
  refine g_iast (n := 17) dX2_init_49 rfl (vin (by decide) (by decide)) ?_
  refine g_aload_n dX2_init_50 rfl ?_
  refine g_getR (n := 4) dX2_init_51 fl_X2_22 rfl (by decide) (by decide) rfl rfl ?_
  refine g_bipush (v := 16) dX2_init_54 (by decide) ?_
  refine g_bipush (v := 8) dX2_init_56 (by decide) ?_
  refine g_iast (n := 17) dX2_init_58 rfl (vin (by decide) (by decide)) ?_
  exact g_vret (st := []) dX2_init_59 rfl ⟨trivial, q⟩
theorem in_X3_5 {S : tS} {F : tF} {Q : Int32 → tH → Prop} (hS : tk_Sz 6 S) (hF : tk_Fz 6 F) (hw : tk_Fw 6 F) (q : Q 0 ([(7, 13), (2, 4), (10, 17), (10, 17), (10, 17), (3, 6), (10, 8), (10, 8), (10, 8), (10, 8), (10, 8)], (tk_up S 5 0 0), (tk_upF (tk_upF (tk_upF (tk_upF (tk_upF F 5 1 (some 6)) 5 2 (some 7)) 5 3 (some 8)) 5 4 (some 9)) 5 5 (some 10)))) : tk_Mt mX3_init 5 40 [.ref 5] ([(7, 13), (2, 4), (10, 17), (10, 17), (10, 17), (3, 6)], S, F) Q := by
  refine tk_Mt.of (ls := [.ref 5]) (by decide) (Or.inl rfl) (Nat.le_of_ble_eq_true rfl) rfl ?_
  refine g_aload_n dX3_init_0 rfl ?_
  refine g_objInit dX3_init_1 ml_X3_3 (by decide) (Nat.le_of_ble_eq_true rfl) ?_
  refine g_aload_n dX3_init_4 rfl ?_
  refine g_iconst (v := 0) dX3_init_5 (by decide) ?_
  refine g_putI (n := 6) dX3_init_6 fl_X3_9 rfl (by decide) (by decide) rfl rfl rfl ?_
  refine g_aload_n dX3_init_9 rfl ?_
  refine g_bipush (v := 8) dX3_init_10 (by decide) ?_
  refine g_newI (a := 4) (b := 32) (k := 8) (N := 6) dX3_init_12 (by decide) rfl (by decide) rfl (by decide) (by repeat (first | exact hw.mono (by decide) | exact tk_Fw.none | refine tk_Fw.up (by decide) ?_)) (by decide) (tk_Sz.here (by repeat (first | exact hS.mono (by decide) | exact tk_Sz.zero | refine tk_Sz.up (by decide) ?_))) ?_
  refine g_putRF (n := 6) dX3_init_14 fl_X3_15 (fun q h => by cases h; rfl) rfl rfl (by decide) (by decide) rfl (fun _ => rfl) (fun _ => rfl) ?_
  refine g_aload_n dX3_init_17 rfl ?_
  refine g_bipush (v := 8) dX3_init_18 (by decide) ?_
  refine g_newI (a := 3) (b := 24) (k := 8) (N := 7) dX3_init_20 (by decide) rfl (by decide) rfl (by decide) (by repeat (first | exact hw.mono (by decide) | exact tk_Fw.none | refine tk_Fw.up (by decide) ?_)) (by decide) (tk_Sz.here (by repeat (first | exact hS.mono (by decide) | exact tk_Sz.zero | refine tk_Sz.up (by decide) ?_))) ?_
  refine g_putRF (n := 6) dX3_init_22 fl_X3_19 (fun q h => by cases h; rfl) rfl rfl (by decide) (by decide) rfl (fun _ => rfl) (fun _ => rfl) ?_
  refine g_aload_n dX3_init_25 rfl ?_
  refine g_bipush (v := 8) dX3_init_26 (by decide) ?_
  refine g_newI (a := 2) (b := 16) (k := 8) (N := 8) dX3_init_28 (by decide) rfl (by decide) rfl (by decide) (by repeat (first | exact hw.mono (by decide) | exact tk_Fw.none | refine tk_Fw.up (by decide) ?_)) (by decide) (tk_Sz.here (by repeat (first | exact hS.mono (by decide) | exact tk_Sz.zero | refine tk_Sz.up (by decide) ?_))) ?_
  refine g_putRF (n := 6) dX3_init_30 fl_X3_22 (fun q h => by cases h; rfl) rfl rfl (by decide) (by decide) rfl (fun _ => rfl) (fun _ => rfl) ?_
  refine g_aload_n dX3_init_33 rfl ?_
  refine g_bipush (v := 8) dX3_init_34 (by decide) ?_
  refine g_newI (a := 1) (b := 8) (k := 8) (N := 9) dX3_init_36 (by decide) rfl (by decide) rfl (by decide) (by repeat (first | exact hw.mono (by decide) | exact tk_Fw.none | refine tk_Fw.up (by decide) ?_)) (by decide) (tk_Sz.here (by repeat (first | exact hS.mono (by decide) | exact tk_Sz.zero | refine tk_Sz.up (by decide) ?_))) ?_
  refine g_putRF (n := 6) dX3_init_38 fl_X3_25 (fun q h => by cases h; rfl) rfl rfl (by decide) (by decide) rfl (fun _ => rfl) (fun _ => rfl) ?_
  refine g_aload_n dX3_init_41 rfl ?_
  refine g_bipush (v := 8) dX3_init_42 (by decide) ?_
  refine g_newI (a := 0) (b := 0) (k := 8) (N := 10) dX3_init_44 (by decide) rfl (by decide) rfl (by decide) (by repeat (first | exact hw.mono (by decide) | exact tk_Fw.none | refine tk_Fw.up (by decide) ?_)) (by decide) (tk_Sz.here (by repeat (first | exact hS.mono (by decide) | exact tk_Sz.zero | refine tk_Sz.up (by decide) ?_))) ?_
  refine g_putRF (n := 6) dX3_init_46 fl_X3_28 (fun q h => by cases h; rfl) rfl rfl (by decide) (by decide) rfl (fun _ => rfl) (fun _ => rfl) ?_
  exact g_vret (st := []) dX3_init_49 rfl ⟨trivial, q⟩
theorem in_X2_11 {S : tS} {F : tF} {Q : Int32 → tH → Prop} (hS : tk_Sz 12 S) (hF : tk_Fz 12 F) (hw : tk_Fw 12 F) (q : Q 0 ([(7, 13), (2, 4), (10, 17), (10, 17), (10, 17), (3, 6), (10, 8), (10, 8), (10, 8), (10, 8), (10, 8), (2, 4), (10, 17), (10, 17), (10, 17)], (tk_up (tk_up (tk_up (tk_up S 11 0 0) 12 16 0) 13 16 10) 14 16 8), (tk_upF (tk_upF (tk_upF F 11 1 (some 12)) 11 2 (some 13)) 11 3 (some 14)))) : tk_Mt mX2_init 3 51 [.ref 11] ([(7, 13), (2, 4), (10, 17), (10, 17), (10, 17), (3, 6), (10, 8), (10, 8), (10, 8), (10, 8), (10, 8), (2, 4)], S, F) Q := by
  refine tk_Mt.of (ls := [.ref 11]) (by decide) (Or.inl rfl) (Nat.le_of_ble_eq_true rfl) rfl ?_
  refine g_aload_n dX2_init_0 rfl ?_
  refine g_objInit dX2_init_1 ml_X2_3 (by decide) (Nat.le_of_ble_eq_true rfl) ?_
  refine g_aload_n dX2_init_4 rfl ?_
  refine g_iconst (v := 0) dX2_init_5 (by decide) ?_
  refine g_putI (n := 4) dX2_init_6 fl_X2_9 rfl (by decide) (by decide) rfl rfl rfl ?_
  refine g_aload_n dX2_init_9 rfl ?_
  refine g_bipush (v := 17) dX2_init_10 (by decide) ?_
  refine g_newI (a := 2) (b := 34) (k := 17) (N := 12) dX2_init_12 (by decide) rfl (by decide) rfl (by decide) (by repeat (first | exact hw.mono (by decide) | exact tk_Fw.none | refine tk_Fw.up (by decide) ?_)) (by decide) (tk_Sz.here (by repeat (first | exact hS.mono (by decide) | exact tk_Sz.zero | refine tk_Sz.up (by decide) ?_))) ?_
  refine g_putRF (n := 4) dX2_init_14 fl_X2_15 (fun q h => by cases h; rfl) rfl rfl (by decide) (by decide) rfl (fun _ => rfl) (fun _ => rfl) ?_
  refine g_aload_n dX2_init_17 rfl ?_
  refine g_bipush (v := 17) dX2_init_18 (by decide) ?_
  refine g_newI (a := 1) (b := 17) (k := 17) (N := 13) dX2_init_20 (by decide) rfl (by decide) rfl (by decide) (by repeat (first | exact hw.mono (by decide) | exact tk_Fw.none | refine tk_Fw.up (by decide) ?_)) (by decide) (tk_Sz.here (by repeat (first | exact hS.mono (by decide) | exact tk_Sz.zero | refine tk_Sz.up (by decide) ?_))) ?_
  refine g_putRF (n := 4) dX2_init_22 fl_X2_19 (fun q h => by cases h; rfl) rfl rfl (by decide) (by decide) rfl (fun _ => rfl) (fun _ => rfl) ?_
  refine g_aload_n dX2_init_25 rfl ?_
  refine g_bipush (v := 17) dX2_init_26 (by decide) ?_
  refine g_newI (a := 0) (b := 0) (k := 17) (N := 14) dX2_init_28 (by decide) rfl (by decide) rfl (by decide) (by repeat (first | exact hw.mono (by decide) | exact tk_Fw.none | refine tk_Fw.up (by decide) ?_)) (by decide) (tk_Sz.here (by repeat (first | exact hS.mono (by decide) | exact tk_Sz.zero | refine tk_Sz.up (by decide) ?_))) ?_
  refine g_putRF (n := 4) dX2_init_30 fl_X2_22 (fun q h => by cases h; rfl) rfl rfl (by decide) (by decide) rfl (fun _ => rfl) (fun _ => rfl) ?_
  refine g_aload_n dX2_init_33 rfl ?_
  refine g_getR (n := 4) dX2_init_34 fl_X2_15 rfl (by decide) (by decide) rfl rfl ?_
  refine g_bipush (v := 16) dX2_init_37 (by decide) ?_
  refine g_iconst (v := 0) dX2_init_39 (by decide) ?_
  refine g_iast (n := 17) dX2_init_40 rfl (vin (by decide) (by decide)) ?_
  refine g_aload_n dX2_init_41 rfl ?_
  refine g_getR (n := 4) dX2_init_42 fl_X2_19 rfl (by decide) (by decide) rfl rfl ?_
  refine g_bipush (v := 16) dX2_init_45 (by decide) ?_
  refine g_bipush (v := 10) dX2_init_47 (by decide) ?_
  refine g_iast (n := 17) dX2_init_49 rfl (vin (by decide) (by decide)) ?_
  refine g_aload_n dX2_init_50 rfl ?_
  refine g_getR (n := 4) dX2_init_51 fl_X2_22 rfl (by decide) (by decide) rfl rfl ?_
  refine g_bipush (v := 16) dX2_init_54 (by decide) ?_
  refine g_bipush (v := 8) dX2_init_56 (by decide) ?_
  refine g_iast (n := 17) dX2_init_58 rfl (vin (by decide) (by decide)) ?_
  exact g_vret (st := []) dX2_init_59 rfl ⟨trivial, q⟩
theorem in_X3_15 {S : tS} {F : tF} {Q : Int32 → tH → Prop} (hS : tk_Sz 16 S) (hF : tk_Fz 16 F) (hw : tk_Fw 16 F) (q : Q 0 ([(7, 13), (2, 4), (10, 17), (10, 17), (10, 17), (3, 6), (10, 8), (10, 8), (10, 8), (10, 8), (10, 8), (2, 4), (10, 17), (10, 17), (10, 17), (3, 6), (10, 8), (10, 8), (10, 8), (10, 8), (10, 8)], (tk_up S 15 0 0), (tk_upF (tk_upF (tk_upF (tk_upF (tk_upF F 15 1 (some 16)) 15 2 (some 17)) 15 3 (some 18)) 15 4 (some 19)) 15 5 (some 20)))) : tk_Mt mX3_init 5 40 [.ref 15] ([(7, 13), (2, 4), (10, 17), (10, 17), (10, 17), (3, 6), (10, 8), (10, 8), (10, 8), (10, 8), (10, 8), (2, 4), (10, 17), (10, 17), (10, 17), (3, 6)], S, F) Q := by
  refine tk_Mt.of (ls := [.ref 15]) (by decide) (Or.inl rfl) (Nat.le_of_ble_eq_true rfl) rfl ?_
  refine g_aload_n dX3_init_0 rfl ?_
  refine g_objInit dX3_init_1 ml_X3_3 (by decide) (Nat.le_of_ble_eq_true rfl) ?_
  refine g_aload_n dX3_init_4 rfl ?_
  refine g_iconst (v := 0) dX3_init_5 (by decide) ?_
  refine g_putI (n := 6) dX3_init_6 fl_X3_9 rfl (by decide) (by decide) rfl rfl rfl ?_
  refine g_aload_n dX3_init_9 rfl ?_
  refine g_bipush (v := 8) dX3_init_10 (by decide) ?_
  refine g_newI (a := 4) (b := 32) (k := 8) (N := 16) dX3_init_12 (by decide) rfl (by decide) rfl (by decide) (by repeat (first | exact hw.mono (by decide) | exact tk_Fw.none | refine tk_Fw.up (by decide) ?_)) (by decide) (tk_Sz.here (by repeat (first | exact hS.mono (by decide) | exact tk_Sz.zero | refine tk_Sz.up (by decide) ?_))) ?_
  refine g_putRF (n := 6) dX3_init_14 fl_X3_15 (fun q h => by cases h; rfl) rfl rfl (by decide) (by decide) rfl (fun _ => rfl) (fun _ => rfl) ?_
  refine g_aload_n dX3_init_17 rfl ?_
  refine g_bipush (v := 8) dX3_init_18 (by decide) ?_
  refine g_newI (a := 3) (b := 24) (k := 8) (N := 17) dX3_init_20 (by decide) rfl (by decide) rfl (by decide) (by repeat (first | exact hw.mono (by decide) | exact tk_Fw.none | refine tk_Fw.up (by decide) ?_)) (by decide) (tk_Sz.here (by repeat (first | exact hS.mono (by decide) | exact tk_Sz.zero | refine tk_Sz.up (by decide) ?_))) ?_
  refine g_putRF (n := 6) dX3_init_22 fl_X3_19 (fun q h => by cases h; rfl) rfl rfl (by decide) (by decide) rfl (fun _ => rfl) (fun _ => rfl) ?_
  refine g_aload_n dX3_init_25 rfl ?_
  refine g_bipush (v := 8) dX3_init_26 (by decide) ?_
  refine g_newI (a := 2) (b := 16) (k := 8) (N := 18) dX3_init_28 (by decide) rfl (by decide) rfl (by decide) (by repeat (first | exact hw.mono (by decide) | exact tk_Fw.none | refine tk_Fw.up (by decide) ?_)) (by decide) (tk_Sz.here (by repeat (first | exact hS.mono (by decide) | exact tk_Sz.zero | refine tk_Sz.up (by decide) ?_))) ?_
  refine g_putRF (n := 6) dX3_init_30 fl_X3_22 (fun q h => by cases h; rfl) rfl rfl (by decide) (by decide) rfl (fun _ => rfl) (fun _ => rfl) ?_
  refine g_aload_n dX3_init_33 rfl ?_
  refine g_bipush (v := 8) dX3_init_34 (by decide) ?_
  refine g_newI (a := 1) (b := 8) (k := 8) (N := 19) dX3_init_36 (by decide) rfl (by decide) rfl (by decide) (by repeat (first | exact hw.mono (by decide) | exact tk_Fw.none | refine tk_Fw.up (by decide) ?_)) (by decide) (tk_Sz.here (by repeat (first | exact hS.mono (by decide) | exact tk_Sz.zero | refine tk_Sz.up (by decide) ?_))) ?_
  refine g_putRF (n := 6) dX3_init_38 fl_X3_25 (fun q h => by cases h; rfl) rfl rfl (by decide) (by decide) rfl (fun _ => rfl) (fun _ => rfl) ?_
  refine g_aload_n dX3_init_41 rfl ?_
  refine g_bipush (v := 8) dX3_init_42 (by decide) ?_
  refine g_newI (a := 0) (b := 0) (k := 8) (N := 20) dX3_init_44 (by decide) rfl (by decide) rfl (by decide) (by repeat (first | exact hw.mono (by decide) | exact tk_Fw.none | refine tk_Fw.up (by decide) ?_)) (by decide) (tk_Sz.here (by repeat (first | exact hS.mono (by decide) | exact tk_Sz.zero | refine tk_Sz.up (by decide) ?_))) ?_
  refine g_putRF (n := 6) dX3_init_46 fl_X3_28 (fun q h => by cases h; rfl) rfl rfl (by decide) (by decide) rfl (fun _ => rfl) (fun _ => rfl) ?_
  exact g_vret (st := []) dX3_init_49 rfl ⟨trivial, q⟩
theorem in_X5_21 {S : tS} {F : tF} {Q : Int32 → tH → Prop} (hS : tk_Sz 22 S) (hF : tk_Fz 22 F) (hw : tk_Fw 22 F) (q : Q 0 ([(7, 13), (2, 4), (10, 17), (10, 17), (10, 17), (3, 6), (10, 8), (10, 8), (10, 8), (10, 8), (10, 8), (2, 4), (10, 17), (10, 17), (10, 17), (3, 6), (10, 8), (10, 8), (10, 8), (10, 8), (10, 8), (5, 3), (9, 160)], (tk_up (tk_up S 21 0 0) 21 1 0), (tk_upF F 21 2 (some 22)))) : tk_Mt mX5_init 1 160 [.ref 21] ([(7, 13), (2, 4), (10, 17), (10, 17), (10, 17), (3, 6), (10, 8), (10, 8), (10, 8), (10, 8), (10, 8), (2, 4), (10, 17), (10, 17), (10, 17), (3, 6), (10, 8), (10, 8), (10, 8), (10, 8), (10, 8), (5, 3)], S, F) Q := by
  refine tk_Mt.of (ls := [.ref 21]) (by decide) (Or.inl rfl) (Nat.le_of_ble_eq_true rfl) rfl ?_
  refine g_aload_n dX5_init_0 rfl ?_
  refine g_objInit dX5_init_1 ml_X5_3 (by decide) (Nat.le_of_ble_eq_true rfl) ?_
  refine g_aload_n dX5_init_4 rfl ?_
  refine g_iconst (v := 0) dX5_init_5 (by decide) ?_
  refine g_putI (n := 3) dX5_init_6 fl_X5_9 rfl (by decide) (by decide) rfl rfl rfl ?_
  refine g_aload_n dX5_init_9 rfl ?_
  refine g_iconst (v := 0) dX5_init_10 (by decide) ?_
  refine g_putI (n := 3) dX5_init_11 fl_X5_15 rfl (by decide) (by decide) rfl rfl rfl ?_
  refine g_aload_n dX5_init_14 rfl ?_
  refine g_sipush (v := 160) dX5_init_15 (by decide) ?_
  refine g_newB (a := 0) (b := 0) (k := 160) (N := 22) dX5_init_18 (by decide) rfl (by decide) rfl (by decide) (by repeat (first | exact hw.mono (by decide) | exact tk_Fw.none | refine tk_Fw.up (by decide) ?_)) (by decide) (tk_Sz.here (by repeat (first | exact hS.mono (by decide) | exact tk_Sz.zero | refine tk_Sz.up (by decide) ?_))) ?_
  refine g_putRF (n := 3) dX5_init_20 fl_X5_18 (fun q h => by cases h; rfl) rfl rfl (by decide) (by decide) rfl (fun _ => rfl) (fun _ => rfl) ?_
  exact g_vret (st := []) dX5_init_23 rfl ⟨trivial, q⟩
theorem in_X2_23 {S : tS} {F : tF} {Q : Int32 → tH → Prop} (hS : tk_Sz 24 S) (hF : tk_Fz 24 F) (hw : tk_Fw 24 F) (q : Q 0 ([(7, 13), (2, 4), (10, 17), (10, 17), (10, 17), (3, 6), (10, 8), (10, 8), (10, 8), (10, 8), (10, 8), (2, 4), (10, 17), (10, 17), (10, 17), (3, 6), (10, 8), (10, 8), (10, 8), (10, 8), (10, 8), (5, 3), (9, 160), (2, 4), (10, 17), (10, 17), (10, 17)], (tk_up (tk_up (tk_up (tk_up S 23 0 0) 24 16 0) 25 16 10) 26 16 8), (tk_upF (tk_upF (tk_upF F 23 1 (some 24)) 23 2 (some 25)) 23 3 (some 26)))) : tk_Mt mX2_init 3 51 [.ref 23] ([(7, 13), (2, 4), (10, 17), (10, 17), (10, 17), (3, 6), (10, 8), (10, 8), (10, 8), (10, 8), (10, 8), (2, 4), (10, 17), (10, 17), (10, 17), (3, 6), (10, 8), (10, 8), (10, 8), (10, 8), (10, 8), (5, 3), (9, 160), (2, 4)], S, F) Q := by
  refine tk_Mt.of (ls := [.ref 23]) (by decide) (Or.inl rfl) (Nat.le_of_ble_eq_true rfl) rfl ?_
  refine g_aload_n dX2_init_0 rfl ?_
  refine g_objInit dX2_init_1 ml_X2_3 (by decide) (Nat.le_of_ble_eq_true rfl) ?_
  refine g_aload_n dX2_init_4 rfl ?_
  refine g_iconst (v := 0) dX2_init_5 (by decide) ?_
  refine g_putI (n := 4) dX2_init_6 fl_X2_9 rfl (by decide) (by decide) rfl rfl rfl ?_
  refine g_aload_n dX2_init_9 rfl ?_
  refine g_bipush (v := 17) dX2_init_10 (by decide) ?_
  refine g_newI (a := 2) (b := 34) (k := 17) (N := 24) dX2_init_12 (by decide) rfl (by decide) rfl (by decide) (by repeat (first | exact hw.mono (by decide) | exact tk_Fw.none | refine tk_Fw.up (by decide) ?_)) (by decide) (tk_Sz.here (by repeat (first | exact hS.mono (by decide) | exact tk_Sz.zero | refine tk_Sz.up (by decide) ?_))) ?_
  refine g_putRF (n := 4) dX2_init_14 fl_X2_15 (fun q h => by cases h; rfl) rfl rfl (by decide) (by decide) rfl (fun _ => rfl) (fun _ => rfl) ?_
  refine g_aload_n dX2_init_17 rfl ?_
  refine g_bipush (v := 17) dX2_init_18 (by decide) ?_
  refine g_newI (a := 1) (b := 17) (k := 17) (N := 25) dX2_init_20 (by decide) rfl (by decide) rfl (by decide) (by repeat (first | exact hw.mono (by decide) | exact tk_Fw.none | refine tk_Fw.up (by decide) ?_)) (by decide) (tk_Sz.here (by repeat (first | exact hS.mono (by decide) | exact tk_Sz.zero | refine tk_Sz.up (by decide) ?_))) ?_
  refine g_putRF (n := 4) dX2_init_22 fl_X2_19 (fun q h => by cases h; rfl) rfl rfl (by decide) (by decide) rfl (fun _ => rfl) (fun _ => rfl) ?_
  refine g_aload_n dX2_init_25 rfl ?_
  refine g_bipush (v := 17) dX2_init_26 (by decide) ?_
  refine g_newI (a := 0) (b := 0) (k := 17) (N := 26) dX2_init_28 (by decide) rfl (by decide) rfl (by decide) (by repeat (first | exact hw.mono (by decide) | exact tk_Fw.none | refine tk_Fw.up (by decide) ?_)) (by decide) (tk_Sz.here (by repeat (first | exact hS.mono (by decide) | exact tk_Sz.zero | refine tk_Sz.up (by decide) ?_))) ?_
  refine g_putRF (n := 4) dX2_init_30 fl_X2_22 (fun q h => by cases h; rfl) rfl rfl (by decide) (by decide) rfl (fun _ => rfl) (fun _ => rfl) ?_
  refine g_aload_n dX2_init_33 rfl ?_
  refine g_getR (n := 4) dX2_init_34 fl_X2_15 rfl (by decide) (by decide) rfl rfl ?_
  refine g_bipush (v := 16) dX2_init_37 (by decide) ?_
  refine g_iconst (v := 0) dX2_init_39 (by decide) ?_
  refine g_iast (n := 17) dX2_init_40 rfl (vin (by decide) (by decide)) ?_
  refine g_aload_n dX2_init_41 rfl ?_
  refine g_getR (n := 4) dX2_init_42 fl_X2_19 rfl (by decide) (by decide) rfl rfl ?_
  refine g_bipush (v := 16) dX2_init_45 (by decide) ?_
  refine g_bipush (v := 10) dX2_init_47 (by decide) ?_
  refine g_iast (n := 17) dX2_init_49 rfl (vin (by decide) (by decide)) ?_
  refine g_aload_n dX2_init_50 rfl ?_
  refine g_getR (n := 4) dX2_init_51 fl_X2_22 rfl (by decide) (by decide) rfl rfl ?_
  refine g_bipush (v := 16) dX2_init_54 (by decide) ?_
  refine g_bipush (v := 8) dX2_init_56 (by decide) ?_
  refine g_iast (n := 17) dX2_init_58 rfl (vin (by decide) (by decide)) ?_
  exact g_vret (st := []) dX2_init_59 rfl ⟨trivial, q⟩
theorem in_X0_27 {S : tS} {F : tF} {Q : Int32 → tH → Prop} (hS : tk_Sz 28 S) (hF : tk_Fz 28 F) (hw : tk_Fw 28 F) (q : Q 0 ([(7, 13), (2, 4), (10, 17), (10, 17), (10, 17), (3, 6), (10, 8), (10, 8), (10, 8), (10, 8), (10, 8), (2, 4), (10, 17), (10, 17), (10, 17), (3, 6), (10, 8), (10, 8), (10, 8), (10, 8), (10, 8), (5, 3), (9, 160), (2, 4), (10, 17), (10, 17), (10, 17), (0, 5)], (tk_up (tk_up (tk_up (tk_up (tk_up S 27 0 0) 27 1 0) 27 2 0) 27 3 0) 27 4 0), F)) : tk_Mt mX0_init 0 0 [.ref 27] ([(7, 13), (2, 4), (10, 17), (10, 17), (10, 17), (3, 6), (10, 8), (10, 8), (10, 8), (10, 8), (10, 8), (2, 4), (10, 17), (10, 17), (10, 17), (3, 6), (10, 8), (10, 8), (10, 8), (10, 8), (10, 8), (5, 3), (9, 160), (2, 4), (10, 17), (10, 17), (10, 17), (0, 5)], S, F) Q := by
  refine tk_Mt.of (ls := [.ref 27]) (by decide) (Or.inl rfl) (Nat.le_of_ble_eq_true rfl) rfl ?_
  refine g_aload_n dX0_init_0 rfl ?_
  refine g_objInit dX0_init_1 ml_X0_1 (by decide) (Nat.le_of_ble_eq_true rfl) ?_
  refine g_aload_n dX0_init_4 rfl ?_
  refine g_iconst (v := 0) dX0_init_5 (by decide) ?_
  refine g_putI (n := 5) dX0_init_6 fl_X0_7 rfl (by decide) (by decide) rfl rfl rfl ?_
  refine g_aload_n dX0_init_9 rfl ?_
  refine g_iconst (v := 0) dX0_init_10 (by decide) ?_
  refine g_putI (n := 5) dX0_init_11 fl_X0_13 rfl (by decide) (by decide) rfl rfl rfl ?_
  refine g_aload_n dX0_init_14 rfl ?_
  refine g_iconst (v := 0) dX0_init_15 (by decide) ?_
  refine g_putI (n := 5) dX0_init_16 fl_X0_16 rfl (by decide) (by decide) rfl rfl rfl ?_
  refine g_aload_n dX0_init_19 rfl ?_
  refine g_iconst (v := 0) dX0_init_20 (by decide) ?_
  refine g_putI (n := 5) dX0_init_21 fl_X0_19 rfl (by decide) (by decide) rfl rfl rfl ?_
  refine g_aload_n dX0_init_24 rfl ?_
  refine g_iconst (v := 0) dX0_init_25 (by decide) ?_
  refine g_putI (n := 5) dX0_init_26 fl_X0_22 rfl (by decide) (by decide) rfl rfl rfl ?_
  exact g_vret (st := []) dX0_init_29 rfl ⟨trivial, q⟩
theorem in_X6_28 {S : tS} {F : tF} {Q : Int32 → tH → Prop} (hS : tk_Sz 29 S) (hF : tk_Fz 29 F) (hw : tk_Fw 29 F) (q : Q 0 ([(7, 13), (2, 4), (10, 17), (10, 17), (10, 17), (3, 6), (10, 8), (10, 8), (10, 8), (10, 8), (10, 8), (2, 4), (10, 17), (10, 17), (10, 17), (3, 6), (10, 8), (10, 8), (10, 8), (10, 8), (10, 8), (5, 3), (9, 160), (2, 4), (10, 17), (10, 17), (10, 17), (0, 5), (6, 1), (10, 11)], S, (tk_upF F 28 0 (some 29)))) : tk_Mt mX6_init 1 11 [.ref 28] ([(7, 13), (2, 4), (10, 17), (10, 17), (10, 17), (3, 6), (10, 8), (10, 8), (10, 8), (10, 8), (10, 8), (2, 4), (10, 17), (10, 17), (10, 17), (3, 6), (10, 8), (10, 8), (10, 8), (10, 8), (10, 8), (5, 3), (9, 160), (2, 4), (10, 17), (10, 17), (10, 17), (0, 5), (6, 1)], S, F) Q := by
  refine tk_Mt.of (ls := [.ref 28]) (by decide) (Or.inl rfl) (Nat.le_of_ble_eq_true rfl) rfl ?_
  refine g_aload_n dX6_init_0 rfl ?_
  refine g_objInit dX6_init_1 ml_X6_3 (by decide) (Nat.le_of_ble_eq_true rfl) ?_
  refine g_aload_n dX6_init_4 rfl ?_
  refine g_bipush (v := 11) dX6_init_5 (by decide) ?_
  refine g_newI (a := 0) (b := 0) (k := 11) (N := 29) dX6_init_7 (by decide) rfl (by decide) rfl (by decide) (by repeat (first | exact hw.mono (by decide) | exact tk_Fw.none | refine tk_Fw.up (by decide) ?_)) (by decide) (tk_Sz.here (by repeat (first | exact hS.mono (by decide) | exact tk_Sz.zero | refine tk_Sz.up (by decide) ?_))) ?_
  refine g_putRF (n := 1) dX6_init_9 fl_X6_9 (fun q h => by cases h; rfl) rfl rfl (by decide) (by decide) rfl (fun _ => rfl) (fun _ => rfl) ?_
  exact g_vret (st := []) dX6_init_12 rfl ⟨trivial, q⟩
theorem in_X1_30 {S : tS} {F : tF} {Q : Int32 → tH → Prop} (hS : tk_Sz 31 S) (hF : tk_Fz 31 F) (hw : tk_Fw 31 F) (q : Q 0 ([(7, 13), (2, 4), (10, 17), (10, 17), (10, 17), (3, 6), (10, 8), (10, 8), (10, 8), (10, 8), (10, 8), (2, 4), (10, 17), (10, 17), (10, 17), (3, 6), (10, 8), (10, 8), (10, 8), (10, 8), (10, 8), (5, 3), (9, 160), (2, 4), (10, 17), (10, 17), (10, 17), (0, 5), (6, 1), (10, 11), (1, 7), (10, 6), (10, 6), (10, 6), (10, 6), (10, 6)], (tk_up (tk_up S 30 0 0) 30 1 (-1)), (tk_upF (tk_upF (tk_upF (tk_upF (tk_upF F 30 2 (some 31)) 30 3 (some 32)) 30 4 (some 33)) 30 5 (some 34)) 30 6 (some 35)))) : tk_Mt mX1_init 5 30 [.ref 30] ([(7, 13), (2, 4), (10, 17), (10, 17), (10, 17), (3, 6), (10, 8), (10, 8), (10, 8), (10, 8), (10, 8), (2, 4), (10, 17), (10, 17), (10, 17), (3, 6), (10, 8), (10, 8), (10, 8), (10, 8), (10, 8), (5, 3), (9, 160), (2, 4), (10, 17), (10, 17), (10, 17), (0, 5), (6, 1), (10, 11), (1, 7)], S, F) Q := by
  refine tk_Mt.of (ls := [.ref 30]) (by decide) (Or.inl rfl) (Nat.le_of_ble_eq_true rfl) rfl ?_
  refine g_aload_n dX1_init_0 rfl ?_
  refine g_objInit dX1_init_1 ml_X1_3 (by decide) (Nat.le_of_ble_eq_true rfl) ?_
  refine g_aload_n dX1_init_4 rfl ?_
  refine g_iconst (v := 0) dX1_init_5 (by decide) ?_
  refine g_putI (n := 7) dX1_init_6 fl_X1_9 rfl (by decide) (by decide) rfl rfl rfl ?_
  refine g_aload_n dX1_init_9 rfl ?_
  refine g_iconst (v := (-1)) dX1_init_10 (by decide) ?_
  refine g_putI (n := 7) dX1_init_11 fl_X1_15 rfl (by decide) (by decide) rfl rfl rfl ?_
  refine g_aload_n dX1_init_14 rfl ?_
  refine g_bipush (v := 6) dX1_init_15 (by decide) ?_
  refine g_newI (a := 4) (b := 24) (k := 6) (N := 31) dX1_init_17 (by decide) rfl (by decide) rfl (by decide) (by repeat (first | exact hw.mono (by decide) | exact tk_Fw.none | refine tk_Fw.up (by decide) ?_)) (by decide) (tk_Sz.here (by repeat (first | exact hS.mono (by decide) | exact tk_Sz.zero | refine tk_Sz.up (by decide) ?_))) ?_
  refine g_putRF (n := 7) dX1_init_19 fl_X1_18 (fun q h => by cases h; rfl) rfl rfl (by decide) (by decide) rfl (fun _ => rfl) (fun _ => rfl) ?_
  refine g_aload_n dX1_init_22 rfl ?_
  refine g_bipush (v := 6) dX1_init_23 (by decide) ?_
  refine g_newI (a := 3) (b := 18) (k := 6) (N := 32) dX1_init_25 (by decide) rfl (by decide) rfl (by decide) (by repeat (first | exact hw.mono (by decide) | exact tk_Fw.none | refine tk_Fw.up (by decide) ?_)) (by decide) (tk_Sz.here (by repeat (first | exact hS.mono (by decide) | exact tk_Sz.zero | refine tk_Sz.up (by decide) ?_))) ?_
  refine g_putRF (n := 7) dX1_init_27 fl_X1_22 (fun q h => by cases h; rfl) rfl rfl (by decide) (by decide) rfl (fun _ => rfl) (fun _ => rfl) ?_
  refine g_aload_n dX1_init_30 rfl ?_
  refine g_bipush (v := 6) dX1_init_31 (by decide) ?_
  refine g_newI (a := 2) (b := 12) (k := 6) (N := 33) dX1_init_33 (by decide) rfl (by decide) rfl (by decide) (by repeat (first | exact hw.mono (by decide) | exact tk_Fw.none | refine tk_Fw.up (by decide) ?_)) (by decide) (tk_Sz.here (by repeat (first | exact hS.mono (by decide) | exact tk_Sz.zero | refine tk_Sz.up (by decide) ?_))) ?_
  refine g_putRF (n := 7) dX1_init_35 fl_X1_25 (fun q h => by cases h; rfl) rfl rfl (by decide) (by decide) rfl (fun _ => rfl) (fun _ => rfl) ?_
  refine g_aload_n dX1_init_38 rfl ?_
  refine g_bipush (v := 6) dX1_init_39 (by decide) ?_
  refine g_newI (a := 1) (b := 6) (k := 6) (N := 34) dX1_init_41 (by decide) rfl (by decide) rfl (by decide) (by repeat (first | exact hw.mono (by decide) | exact tk_Fw.none | refine tk_Fw.up (by decide) ?_)) (by decide) (tk_Sz.here (by repeat (first | exact hS.mono (by decide) | exact tk_Sz.zero | refine tk_Sz.up (by decide) ?_))) ?_
  refine g_putRF (n := 7) dX1_init_43 fl_X1_28 (fun q h => by cases h; rfl) rfl rfl (by decide) (by decide) rfl (fun _ => rfl) (fun _ => rfl) ?_
  refine g_aload_n dX1_init_46 rfl ?_
  refine g_bipush (v := 6) dX1_init_47 (by decide) ?_
  refine g_newI (a := 0) (b := 0) (k := 6) (N := 35) dX1_init_49 (by decide) rfl (by decide) rfl (by decide) (by repeat (first | exact hw.mono (by decide) | exact tk_Fw.none | refine tk_Fw.up (by decide) ?_)) (by decide) (tk_Sz.here (by repeat (first | exact hS.mono (by decide) | exact tk_Sz.zero | refine tk_Sz.up (by decide) ?_))) ?_
  refine g_putRF (n := 7) dX1_init_51 fl_X1_31 (fun q h => by cases h; rfl) rfl rfl (by decide) (by decide) rfl (fun _ => rfl) (fun _ => rfl) ?_
  exact g_vret (st := []) dX1_init_54 rfl ⟨trivial, q⟩
theorem in_X4_37 {S : tS} {F : tF} {Q : Int32 → tH → Prop} (hS : tk_Sz 38 S) (hF : tk_Fz 38 F) (hw : tk_Fw 38 F) (q : Q 0 ([(7, 13), (2, 4), (10, 17), (10, 17), (10, 17), (3, 6), (10, 8), (10, 8), (10, 8), (10, 8), (10, 8), (2, 4), (10, 17), (10, 17), (10, 17), (3, 6), (10, 8), (10, 8), (10, 8), (10, 8), (10, 8), (5, 3), (9, 160), (2, 4), (10, 17), (10, 17), (10, 17), (0, 5), (6, 1), (10, 11), (1, 7), (10, 6), (10, 6), (10, 6), (10, 6), (10, 6), (11, 4), (4, 3), (10, 24)], (tk_up (tk_up S 37 0 0) 37 1 (-1)), (tk_upF F 37 2 (some 38)))) : tk_Mt mX4_init 1 24 [.ref 37] ([(7, 13), (2, 4), (10, 17), (10, 17), (10, 17), (3, 6), (10, 8), (10, 8), (10, 8), (10, 8), (10, 8), (2, 4), (10, 17), (10, 17), (10, 17), (3, 6), (10, 8), (10, 8), (10, 8), (10, 8), (10, 8), (5, 3), (9, 160), (2, 4), (10, 17), (10, 17), (10, 17), (0, 5), (6, 1), (10, 11), (1, 7), (10, 6), (10, 6), (10, 6), (10, 6), (10, 6), (11, 4), (4, 3)], S, F) Q := by
  refine tk_Mt.of (ls := [.ref 37]) (by decide) (Or.inl rfl) (Nat.le_of_ble_eq_true rfl) rfl ?_
  refine g_aload_n dX4_init_0 rfl ?_
  refine g_objInit dX4_init_1 ml_X4_3 (by decide) (Nat.le_of_ble_eq_true rfl) ?_
  refine g_aload_n dX4_init_4 rfl ?_
  refine g_iconst (v := 0) dX4_init_5 (by decide) ?_
  refine g_putI (n := 3) dX4_init_6 fl_X4_9 rfl (by decide) (by decide) rfl rfl rfl ?_
  refine g_aload_n dX4_init_9 rfl ?_
  refine g_iconst (v := (-1)) dX4_init_10 (by decide) ?_
  refine g_putI (n := 3) dX4_init_11 fl_X4_15 rfl (by decide) (by decide) rfl rfl rfl ?_
  refine g_aload_n dX4_init_14 rfl ?_
  refine g_bipush (v := 24) dX4_init_15 (by decide) ?_
  refine g_newI (a := 0) (b := 0) (k := 24) (N := 38) dX4_init_17 (by decide) rfl (by decide) rfl (by decide) (by repeat (first | exact hw.mono (by decide) | exact tk_Fw.none | refine tk_Fw.up (by decide) ?_)) (by decide) (tk_Sz.here (by repeat (first | exact hS.mono (by decide) | exact tk_Sz.zero | refine tk_Sz.up (by decide) ?_))) ?_
  refine g_putRF (n := 3) dX4_init_19 fl_X4_18 (fun q h => by cases h; rfl) rfl rfl (by decide) (by decide) rfl (fun _ => rfl) (fun _ => rfl) ?_
  exact g_vret (st := []) dX4_init_22 rfl ⟨trivial, q⟩
theorem in_X4_39 {S : tS} {F : tF} {Q : Int32 → tH → Prop} (hS : tk_Sz 40 S) (hF : tk_Fz 40 F) (hw : tk_Fw 40 F) (q : Q 0 ([(7, 13), (2, 4), (10, 17), (10, 17), (10, 17), (3, 6), (10, 8), (10, 8), (10, 8), (10, 8), (10, 8), (2, 4), (10, 17), (10, 17), (10, 17), (3, 6), (10, 8), (10, 8), (10, 8), (10, 8), (10, 8), (5, 3), (9, 160), (2, 4), (10, 17), (10, 17), (10, 17), (0, 5), (6, 1), (10, 11), (1, 7), (10, 6), (10, 6), (10, 6), (10, 6), (10, 6), (11, 4), (4, 3), (10, 24), (4, 3), (10, 24)], (tk_up (tk_up S 39 0 0) 39 1 (-1)), (tk_upF F 39 2 (some 40)))) : tk_Mt mX4_init 1 24 [.ref 39] ([(7, 13), (2, 4), (10, 17), (10, 17), (10, 17), (3, 6), (10, 8), (10, 8), (10, 8), (10, 8), (10, 8), (2, 4), (10, 17), (10, 17), (10, 17), (3, 6), (10, 8), (10, 8), (10, 8), (10, 8), (10, 8), (5, 3), (9, 160), (2, 4), (10, 17), (10, 17), (10, 17), (0, 5), (6, 1), (10, 11), (1, 7), (10, 6), (10, 6), (10, 6), (10, 6), (10, 6), (11, 4), (4, 3), (10, 24), (4, 3)], S, F) Q := by
  refine tk_Mt.of (ls := [.ref 39]) (by decide) (Or.inl rfl) (Nat.le_of_ble_eq_true rfl) rfl ?_
  refine g_aload_n dX4_init_0 rfl ?_
  refine g_objInit dX4_init_1 ml_X4_3 (by decide) (Nat.le_of_ble_eq_true rfl) ?_
  refine g_aload_n dX4_init_4 rfl ?_
  refine g_iconst (v := 0) dX4_init_5 (by decide) ?_
  refine g_putI (n := 3) dX4_init_6 fl_X4_9 rfl (by decide) (by decide) rfl rfl rfl ?_
  refine g_aload_n dX4_init_9 rfl ?_
  refine g_iconst (v := (-1)) dX4_init_10 (by decide) ?_
  refine g_putI (n := 3) dX4_init_11 fl_X4_15 rfl (by decide) (by decide) rfl rfl rfl ?_
  refine g_aload_n dX4_init_14 rfl ?_
  refine g_bipush (v := 24) dX4_init_15 (by decide) ?_
  refine g_newI (a := 0) (b := 0) (k := 24) (N := 40) dX4_init_17 (by decide) rfl (by decide) rfl (by decide) (by repeat (first | exact hw.mono (by decide) | exact tk_Fw.none | refine tk_Fw.up (by decide) ?_)) (by decide) (tk_Sz.here (by repeat (first | exact hS.mono (by decide) | exact tk_Sz.zero | refine tk_Sz.up (by decide) ?_))) ?_
  refine g_putRF (n := 3) dX4_init_19 fl_X4_18 (fun q h => by cases h; rfl) rfl rfl (by decide) (by decide) rfl (fun _ => rfl) (fun _ => rfl) ?_
  exact g_vret (st := []) dX4_init_22 rfl ⟨trivial, q⟩
theorem in_X4_41 {S : tS} {F : tF} {Q : Int32 → tH → Prop} (hS : tk_Sz 42 S) (hF : tk_Fz 42 F) (hw : tk_Fw 42 F) (q : Q 0 ([(7, 13), (2, 4), (10, 17), (10, 17), (10, 17), (3, 6), (10, 8), (10, 8), (10, 8), (10, 8), (10, 8), (2, 4), (10, 17), (10, 17), (10, 17), (3, 6), (10, 8), (10, 8), (10, 8), (10, 8), (10, 8), (5, 3), (9, 160), (2, 4), (10, 17), (10, 17), (10, 17), (0, 5), (6, 1), (10, 11), (1, 7), (10, 6), (10, 6), (10, 6), (10, 6), (10, 6), (11, 4), (4, 3), (10, 24), (4, 3), (10, 24), (4, 3), (10, 24)], (tk_up (tk_up S 41 0 0) 41 1 (-1)), (tk_upF F 41 2 (some 42)))) : tk_Mt mX4_init 1 24 [.ref 41] ([(7, 13), (2, 4), (10, 17), (10, 17), (10, 17), (3, 6), (10, 8), (10, 8), (10, 8), (10, 8), (10, 8), (2, 4), (10, 17), (10, 17), (10, 17), (3, 6), (10, 8), (10, 8), (10, 8), (10, 8), (10, 8), (5, 3), (9, 160), (2, 4), (10, 17), (10, 17), (10, 17), (0, 5), (6, 1), (10, 11), (1, 7), (10, 6), (10, 6), (10, 6), (10, 6), (10, 6), (11, 4), (4, 3), (10, 24), (4, 3), (10, 24), (4, 3)], S, F) Q := by
  refine tk_Mt.of (ls := [.ref 41]) (by decide) (Or.inl rfl) (Nat.le_of_ble_eq_true rfl) rfl ?_
  refine g_aload_n dX4_init_0 rfl ?_
  refine g_objInit dX4_init_1 ml_X4_3 (by decide) (Nat.le_of_ble_eq_true rfl) ?_
  refine g_aload_n dX4_init_4 rfl ?_
  refine g_iconst (v := 0) dX4_init_5 (by decide) ?_
  refine g_putI (n := 3) dX4_init_6 fl_X4_9 rfl (by decide) (by decide) rfl rfl rfl ?_
  refine g_aload_n dX4_init_9 rfl ?_
  refine g_iconst (v := (-1)) dX4_init_10 (by decide) ?_
  refine g_putI (n := 3) dX4_init_11 fl_X4_15 rfl (by decide) (by decide) rfl rfl rfl ?_
  refine g_aload_n dX4_init_14 rfl ?_
  refine g_bipush (v := 24) dX4_init_15 (by decide) ?_
  refine g_newI (a := 0) (b := 0) (k := 24) (N := 42) dX4_init_17 (by decide) rfl (by decide) rfl (by decide) (by repeat (first | exact hw.mono (by decide) | exact tk_Fw.none | refine tk_Fw.up (by decide) ?_)) (by decide) (tk_Sz.here (by repeat (first | exact hS.mono (by decide) | exact tk_Sz.zero | refine tk_Sz.up (by decide) ?_))) ?_
  refine g_putRF (n := 3) dX4_init_19 fl_X4_18 (fun q h => by cases h; rfl) rfl rfl (by decide) (by decide) rfl (fun _ => rfl) (fun _ => rfl) ?_
  exact g_vret (st := []) dX4_init_22 rfl ⟨trivial, q⟩
theorem in_X4_43 {S : tS} {F : tF} {Q : Int32 → tH → Prop} (hS : tk_Sz 44 S) (hF : tk_Fz 44 F) (hw : tk_Fw 44 F) (q : Q 0 ([(7, 13), (2, 4), (10, 17), (10, 17), (10, 17), (3, 6), (10, 8), (10, 8), (10, 8), (10, 8), (10, 8), (2, 4), (10, 17), (10, 17), (10, 17), (3, 6), (10, 8), (10, 8), (10, 8), (10, 8), (10, 8), (5, 3), (9, 160), (2, 4), (10, 17), (10, 17), (10, 17), (0, 5), (6, 1), (10, 11), (1, 7), (10, 6), (10, 6), (10, 6), (10, 6), (10, 6), (11, 4), (4, 3), (10, 24), (4, 3), (10, 24), (4, 3), (10, 24), (4, 3), (10, 24)], (tk_up (tk_up S 43 0 0) 43 1 (-1)), (tk_upF F 43 2 (some 44)))) : tk_Mt mX4_init 1 24 [.ref 43] ([(7, 13), (2, 4), (10, 17), (10, 17), (10, 17), (3, 6), (10, 8), (10, 8), (10, 8), (10, 8), (10, 8), (2, 4), (10, 17), (10, 17), (10, 17), (3, 6), (10, 8), (10, 8), (10, 8), (10, 8), (10, 8), (5, 3), (9, 160), (2, 4), (10, 17), (10, 17), (10, 17), (0, 5), (6, 1), (10, 11), (1, 7), (10, 6), (10, 6), (10, 6), (10, 6), (10, 6), (11, 4), (4, 3), (10, 24), (4, 3), (10, 24), (4, 3), (10, 24), (4, 3)], S, F) Q := by
  refine tk_Mt.of (ls := [.ref 43]) (by decide) (Or.inl rfl) (Nat.le_of_ble_eq_true rfl) rfl ?_
  refine g_aload_n dX4_init_0 rfl ?_
  refine g_objInit dX4_init_1 ml_X4_3 (by decide) (Nat.le_of_ble_eq_true rfl) ?_
  refine g_aload_n dX4_init_4 rfl ?_
  refine g_iconst (v := 0) dX4_init_5 (by decide) ?_
  refine g_putI (n := 3) dX4_init_6 fl_X4_9 rfl (by decide) (by decide) rfl rfl rfl ?_
  refine g_aload_n dX4_init_9 rfl ?_
  refine g_iconst (v := (-1)) dX4_init_10 (by decide) ?_
  refine g_putI (n := 3) dX4_init_11 fl_X4_15 rfl (by decide) (by decide) rfl rfl rfl ?_
  refine g_aload_n dX4_init_14 rfl ?_
  refine g_bipush (v := 24) dX4_init_15 (by decide) ?_
  refine g_newI (a := 0) (b := 0) (k := 24) (N := 44) dX4_init_17 (by decide) rfl (by decide) rfl (by decide) (by repeat (first | exact hw.mono (by decide) | exact tk_Fw.none | refine tk_Fw.up (by decide) ?_)) (by decide) (tk_Sz.here (by repeat (first | exact hS.mono (by decide) | exact tk_Sz.zero | refine tk_Sz.up (by decide) ?_))) ?_
  refine g_putRF (n := 3) dX4_init_19 fl_X4_18 (fun q h => by cases h; rfl) rfl rfl (by decide) (by decide) rfl (fun _ => rfl) (fun _ => rfl) ?_
  exact g_vret (st := []) dX4_init_22 rfl ⟨trivial, q⟩
theorem in_X7_0 {S : tS} {F : tF} {Q : Int32 → tH → Prop} (hS : tk_Sz 1 S) (hF : tk_Fz 1 F) (hw : tk_Fw 1 F) (q : Q 0 ([(7, 13), (2, 4), (10, 17), (10, 17), (10, 17), (3, 6), (10, 8), (10, 8), (10, 8), (10, 8), (10, 8), (2, 4), (10, 17), (10, 17), (10, 17), (3, 6), (10, 8), (10, 8), (10, 8), (10, 8), (10, 8), (5, 3), (9, 160), (2, 4), (10, 17), (10, 17), (10, 17), (0, 5), (6, 1), (10, 11), (1, 7), (10, 6), (10, 6), (10, 6), (10, 6), (10, 6), (11, 4), (4, 3), (10, 24), (4, 3), (10, 24), (4, 3), (10, 24), (4, 3), (10, 24)], (tk_up (tk_up (tk_up (tk_up (tk_up (tk_up (tk_up (tk_up (tk_up (tk_up (tk_up (tk_up (tk_up (tk_up (tk_up (tk_up (tk_up (tk_up (tk_up (tk_up (tk_up (tk_up (tk_up (tk_up (tk_up (tk_up (tk_up (tk_up (tk_up (tk_up (tk_up (tk_up (tk_up (tk_up S 1 0 0) 2 16 0) 3 16 10) 4 16 8) 5 0 0) 0 2 0) 11 0 0) 12 16 0) 13 16 10) 14 16 8) 15 0 0) 0 5 0) 0 6 0) 21 0 0) 21 1 0) 23 0 0) 24 16 0) 25 16 10) 26 16 8) 27 0 0) 27 1 0) 27 2 0) 27 3 0) 27 4 0) 30 0 0) 30 1 (-1)) 37 0 0) 37 1 (-1)) 39 0 0) 39 1 (-1)) 41 0 0) 41 1 (-1)) 43 0 0) 43 1 (-1)), (tk_upF (tk_upF (tk_upF (tk_upF (tk_upF (tk_upF (tk_upF (tk_upF (tk_upF (tk_upF (tk_upF (tk_upF (tk_upF (tk_upF (tk_upF (tk_upF (tk_upF (tk_upF (tk_upF (tk_upF (tk_upF (tk_upF (tk_upF (tk_upF (tk_upF (tk_upF (tk_upF (tk_upF (tk_upF (tk_upF (tk_upF (tk_upF (tk_upF (tk_upF (tk_upF (tk_upF (tk_upF (tk_upF (tk_upF (tk_upF (tk_upF (tk_upF (tk_upF (tk_upF F 1 1 (some 2)) 1 2 (some 3)) 1 3 (some 4)) 0 0 (some 1)) 5 1 (some 6)) 5 2 (some 7)) 5 3 (some 8)) 5 4 (some 9)) 5 5 (some 10)) 0 1 (some 5)) 11 1 (some 12)) 11 2 (some 13)) 11 3 (some 14)) 0 3 (some 11)) 15 1 (some 16)) 15 2 (some 17)) 15 3 (some 18)) 15 4 (some 19)) 15 5 (some 20)) 0 4 (some 15)) 21 2 (some 22)) 0 7 (some 21)) 23 1 (some 24)) 23 2 (some 25)) 23 3 (some 26)) 0 8 (some 23)) 0 9 (some 27)) 28 0 (some 29)) 0 10 (some 28)) 30 2 (some 31)) 30 3 (some 32)) 30 4 (some 33)) 30 5 (some 34)) 30 6 (some 35)) 0 11 (some 30)) 0 12 (some 36)) 37 2 (some 38)) 36 0 (some 37)) 39 2 (some 40)) 36 1 (some 39)) 41 2 (some 42)) 36 2 (some 41)) 43 2 (some 44)) 36 3 (some 43)))) : tk_Mt mX7_init 44 586 [.ref 0] ([(7, 13)], S, F) Q := by
  refine tk_Mt.of (ls := [.ref 0, .null]) (by decide) (Or.inl rfl) (Nat.le_of_ble_eq_true rfl) rfl ?_
  refine g_aload_n dX7_init_0 rfl ?_
  refine g_objInit dX7_init_1 ml_X7_1 (by decide) (Nat.le_of_ble_eq_true rfl) ?_
  refine g_aload_n dX7_init_4 rfl ?_
  refine g_new (a := 43) (b := 582) (ci := 2) (k := 4) (N := 1) dX7_init_5 rfl (by decide) nw_X7_7 tk_lays0.2.2.1 tyX2_ok df_X2 rfl (by decide) (by repeat (first | exact hw.mono (by decide) | exact tk_Fw.none | refine tk_Fw.up (by decide) ?_)) (by decide) (tk_Sz.here (by repeat (first | exact hS.mono (by decide) | exact tk_Sz.zero | refine tk_Sz.up (by decide) ?_))) (tk_Fz.here (by repeat (first | exact hF.mono (by decide) | exact tk_Fz.zero | refine tk_Fz.up (by decide) ?_))) ?_
  refine g_dup dX7_init_8 rfl ?_
  refine g_callI (a := 40) (b := 531) (a' := 3) (b' := 51) dX7_init_9 im_X2_init.1 im_X2_init.2 rfl ml_X7_9 rfl (by decide) (Nat.le_of_ble_eq_true rfl) rfl ?_
  refine in_X2_1 (by repeat (first | exact hS.mono (by decide) | exact tk_Sz.zero | refine tk_Sz.up (by decide) ?_)) (by repeat (first | exact hF.mono (by decide) | exact tk_Fz.zero | refine tk_Fz.up (by decide) ?_)) (by repeat (first | exact hw.mono (by decide) | exact tk_Fw.none | refine tk_Fw.up (by decide) ?_)) ?_
  refine g_putRF (n := 13) dX7_init_12 fl_X7_10 (fun q h => by cases h; rfl) rfl rfl (by decide) (by decide) rfl (fun _ => rfl) (fun _ => rfl) ?_
  refine g_aload_n dX7_init_15 rfl ?_
  refine g_new (a := 39) (b := 525) (ci := 3) (k := 6) (N := 5) dX7_init_16 rfl (by decide) nw_X7_16 tk_lays0.2.2.2.1 tyX3_ok df_X3 rfl (by decide) (by repeat (first | exact hw.mono (by decide) | exact tk_Fw.none | refine tk_Fw.up (by decide) ?_)) (by decide) (tk_Sz.here (by repeat (first | exact hS.mono (by decide) | exact tk_Sz.zero | refine tk_Sz.up (by decide) ?_))) (tk_Fz.here (by repeat (first | exact hF.mono (by decide) | exact tk_Fz.zero | refine tk_Fz.up (by decide) ?_))) ?_
  refine g_dup dX7_init_19 rfl ?_
  refine g_callIN (host := RX7) (a := 34) (b := 485) (a' := 5) (b' := 40) dX7_init_20 im_X3_init.1 im_X3_init.2 rfl (fun U h => h.1) rfl (by decide) (Nat.le_of_ble_eq_true rfl) rfl ?_
  refine in_X3_5 (by repeat (first | exact hS.mono (by decide) | exact tk_Sz.zero | refine tk_Sz.up (by decide) ?_)) (by repeat (first | exact hF.mono (by decide) | exact tk_Fz.zero | refine tk_Fz.up (by decide) ?_)) (by repeat (first | exact hw.mono (by decide) | exact tk_Fw.none | refine tk_Fw.up (by decide) ?_)) ?_
  refine g_putRF (n := 13) dX7_init_23 fl_X7_19 (fun q h => by cases h; rfl) rfl rfl (by decide) (by decide) rfl (fun _ => rfl) (fun _ => rfl) ?_
  refine g_aload_n dX7_init_26 rfl ?_
  refine g_iconst (v := 0) dX7_init_27 (by decide) ?_
  refine g_putI (n := 13) dX7_init_28 fl_X7_23 rfl (by decide) (by decide) rfl rfl rfl ?_
  refine g_aload_n dX7_init_31 rfl ?_
  refine g_new (a := 33) (b := 481) (ci := 2) (k := 4) (N := 11) dX7_init_32 rfl (by decide) nw_X7_7 tk_lays0.2.2.1 tyX2_ok df_X2 rfl (by decide) (by repeat (first | exact hw.mono (by decide) | exact tk_Fw.none | refine tk_Fw.up (by decide) ?_)) (by decide) (tk_Sz.here (by repeat (first | exact hS.mono (by decide) | exact tk_Sz.zero | refine tk_Sz.up (by decide) ?_))) (tk_Fz.here (by repeat (first | exact hF.mono (by decide) | exact tk_Fz.zero | refine tk_Fz.up (by decide) ?_))) ?_
  refine g_dup dX7_init_35 rfl ?_
  refine g_callI (a := 30) (b := 430) (a' := 3) (b' := 51) dX7_init_36 im_X2_init.1 im_X2_init.2 rfl ml_X7_9 rfl (by decide) (Nat.le_of_ble_eq_true rfl) rfl ?_
  refine in_X2_11 (by repeat (first | exact hS.mono (by decide) | exact tk_Sz.zero | refine tk_Sz.up (by decide) ?_)) (by repeat (first | exact hF.mono (by decide) | exact tk_Fz.zero | refine tk_Fz.up (by decide) ?_)) (by repeat (first | exact hw.mono (by decide) | exact tk_Fw.none | refine tk_Fw.up (by decide) ?_)) ?_
  refine g_putRF (n := 13) dX7_init_39 fl_X7_27 (fun q h => by cases h; rfl) rfl rfl (by decide) (by decide) rfl (fun _ => rfl) (fun _ => rfl) ?_
  refine g_aload_n dX7_init_42 rfl ?_
  refine g_new (a := 29) (b := 424) (ci := 3) (k := 6) (N := 15) dX7_init_43 rfl (by decide) nw_X7_16 tk_lays0.2.2.2.1 tyX3_ok df_X3 rfl (by decide) (by repeat (first | exact hw.mono (by decide) | exact tk_Fw.none | refine tk_Fw.up (by decide) ?_)) (by decide) (tk_Sz.here (by repeat (first | exact hS.mono (by decide) | exact tk_Sz.zero | refine tk_Sz.up (by decide) ?_))) (tk_Fz.here (by repeat (first | exact hF.mono (by decide) | exact tk_Fz.zero | refine tk_Fz.up (by decide) ?_))) ?_
  refine g_dup dX7_init_46 rfl ?_
  refine g_callIN (host := RX7) (a := 24) (b := 384) (a' := 5) (b' := 40) dX7_init_47 im_X3_init.1 im_X3_init.2 rfl (fun U h => h.1) rfl (by decide) (Nat.le_of_ble_eq_true rfl) rfl ?_
  refine in_X3_15 (by repeat (first | exact hS.mono (by decide) | exact tk_Sz.zero | refine tk_Sz.up (by decide) ?_)) (by repeat (first | exact hF.mono (by decide) | exact tk_Fz.zero | refine tk_Fz.up (by decide) ?_)) (by repeat (first | exact hw.mono (by decide) | exact tk_Fw.none | refine tk_Fw.up (by decide) ?_)) ?_
  refine g_putRF (n := 13) dX7_init_50 fl_X7_30 (fun q h => by cases h; rfl) rfl rfl (by decide) (by decide) rfl (fun _ => rfl) (fun _ => rfl) ?_
  refine g_aload_n dX7_init_53 rfl ?_
  refine g_iconst (v := 0) dX7_init_54 (by decide) ?_
  refine g_putI (n := 13) dX7_init_55 fl_X7_33 rfl (by decide) (by decide) rfl rfl rfl ?_
  refine g_aload_n dX7_init_58 rfl ?_
  refine g_iconst (v := 0) dX7_init_59 (by decide) ?_
  refine g_putI (n := 13) dX7_init_60 fl_X7_36 rfl (by decide) (by decide) rfl rfl rfl ?_
  refine g_aload_n dX7_init_63 rfl ?_
  refine g_new (a := 23) (b := 381) (ci := 5) (k := 3) (N := 21) dX7_init_64 rfl (by decide) nw_X7_40 tk_lays0.2.2.2.2.2.1 tyX5_ok df_X5 rfl (by decide) (by repeat (first | exact hw.mono (by decide) | exact tk_Fw.none | refine tk_Fw.up (by decide) ?_)) (by decide) (tk_Sz.here (by repeat (first | exact hS.mono (by decide) | exact tk_Sz.zero | refine tk_Sz.up (by decide) ?_))) (tk_Fz.here (by repeat (first | exact hF.mono (by decide) | exact tk_Fz.zero | refine tk_Fz.up (by decide) ?_))) ?_
  refine g_dup dX7_init_67 rfl ?_
  refine g_callIN (host := RX7) (a := 22) (b := 221) (a' := 1) (b' := 160) dX7_init_68 im_X5_init.1 im_X5_init.2 rfl (fun U h => h.2.1) rfl (by decide) (Nat.le_of_ble_eq_true rfl) rfl ?_
  refine in_X5_21 (by repeat (first | exact hS.mono (by decide) | exact tk_Sz.zero | refine tk_Sz.up (by decide) ?_)) (by repeat (first | exact hF.mono (by decide) | exact tk_Fz.zero | refine tk_Fz.up (by decide) ?_)) (by repeat (first | exact hw.mono (by decide) | exact tk_Fw.none | refine tk_Fw.up (by decide) ?_)) ?_
  refine g_putRF (n := 13) dX7_init_71 fl_X7_43 (fun q h => by cases h; rfl) rfl rfl (by decide) (by decide) rfl (fun _ => rfl) (fun _ => rfl) ?_
  refine g_aload_n dX7_init_74 rfl ?_
  refine g_new (a := 21) (b := 217) (ci := 2) (k := 4) (N := 23) dX7_init_75 rfl (by decide) nw_X7_7 tk_lays0.2.2.1 tyX2_ok df_X2 rfl (by decide) (by repeat (first | exact hw.mono (by decide) | exact tk_Fw.none | refine tk_Fw.up (by decide) ?_)) (by decide) (tk_Sz.here (by repeat (first | exact hS.mono (by decide) | exact tk_Sz.zero | refine tk_Sz.up (by decide) ?_))) (tk_Fz.here (by repeat (first | exact hF.mono (by decide) | exact tk_Fz.zero | refine tk_Fz.up (by decide) ?_))) ?_
  refine g_dup dX7_init_78 rfl ?_
  refine g_callI (a := 18) (b := 166) (a' := 3) (b' := 51) dX7_init_79 im_X2_init.1 im_X2_init.2 rfl ml_X7_9 rfl (by decide) (Nat.le_of_ble_eq_true rfl) rfl ?_
  refine in_X2_23 (by repeat (first | exact hS.mono (by decide) | exact tk_Sz.zero | refine tk_Sz.up (by decide) ?_)) (by repeat (first | exact hF.mono (by decide) | exact tk_Fz.zero | refine tk_Fz.up (by decide) ?_)) (by repeat (first | exact hw.mono (by decide) | exact tk_Fw.none | refine tk_Fw.up (by decide) ?_)) ?_
  refine g_putRF (n := 13) dX7_init_82 fl_X7_47 (fun q h => by cases h; rfl) rfl rfl (by decide) (by decide) rfl (fun _ => rfl) (fun _ => rfl) ?_
  refine g_aload_n dX7_init_85 rfl ?_
  refine g_new (a := 17) (b := 161) (ci := 0) (k := 5) (N := 27) dX7_init_86 rfl (by decide) nw_X7_50 tk_lays0.1 tyX0_ok df_X0 rfl (by decide) (by repeat (first | exact hw.mono (by decide) | exact tk_Fw.none | refine tk_Fw.up (by decide) ?_)) (by decide) (tk_Sz.here (by repeat (first | exact hS.mono (by decide) | exact tk_Sz.zero | refine tk_Sz.up (by decide) ?_))) (tk_Fz.here (by repeat (first | exact hF.mono (by decide) | exact tk_Fz.zero | refine tk_Fz.up (by decide) ?_))) ?_
  refine g_dup dX7_init_89 rfl ?_
  refine g_callIN (host := RX7) (a := 17) (b := 161) (a' := 0) (b' := 0) dX7_init_90 im_X0_init.1 im_X0_init.2 rfl (fun U h => h.2.2.1) rfl (by decide) (Nat.le_of_ble_eq_true rfl) rfl ?_
  refine in_X0_27 (by repeat (first | exact hS.mono (by decide) | exact tk_Sz.zero | refine tk_Sz.up (by decide) ?_)) (by repeat (first | exact hF.mono (by decide) | exact tk_Fz.zero | refine tk_Fz.up (by decide) ?_)) (by repeat (first | exact hw.mono (by decide) | exact tk_Fw.none | refine tk_Fw.up (by decide) ?_)) ?_
  refine g_putRF (n := 13) dX7_init_93 fl_X7_53 (fun q h => by cases h; rfl) rfl rfl (by decide) (by decide) rfl (fun _ => rfl) (fun _ => rfl) ?_
  refine g_aload_n dX7_init_96 rfl ?_
  refine g_new (a := 16) (b := 160) (ci := 6) (k := 1) (N := 28) dX7_init_97 rfl (by decide) nw_X7_57 tk_lays0.2.2.2.2.2.2.1 tyX6_ok df_X6 rfl (by decide) (by repeat (first | exact hw.mono (by decide) | exact tk_Fw.none | refine tk_Fw.up (by decide) ?_)) (by decide) (tk_Sz.here (by repeat (first | exact hS.mono (by decide) | exact tk_Sz.zero | refine tk_Sz.up (by decide) ?_))) (tk_Fz.here (by repeat (first | exact hF.mono (by decide) | exact tk_Fz.zero | refine tk_Fz.up (by decide) ?_))) ?_
  refine g_dup dX7_init_100 rfl ?_
  refine g_callIN (host := RX7) (a := 15) (b := 149) (a' := 1) (b' := 11) dX7_init_101 im_X6_init.1 im_X6_init.2 rfl (fun U h => h.2.2.2.1) rfl (by decide) (Nat.le_of_ble_eq_true rfl) rfl ?_
  refine in_X6_28 (by repeat (first | exact hS.mono (by decide) | exact tk_Sz.zero | refine tk_Sz.up (by decide) ?_)) (by repeat (first | exact hF.mono (by decide) | exact tk_Fz.zero | refine tk_Fz.up (by decide) ?_)) (by repeat (first | exact hw.mono (by decide) | exact tk_Fw.none | refine tk_Fw.up (by decide) ?_)) ?_
  refine g_putRF (n := 13) dX7_init_104 fl_X7_60 (fun q h => by cases h; rfl) rfl rfl (by decide) (by decide) rfl (fun _ => rfl) (fun _ => rfl) ?_
  refine g_aload_n dX7_init_107 rfl ?_
  refine g_new (a := 14) (b := 142) (ci := 1) (k := 7) (N := 30) dX7_init_108 rfl (by decide) nw_X7_64 tk_lays0.2.1 tyX1_ok df_X1 rfl (by decide) (by repeat (first | exact hw.mono (by decide) | exact tk_Fw.none | refine tk_Fw.up (by decide) ?_)) (by decide) (tk_Sz.here (by repeat (first | exact hS.mono (by decide) | exact tk_Sz.zero | refine tk_Sz.up (by decide) ?_))) (tk_Fz.here (by repeat (first | exact hF.mono (by decide) | exact tk_Fz.zero | refine tk_Fz.up (by decide) ?_))) ?_
  refine g_dup dX7_init_111 rfl ?_
  refine g_callIN (host := RX7) (a := 9) (b := 112) (a' := 5) (b' := 30) dX7_init_112 im_X1_init.1 im_X1_init.2 rfl (fun U h => h.2.2.2.2.1) rfl (by decide) (Nat.le_of_ble_eq_true rfl) rfl ?_
  refine in_X1_30 (by repeat (first | exact hS.mono (by decide) | exact tk_Sz.zero | refine tk_Sz.up (by decide) ?_)) (by repeat (first | exact hF.mono (by decide) | exact tk_Fz.zero | refine tk_Fz.up (by decide) ?_)) (by repeat (first | exact hw.mono (by decide) | exact tk_Fw.none | refine tk_Fw.up (by decide) ?_)) ?_
  refine g_putRF (n := 13) dX7_init_115 fl_X7_67 (fun q h => by cases h; rfl) rfl rfl (by decide) (by decide) rfl (fun _ => rfl) (fun _ => rfl) ?_
  refine g_aload_n dX7_init_118 rfl ?_
  refine g_iconst (v := 4) dX7_init_119 (by decide) ?_
  refine g_newQ (a := 8) (b := 108) (k := 4) (N := 36) dX7_init_120 cl_X7_71 (by decide) rfl (by decide) rfl (by decide) (by repeat (first | exact hw.mono (by decide) | exact tk_Fw.none | refine tk_Fw.up (by decide) ?_)) (by decide) (tk_Fz.here (by repeat (first | exact hF.mono (by decide) | exact tk_Fz.zero | refine tk_Fz.up (by decide) ?_))) ?_
  refine g_putRF (n := 13) dX7_init_123 fl_X7_73 (fun q h => by cases h; rfl) rfl rfl (by decide) (by decide) rfl (fun _ => rfl) (fun _ => rfl) ?_
  refine g_iconst (v := 0) dX7_init_126 (by decide) ?_
  refine g_istore_n (ls' := [.ref 0, .int 0]) dX7_init_127 rfl (by decide) rfl ?_
  refine g_iload_n dX7_init_128 rfl ?_
  refine g_iconst (v := 4) dX7_init_129 (by decide) ?_
  refine g_icmp_ge (tgt := 152) dX7_init_130 (by decide) (fun z => absurd z (by decide)) (fun _ => ?_)
  refine g_aload_n dX7_init_133 rfl ?_
  refine g_getR (n := 13) dX7_init_134 fl_X7_73 rfl (by decide) (by decide) rfl rfl ?_
  refine g_iload_n dX7_init_137 rfl ?_
  refine g_new (a := 7) (b := 105) (ci := 4) (k := 3) (N := 37) dX7_init_138 rfl (by decide) nw_X7_71 tk_lays0.2.2.2.2.1 tyX4_ok df_X4 rfl (by decide) (by repeat (first | exact hw.mono (by decide) | exact tk_Fw.none | refine tk_Fw.up (by decide) ?_)) (by decide) (tk_Sz.here (by repeat (first | exact hS.mono (by decide) | exact tk_Sz.zero | refine tk_Sz.up (by decide) ?_))) (tk_Fz.here (by repeat (first | exact hF.mono (by decide) | exact tk_Fz.zero | refine tk_Fz.up (by decide) ?_))) ?_
  refine g_dup dX7_init_141 rfl ?_
  refine g_callIN (host := RX7) (a := 6) (b := 81) (a' := 1) (b' := 24) dX7_init_142 im_X4_init.1 im_X4_init.2 rfl (fun U h => h.2.2.2.2.2.1) rfl (by decide) (Nat.le_of_ble_eq_true rfl) rfl ?_
  refine in_X4_37 (by repeat (first | exact hS.mono (by decide) | exact tk_Sz.zero | refine tk_Sz.up (by decide) ?_)) (by repeat (first | exact hF.mono (by decide) | exact tk_Fz.zero | refine tk_Fz.up (by decide) ?_)) (by repeat (first | exact hw.mono (by decide) | exact tk_Fw.none | refine tk_Fw.up (by decide) ?_)) ?_
  refine g_aast (n := 4) (n' := 3) dX7_init_145 rfl (vin (by decide) (by decide)) rfl ?_
  refine g_iinc (v := 1) (ls' := [.ref 0, .int 1]) dX7_init_146 rfl rfl (by decide) (by decide) rfl ?_
  refine g_goto (tgt := 128) dX7_init_149 (by decide) ?_
  refine g_iload_n dX7_init_128 rfl ?_
  refine g_iconst (v := 4) dX7_init_129 (by decide) ?_
  refine g_icmp_ge (tgt := 152) dX7_init_130 (by decide) (fun z => absurd z (by decide)) (fun _ => ?_)
  refine g_aload_n dX7_init_133 rfl ?_
  refine g_getR (n := 13) dX7_init_134 fl_X7_73 rfl (by decide) (by decide) rfl rfl ?_
  refine g_iload_n dX7_init_137 rfl ?_
  refine g_new (a := 5) (b := 78) (ci := 4) (k := 3) (N := 39) dX7_init_138 rfl (by decide) nw_X7_71 tk_lays0.2.2.2.2.1 tyX4_ok df_X4 rfl (by decide) (by repeat (first | exact hw.mono (by decide) | exact tk_Fw.none | refine tk_Fw.up (by decide) ?_)) (by decide) (tk_Sz.here (by repeat (first | exact hS.mono (by decide) | exact tk_Sz.zero | refine tk_Sz.up (by decide) ?_))) (tk_Fz.here (by repeat (first | exact hF.mono (by decide) | exact tk_Fz.zero | refine tk_Fz.up (by decide) ?_))) ?_
  refine g_dup dX7_init_141 rfl ?_
  refine g_callIN (host := RX7) (a := 4) (b := 54) (a' := 1) (b' := 24) dX7_init_142 im_X4_init.1 im_X4_init.2 rfl (fun U h => h.2.2.2.2.2.1) rfl (by decide) (Nat.le_of_ble_eq_true rfl) rfl ?_
  refine in_X4_39 (by repeat (first | exact hS.mono (by decide) | exact tk_Sz.zero | refine tk_Sz.up (by decide) ?_)) (by repeat (first | exact hF.mono (by decide) | exact tk_Fz.zero | refine tk_Fz.up (by decide) ?_)) (by repeat (first | exact hw.mono (by decide) | exact tk_Fw.none | refine tk_Fw.up (by decide) ?_)) ?_
  refine g_aast (n := 4) (n' := 3) dX7_init_145 rfl (vin (by decide) (by decide)) rfl ?_
  refine g_iinc (v := 2) (ls' := [.ref 0, .int 2]) dX7_init_146 rfl rfl (by decide) (by decide) rfl ?_
  refine g_goto (tgt := 128) dX7_init_149 (by decide) ?_
  refine g_iload_n dX7_init_128 rfl ?_
  refine g_iconst (v := 4) dX7_init_129 (by decide) ?_
  refine g_icmp_ge (tgt := 152) dX7_init_130 (by decide) (fun z => absurd z (by decide)) (fun _ => ?_)
  refine g_aload_n dX7_init_133 rfl ?_
  refine g_getR (n := 13) dX7_init_134 fl_X7_73 rfl (by decide) (by decide) rfl rfl ?_
  refine g_iload_n dX7_init_137 rfl ?_
  refine g_new (a := 3) (b := 51) (ci := 4) (k := 3) (N := 41) dX7_init_138 rfl (by decide) nw_X7_71 tk_lays0.2.2.2.2.1 tyX4_ok df_X4 rfl (by decide) (by repeat (first | exact hw.mono (by decide) | exact tk_Fw.none | refine tk_Fw.up (by decide) ?_)) (by decide) (tk_Sz.here (by repeat (first | exact hS.mono (by decide) | exact tk_Sz.zero | refine tk_Sz.up (by decide) ?_))) (tk_Fz.here (by repeat (first | exact hF.mono (by decide) | exact tk_Fz.zero | refine tk_Fz.up (by decide) ?_))) ?_
  refine g_dup dX7_init_141 rfl ?_
  refine g_callIN (host := RX7) (a := 2) (b := 27) (a' := 1) (b' := 24) dX7_init_142 im_X4_init.1 im_X4_init.2 rfl (fun U h => h.2.2.2.2.2.1) rfl (by decide) (Nat.le_of_ble_eq_true rfl) rfl ?_
  refine in_X4_41 (by repeat (first | exact hS.mono (by decide) | exact tk_Sz.zero | refine tk_Sz.up (by decide) ?_)) (by repeat (first | exact hF.mono (by decide) | exact tk_Fz.zero | refine tk_Fz.up (by decide) ?_)) (by repeat (first | exact hw.mono (by decide) | exact tk_Fw.none | refine tk_Fw.up (by decide) ?_)) ?_
  refine g_aast (n := 4) (n' := 3) dX7_init_145 rfl (vin (by decide) (by decide)) rfl ?_
  refine g_iinc (v := 3) (ls' := [.ref 0, .int 3]) dX7_init_146 rfl rfl (by decide) (by decide) rfl ?_
  refine g_goto (tgt := 128) dX7_init_149 (by decide) ?_
  refine g_iload_n dX7_init_128 rfl ?_
  refine g_iconst (v := 4) dX7_init_129 (by decide) ?_
  refine g_icmp_ge (tgt := 152) dX7_init_130 (by decide) (fun z => absurd z (by decide)) (fun _ => ?_)
  refine g_aload_n dX7_init_133 rfl ?_
  refine g_getR (n := 13) dX7_init_134 fl_X7_73 rfl (by decide) (by decide) rfl rfl ?_
  refine g_iload_n dX7_init_137 rfl ?_
  refine g_new (a := 1) (b := 24) (ci := 4) (k := 3) (N := 43) dX7_init_138 rfl (by decide) nw_X7_71 tk_lays0.2.2.2.2.1 tyX4_ok df_X4 rfl (by decide) (by repeat (first | exact hw.mono (by decide) | exact tk_Fw.none | refine tk_Fw.up (by decide) ?_)) (by decide) (tk_Sz.here (by repeat (first | exact hS.mono (by decide) | exact tk_Sz.zero | refine tk_Sz.up (by decide) ?_))) (tk_Fz.here (by repeat (first | exact hF.mono (by decide) | exact tk_Fz.zero | refine tk_Fz.up (by decide) ?_))) ?_
  refine g_dup dX7_init_141 rfl ?_
  refine g_callIN (host := RX7) (a := 0) (b := 0) (a' := 1) (b' := 24) dX7_init_142 im_X4_init.1 im_X4_init.2 rfl (fun U h => h.2.2.2.2.2.1) rfl (by decide) (Nat.le_of_ble_eq_true rfl) rfl ?_
  refine in_X4_43 (by repeat (first | exact hS.mono (by decide) | exact tk_Sz.zero | refine tk_Sz.up (by decide) ?_)) (by repeat (first | exact hF.mono (by decide) | exact tk_Fz.zero | refine tk_Fz.up (by decide) ?_)) (by repeat (first | exact hw.mono (by decide) | exact tk_Fw.none | refine tk_Fw.up (by decide) ?_)) ?_
  refine g_aast (n := 4) (n' := 3) dX7_init_145 rfl (vin (by decide) (by decide)) rfl ?_
  refine g_iinc (v := 4) (ls' := [.ref 0, .int 4]) dX7_init_146 rfl rfl (by decide) (by decide) rfl ?_
  refine g_goto (tgt := 128) dX7_init_149 (by decide) ?_
  refine g_iload_n dX7_init_128 rfl ?_
  refine g_iconst (v := 4) dX7_init_129 (by decide) ?_
  refine g_icmp_ge (tgt := 152) dX7_init_130 (by decide) (fun _ => ?_) (fun z => absurd (by decide) z)
  exact g_vret (st := []) dX7_init_152 rfl ⟨trivial, q⟩
theorem in_X8_45 {S : tS} {F : tF} {Q : Int32 → tH → Prop} (hS : tk_Sz 46 S) (hF : tk_Fz 46 F) (hw : tk_Fw 46 F) (q : Q 0 ([(7, 13), (2, 4), (10, 17), (10, 17), (10, 17), (3, 6), (10, 8), (10, 8), (10, 8), (10, 8), (10, 8), (2, 4), (10, 17), (10, 17), (10, 17), (3, 6), (10, 8), (10, 8), (10, 8), (10, 8), (10, 8), (5, 3), (9, 160), (2, 4), (10, 17), (10, 17), (10, 17), (0, 5), (6, 1), (10, 11), (1, 7), (10, 6), (10, 6), (10, 6), (10, 6), (10, 6), (11, 4), (4, 3), (10, 24), (4, 3), (10, 24), (4, 3), (10, 24), (4, 3), (10, 24), (8, 25), (10, 17), (10, 17), (10, 17), (10, 8), (10, 8), (10, 8), (10, 8), (10, 8), (10, 160), (10, 400), (10, 11), (10, 91), (10, 4), (10, 4), (10, 96), (10, 6), (10, 6), (10, 24)], (tk_up (tk_up (tk_up (tk_up (tk_up (tk_up S 58 0 (-1)) 58 1 (-1)) 58 2 (-1)) 58 3 (-1)) 47 16 10) 48 16 8), (tk_upF (tk_upF (tk_upF (tk_upF (tk_upF (tk_upF (tk_upF (tk_upF (tk_upF (tk_upF (tk_upF (tk_upF (tk_upF (tk_upF (tk_upF (tk_upF (tk_upF (tk_upF F 45 0 (some 46)) 45 1 (some 47)) 45 2 (some 48)) 45 4 (some 49)) 45 5 (some 50)) 45 6 (some 51)) 45 7 (some 52)) 45 8 (some 53)) 45 11 (some 54)) 45 15 (some 55)) 45 16 (some 56)) 45 18 (some 57)) 45 19 (some 58)) 45 20 (some 59)) 45 21 (some 60)) 45 22 (some 61)) 45 23 (some 62)) 45 24 (some 63)))) : tk_Mt mX8_init 18 893 [.ref 45] ([(7, 13), (2, 4), (10, 17), (10, 17), (10, 17), (3, 6), (10, 8), (10, 8), (10, 8), (10, 8), (10, 8), (2, 4), (10, 17), (10, 17), (10, 17), (3, 6), (10, 8), (10, 8), (10, 8), (10, 8), (10, 8), (5, 3), (9, 160), (2, 4), (10, 17), (10, 17), (10, 17), (0, 5), (6, 1), (10, 11), (1, 7), (10, 6), (10, 6), (10, 6), (10, 6), (10, 6), (11, 4), (4, 3), (10, 24), (4, 3), (10, 24), (4, 3), (10, 24), (4, 3), (10, 24), (8, 25)], S, F) Q := by
  refine tk_Mt.of (ls := [.ref 45, .null]) (by decide) (Or.inl rfl) (Nat.le_of_ble_eq_true rfl) rfl ?_
  refine g_aload_n dX8_init_0 rfl ?_
  refine g_objInit dX8_init_1 ml_X8_1 (by decide) (Nat.le_of_ble_eq_true rfl) ?_
  refine g_aload_n dX8_init_4 rfl ?_
  refine g_bipush (v := 17) dX8_init_5 (by decide) ?_
  refine g_newI (a := 17) (b := 876) (k := 17) (N := 46) dX8_init_7 (by decide) rfl (by decide) rfl (by decide) (by repeat (first | exact hw.mono (by decide) | exact tk_Fw.none | refine tk_Fw.up (by decide) ?_)) (by decide) (tk_Sz.here (by repeat (first | exact hS.mono (by decide) | exact tk_Sz.zero | refine tk_Sz.up (by decide) ?_))) ?_
  refine g_putRF (n := 25) dX8_init_9 fl_X8_7 (fun q h => by cases h; rfl) rfl rfl (by decide) (by decide) rfl (fun _ => rfl) (fun _ => rfl) ?_
  refine g_aload_n dX8_init_12 rfl ?_
  refine g_bipush (v := 17) dX8_init_13 (by decide) ?_
  refine g_newI (a := 16) (b := 859) (k := 17) (N := 47) dX8_init_15 (by decide) rfl (by decide) rfl (by decide) (by repeat (first | exact hw.mono (by decide) | exact tk_Fw.none | refine tk_Fw.up (by decide) ?_)) (by decide) (tk_Sz.here (by repeat (first | exact hS.mono (by decide) | exact tk_Sz.zero | refine tk_Sz.up (by decide) ?_))) ?_
  refine g_putRF (n := 25) dX8_init_17 fl_X8_13 (fun q h => by cases h; rfl) rfl rfl (by decide) (by decide) rfl (fun _ => rfl) (fun _ => rfl) ?_
  refine g_aload_n dX8_init_20 rfl ?_
  refine g_bipush (v := 17) dX8_init_21 (by decide) ?_
  refine g_newI (a := 15) (b := 842) (k := 17) (N := 48) dX8_init_23 (by decide) rfl (by decide) rfl (by decide) (by repeat (first | exact hw.mono (by decide) | exact tk_Fw.none | refine tk_Fw.up (by decide) ?_)) (by decide) (tk_Sz.here (by repeat (first | exact hS.mono (by decide) | exact tk_Sz.zero | refine tk_Sz.up (by decide) ?_))) ?_
  refine g_putRF (n := 25) dX8_init_25 fl_X8_16 (fun q h => by cases h; rfl) rfl rfl (by decide) (by decide) rfl (fun _ => rfl) (fun _ => rfl) ?_
  refine g_aload_n dX8_init_28 rfl ?_
  refine g_bipush (v := 8) dX8_init_29 (by decide) ?_
  refine g_newI (a := 14) (b := 834) (k := 8) (N := 49) dX8_init_31 (by decide) rfl (by decide) rfl (by decide) (by repeat (first | exact hw.mono (by decide) | exact tk_Fw.none | refine tk_Fw.up (by decide) ?_)) (by decide) (tk_Sz.here (by repeat (first | exact hS.mono (by decide) | exact tk_Sz.zero | refine tk_Sz.up (by decide) ?_))) ?_
  refine g_putRF (n := 25) dX8_init_33 fl_X8_19 (fun q h => by cases h; rfl) rfl rfl (by decide) (by decide) rfl (fun _ => rfl) (fun _ => rfl) ?_
  refine g_aload_n dX8_init_36 rfl ?_
  refine g_bipush (v := 8) dX8_init_37 (by decide) ?_
  refine g_newI (a := 13) (b := 826) (k := 8) (N := 50) dX8_init_39 (by decide) rfl (by decide) rfl (by decide) (by repeat (first | exact hw.mono (by decide) | exact tk_Fw.none | refine tk_Fw.up (by decide) ?_)) (by decide) (tk_Sz.here (by repeat (first | exact hS.mono (by decide) | exact tk_Sz.zero | refine tk_Sz.up (by decide) ?_))) ?_
  refine g_putRF (n := 25) dX8_init_41 fl_X8_22 (fun q h => by cases h; rfl) rfl rfl (by decide) (by decide) rfl (fun _ => rfl) (fun _ => rfl) ?_
  refine g_aload_n dX8_init_44 rfl ?_
  refine g_bipush (v := 8) dX8_init_45 (by decide) ?_
  refine g_newI (a := 12) (b := 818) (k := 8) (N := 51) dX8_init_47 (by decide) rfl (by decide) rfl (by decide) (by repeat (first | exact hw.mono (by decide) | exact tk_Fw.none | refine tk_Fw.up (by decide) ?_)) (by decide) (tk_Sz.here (by repeat (first | exact hS.mono (by decide) | exact tk_Sz.zero | refine tk_Sz.up (by decide) ?_))) ?_
  refine g_putRF (n := 25) dX8_init_49 fl_X8_25 (fun q h => by cases h; rfl) rfl rfl (by decide) (by decide) rfl (fun _ => rfl) (fun _ => rfl) ?_
  refine g_aload_n dX8_init_52 rfl ?_
  refine g_bipush (v := 8) dX8_init_53 (by decide) ?_
  refine g_newI (a := 11) (b := 810) (k := 8) (N := 52) dX8_init_55 (by decide) rfl (by decide) rfl (by decide) (by repeat (first | exact hw.mono (by decide) | exact tk_Fw.none | refine tk_Fw.up (by decide) ?_)) (by decide) (tk_Sz.here (by repeat (first | exact hS.mono (by decide) | exact tk_Sz.zero | refine tk_Sz.up (by decide) ?_))) ?_
  refine g_putRF (n := 25) dX8_init_57 fl_X8_28 (fun q h => by cases h; rfl) rfl rfl (by decide) (by decide) rfl (fun _ => rfl) (fun _ => rfl) ?_
  refine g_aload_n dX8_init_60 rfl ?_
  refine g_bipush (v := 8) dX8_init_61 (by decide) ?_
  refine g_newI (a := 10) (b := 802) (k := 8) (N := 53) dX8_init_63 (by decide) rfl (by decide) rfl (by decide) (by repeat (first | exact hw.mono (by decide) | exact tk_Fw.none | refine tk_Fw.up (by decide) ?_)) (by decide) (tk_Sz.here (by repeat (first | exact hS.mono (by decide) | exact tk_Sz.zero | refine tk_Sz.up (by decide) ?_))) ?_
  refine g_putRF (n := 25) dX8_init_65 fl_X8_31 (fun q h => by cases h; rfl) rfl rfl (by decide) (by decide) rfl (fun _ => rfl) (fun _ => rfl) ?_
  refine g_aload_n dX8_init_68 rfl ?_
  refine g_sipush (v := 160) dX8_init_69 (by decide) ?_
  refine g_newI (a := 9) (b := 642) (k := 160) (N := 54) dX8_init_72 (by decide) rfl (by decide) rfl (by decide) (by repeat (first | exact hw.mono (by decide) | exact tk_Fw.none | refine tk_Fw.up (by decide) ?_)) (by decide) (tk_Sz.here (by repeat (first | exact hS.mono (by decide) | exact tk_Sz.zero | refine tk_Sz.up (by decide) ?_))) ?_
  refine g_putRF (n := 25) dX8_init_74 fl_X8_34 (fun q h => by cases h; rfl) rfl rfl (by decide) (by decide) rfl (fun _ => rfl) (fun _ => rfl) ?_
  refine g_aload_n dX8_init_77 rfl ?_
  refine g_sipush (v := 400) dX8_init_78 (by decide) ?_
  refine g_newI (a := 8) (b := 242) (k := 400) (N := 55) dX8_init_81 (by decide) rfl (by decide) rfl (by decide) (by repeat (first | exact hw.mono (by decide) | exact tk_Fw.none | refine tk_Fw.up (by decide) ?_)) (by decide) (tk_Sz.here (by repeat (first | exact hS.mono (by decide) | exact tk_Sz.zero | refine tk_Sz.up (by decide) ?_))) ?_
  refine g_putRF (n := 25) dX8_init_83 fl_X8_37 (fun q h => by cases h; rfl) rfl rfl (by decide) (by decide) rfl (fun _ => rfl) (fun _ => rfl) ?_
  refine g_aload_n dX8_init_86 rfl ?_
  refine g_bipush (v := 11) dX8_init_87 (by decide) ?_
  refine g_newI (a := 7) (b := 231) (k := 11) (N := 56) dX8_init_89 (by decide) rfl (by decide) rfl (by decide) (by repeat (first | exact hw.mono (by decide) | exact tk_Fw.none | refine tk_Fw.up (by decide) ?_)) (by decide) (tk_Sz.here (by repeat (first | exact hS.mono (by decide) | exact tk_Sz.zero | refine tk_Sz.up (by decide) ?_))) ?_
  refine g_putRF (n := 25) dX8_init_91 fl_X8_40 (fun q h => by cases h; rfl) rfl rfl (by decide) (by decide) rfl (fun _ => rfl) (fun _ => rfl) ?_
  refine g_aload_n dX8_init_94 rfl ?_
  refine g_bipush (v := 91) dX8_init_95 (by decide) ?_
  refine g_newI (a := 6) (b := 140) (k := 91) (N := 57) dX8_init_97 (by decide) rfl (by decide) rfl (by decide) (by repeat (first | exact hw.mono (by decide) | exact tk_Fw.none | refine tk_Fw.up (by decide) ?_)) (by decide) (tk_Sz.here (by repeat (first | exact hS.mono (by decide) | exact tk_Sz.zero | refine tk_Sz.up (by decide) ?_))) ?_
  refine g_putRF (n := 25) dX8_init_99 fl_X8_43 (fun q h => by cases h; rfl) rfl rfl (by decide) (by decide) rfl (fun _ => rfl) (fun _ => rfl) ?_
  refine g_aload_n dX8_init_102 rfl ?_
  refine g_iconst (v := 4) dX8_init_103 (by decide) ?_
  refine g_newI (a := 5) (b := 136) (k := 4) (N := 58) dX8_init_104 (by decide) rfl (by decide) rfl (by decide) (by repeat (first | exact hw.mono (by decide) | exact tk_Fw.none | refine tk_Fw.up (by decide) ?_)) (by decide) (tk_Sz.here (by repeat (first | exact hS.mono (by decide) | exact tk_Sz.zero | refine tk_Sz.up (by decide) ?_))) ?_
  refine g_putRF (n := 25) dX8_init_106 fl_X8_46 (fun q h => by cases h; rfl) rfl rfl (by decide) (by decide) rfl (fun _ => rfl) (fun _ => rfl) ?_
  refine g_aload_n dX8_init_109 rfl ?_
  refine g_iconst (v := 4) dX8_init_110 (by decide) ?_
  refine g_newI (a := 4) (b := 132) (k := 4) (N := 59) dX8_init_111 (by decide) rfl (by decide) rfl (by decide) (by repeat (first | exact hw.mono (by decide) | exact tk_Fw.none | refine tk_Fw.up (by decide) ?_)) (by decide) (tk_Sz.here (by repeat (first | exact hS.mono (by decide) | exact tk_Sz.zero | refine tk_Sz.up (by decide) ?_))) ?_
  refine g_putRF (n := 25) dX8_init_113 fl_X8_49 (fun q h => by cases h; rfl) rfl rfl (by decide) (by decide) rfl (fun _ => rfl) (fun _ => rfl) ?_
  refine g_aload_n dX8_init_116 rfl ?_
  refine g_bipush (v := 96) dX8_init_117 (by decide) ?_
  refine g_newI (a := 3) (b := 36) (k := 96) (N := 60) dX8_init_119 (by decide) rfl (by decide) rfl (by decide) (by repeat (first | exact hw.mono (by decide) | exact tk_Fw.none | refine tk_Fw.up (by decide) ?_)) (by decide) (tk_Sz.here (by repeat (first | exact hS.mono (by decide) | exact tk_Sz.zero | refine tk_Sz.up (by decide) ?_))) ?_
  refine g_putRF (n := 25) dX8_init_121 fl_X8_52 (fun q h => by cases h; rfl) rfl rfl (by decide) (by decide) rfl (fun _ => rfl) (fun _ => rfl) ?_
  refine g_aload_n dX8_init_124 rfl ?_
  refine g_bipush (v := 6) dX8_init_125 (by decide) ?_
  refine g_newI (a := 2) (b := 30) (k := 6) (N := 61) dX8_init_127 (by decide) rfl (by decide) rfl (by decide) (by repeat (first | exact hw.mono (by decide) | exact tk_Fw.none | refine tk_Fw.up (by decide) ?_)) (by decide) (tk_Sz.here (by repeat (first | exact hS.mono (by decide) | exact tk_Sz.zero | refine tk_Sz.up (by decide) ?_))) ?_
  refine g_putRF (n := 25) dX8_init_129 fl_X8_55 (fun q h => by cases h; rfl) rfl rfl (by decide) (by decide) rfl (fun _ => rfl) (fun _ => rfl) ?_
  refine g_aload_n dX8_init_132 rfl ?_
  refine g_bipush (v := 6) dX8_init_133 (by decide) ?_
  refine g_newI (a := 1) (b := 24) (k := 6) (N := 62) dX8_init_135 (by decide) rfl (by decide) rfl (by decide) (by repeat (first | exact hw.mono (by decide) | exact tk_Fw.none | refine tk_Fw.up (by decide) ?_)) (by decide) (tk_Sz.here (by repeat (first | exact hS.mono (by decide) | exact tk_Sz.zero | refine tk_Sz.up (by decide) ?_))) ?_
  refine g_putRF (n := 25) dX8_init_137 fl_X8_58 (fun q h => by cases h; rfl) rfl rfl (by decide) (by decide) rfl (fun _ => rfl) (fun _ => rfl) ?_
  refine g_aload_n dX8_init_140 rfl ?_
  refine g_bipush (v := 24) dX8_init_141 (by decide) ?_
  refine g_newI (a := 0) (b := 0) (k := 24) (N := 63) dX8_init_143 (by decide) rfl (by decide) rfl (by decide) (by repeat (first | exact hw.mono (by decide) | exact tk_Fw.none | refine tk_Fw.up (by decide) ?_)) (by decide) (tk_Sz.here (by repeat (first | exact hS.mono (by decide) | exact tk_Sz.zero | refine tk_Sz.up (by decide) ?_))) ?_
  refine g_putRF (n := 25) dX8_init_145 fl_X8_61 (fun q h => by cases h; rfl) rfl rfl (by decide) (by decide) rfl (fun _ => rfl) (fun _ => rfl) ?_
  refine g_iconst (v := 0) dX8_init_148 (by decide) ?_
  refine g_istore_n (ls' := [.ref 45, .int 0]) dX8_init_149 rfl (by decide) rfl ?_
  refine g_iload_n dX8_init_150 rfl ?_
  refine g_iconst (v := 4) dX8_init_151 (by decide) ?_
  refine g_icmp_ge (tgt := 168) dX8_init_152 (by decide) (fun z => absurd z (by decide)) (fun _ => ?_)
  refine g_aload_n dX8_init_155 rfl ?_
  refine g_getR (n := 25) dX8_init_156 fl_X8_46 rfl (by decide) (by decide) rfl rfl ?_
  refine g_iload_n dX8_init_159 rfl ?_
  refine g_iconst (v := (-1)) dX8_init_160 (by decide) ?_
  refine g_iast (n := 4) dX8_init_161 rfl (vin (by decide) (by decide)) ?_
  refine g_iinc (v := 1) (ls' := [.ref 45, .int 1]) dX8_init_162 rfl rfl (by decide) (by decide) rfl ?_
  refine g_goto (tgt := 150) dX8_init_165 (by decide) ?_
  refine g_iload_n dX8_init_150 rfl ?_
  refine g_iconst (v := 4) dX8_init_151 (by decide) ?_
  refine g_icmp_ge (tgt := 168) dX8_init_152 (by decide) (fun z => absurd z (by decide)) (fun _ => ?_)
  refine g_aload_n dX8_init_155 rfl ?_
  refine g_getR (n := 25) dX8_init_156 fl_X8_46 rfl (by decide) (by decide) rfl rfl ?_
  refine g_iload_n dX8_init_159 rfl ?_
  refine g_iconst (v := (-1)) dX8_init_160 (by decide) ?_
  refine g_iast (n := 4) dX8_init_161 rfl (vin (by decide) (by decide)) ?_
  refine g_iinc (v := 2) (ls' := [.ref 45, .int 2]) dX8_init_162 rfl rfl (by decide) (by decide) rfl ?_
  refine g_goto (tgt := 150) dX8_init_165 (by decide) ?_
  refine g_iload_n dX8_init_150 rfl ?_
  refine g_iconst (v := 4) dX8_init_151 (by decide) ?_
  refine g_icmp_ge (tgt := 168) dX8_init_152 (by decide) (fun z => absurd z (by decide)) (fun _ => ?_)
  refine g_aload_n dX8_init_155 rfl ?_
  refine g_getR (n := 25) dX8_init_156 fl_X8_46 rfl (by decide) (by decide) rfl rfl ?_
  refine g_iload_n dX8_init_159 rfl ?_
  refine g_iconst (v := (-1)) dX8_init_160 (by decide) ?_
  refine g_iast (n := 4) dX8_init_161 rfl (vin (by decide) (by decide)) ?_
  refine g_iinc (v := 3) (ls' := [.ref 45, .int 3]) dX8_init_162 rfl rfl (by decide) (by decide) rfl ?_
  refine g_goto (tgt := 150) dX8_init_165 (by decide) ?_
  refine g_iload_n dX8_init_150 rfl ?_
  refine g_iconst (v := 4) dX8_init_151 (by decide) ?_
  refine g_icmp_ge (tgt := 168) dX8_init_152 (by decide) (fun z => absurd z (by decide)) (fun _ => ?_)
  refine g_aload_n dX8_init_155 rfl ?_
  refine g_getR (n := 25) dX8_init_156 fl_X8_46 rfl (by decide) (by decide) rfl rfl ?_
  refine g_iload_n dX8_init_159 rfl ?_
  refine g_iconst (v := (-1)) dX8_init_160 (by decide) ?_
  refine g_iast (n := 4) dX8_init_161 rfl (vin (by decide) (by decide)) ?_
  refine g_iinc (v := 4) (ls' := [.ref 45, .int 4]) dX8_init_162 rfl rfl (by decide) (by decide) rfl ?_
  refine g_goto (tgt := 150) dX8_init_165 (by decide) ?_
  refine g_iload_n dX8_init_150 rfl ?_
  refine g_iconst (v := 4) dX8_init_151 (by decide) ?_
  refine g_icmp_ge (tgt := 168) dX8_init_152 (by decide) (fun _ => ?_) (fun z => absurd (by decide) z)
  refine g_aload_n dX8_init_168 rfl ?_
  refine g_getR (n := 25) dX8_init_169 fl_X8_13 rfl (by decide) (by decide) rfl rfl ?_
  refine g_bipush (v := 16) dX8_init_172 (by decide) ?_
  refine g_bipush (v := 10) dX8_init_174 (by decide) ?_
  refine g_iast (n := 17) dX8_init_176 rfl (vin (by decide) (by decide)) ?_
  refine g_aload_n dX8_init_177 rfl ?_
  refine g_getR (n := 25) dX8_init_178 fl_X8_16 rfl (by decide) (by decide) rfl rfl ?_
  refine g_bipush (v := 16) dX8_init_181 (by decide) ?_
  refine g_bipush (v := 8) dX8_init_183 (by decide) ?_
  refine g_iast (n := 17) dX8_init_185 rfl (vin (by decide) (by decide)) ?_
  exact g_vret (st := []) dX8_init_186 rfl ⟨trivial, q⟩
