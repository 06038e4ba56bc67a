theorem w_X7_door {Q : Int32 → tS → Prop} {S : tS} (p1 : Int32) (p2 : Int32) (p3 : Int32) (t : (tk_Ms mX7_isPlace [.int p1] S (fun x1 S2 => ((x1 = 0 → (tk_okQ mX7_door Q) (-1) S2) ∧ (¬ x1 = 0 → (tk_Ms mX7_isPlace [.int p2] S2 (fun x4 S5 => ((x4 = 0 → (tk_okQ mX7_door Q) (-1) S5) ∧ (¬ x4 = 0 → (tk_Ms mX7_mayHaveDoor [.int p1, .int p2] S5 (fun x7 S8 => ((x7 = 0 → (tk_okQ mX7_door Q) (-1) S8) ∧ (¬ x7 = 0 → ((p3 < 0 → (tk_okQ mX7_door Q) (-1) S8) ∧ (¬ p3 < 0 → ((p3 ≤ 8 → (tk_Ms mX2_add [.ref 1, .int p1, .int p2, .int p3] S8 (fun x12 S13 => (tk_okQ mX7_door Q) x12 S13))) ∧ (¬ p3 ≤ 8 → (tk_okQ mX7_door Q) (-1) S8))))))))))))))))) : tk_Ms mX7_door [.ref 0, .int p1, .int p2, .int p3] S Q := by
  refine tk_Ms.of (ls := [.ref 0, .int p1, .int p2, .int p3]) (by decide) (by first | exact Or.inl rfl | exact Or.inr (Or.inl rfl) | exact Or.inr (Or.inr rfl)) (Nat.le_of_ble_eq_true rfl) rfl ?_
  refine g_iload_n dX7_door_0 rfl ?_
  refine s_S1i dX7_door_1 sm_X7_isPlace ml_X7_78 rfl (by decide) (Nat.le_of_ble_eq_true rfl) rfl (tk_Ms.mono t (fun x1 S2 t => ?_))
  refine g_if_eq (tgt := 32) dX7_door_4 (by decide) (fun c3 => ?_) (fun c3 => ?_)
  · have t := t.1 c3
    refine g_iconst (v := (-1)) dX7_door_32 (by decide) ?_
    exact g_iret (st := []) dX7_door_33 (fun e => by cases e) ⟨_, rfl, t⟩
  · have t := t.2 c3
    refine g_iload_n dX7_door_7 rfl ?_
    refine s_S1i dX7_door_8 sm_X7_isPlace ml_X7_78 rfl (by decide) (Nat.le_of_ble_eq_true rfl) rfl (tk_Ms.mono t (fun x4 S5 t => ?_))
    refine g_if_eq (tgt := 32) dX7_door_11 (by decide) (fun c6 => ?_) (fun c6 => ?_)
    · have t := t.1 c6
      refine g_iconst (v := (-1)) dX7_door_32 (by decide) ?_
      exact g_iret (st := []) dX7_door_33 (fun e => by cases e) ⟨_, rfl, t⟩
    · have t := t.2 c6
      refine g_iload_n dX7_door_14 rfl ?_
      refine g_iload_n dX7_door_15 rfl ?_
      refine s_S2i dX7_door_16 sm_X7_mayHaveDoor ml_X7_82 rfl (by decide) (Nat.le_of_ble_eq_true rfl) rfl (tk_Ms.mono t (fun x7 S8 t => ?_))
      refine g_if_eq (tgt := 32) dX7_door_19 (by decide) (fun c9 => ?_) (fun c9 => ?_)
      · have t := t.1 c9
        refine g_iconst (v := (-1)) dX7_door_32 (by decide) ?_
        exact g_iret (st := []) dX7_door_33 (fun e => by cases e) ⟨_, rfl, t⟩
      · have t := t.2 c9
        refine g_iload_n dX7_door_22 rfl ?_
        refine g_if_lt (tgt := 32) dX7_door_23 (by decide) (fun c10 => ?_) (fun c10 => ?_)
        · have t := t.1 c10
          refine g_iconst (v := (-1)) dX7_door_32 (by decide) ?_
          exact g_iret (st := []) dX7_door_33 (fun e => by cases e) ⟨_, rfl, t⟩
        · have t := t.2 c10
          refine g_iload_n dX7_door_26 rfl ?_
          refine g_bipush (v := 8) dX7_door_27 (by decide) ?_
          refine g_icmp_le (tgt := 34) dX7_door_29 (by decide) (fun c11 => ?_) (fun c11 => ?_)
          · have t := t.1 c11
            refine g_aload_n dX7_door_34 rfl ?_
            refine g_getR (n := 13) dX7_door_35 fl_X7_10 rfl (by decide) (by decide) rfl rfl ?_
            refine g_iload_n dX7_door_38 rfl ?_
            refine g_iload_n dX7_door_39 rfl ?_
            refine g_iload_n dX7_door_40 rfl ?_
            refine s_V3i dX7_door_41 vm_X2_add ml_X7_86 rfl rfl (by decide) (Nat.le_of_ble_eq_true rfl) rfl (tk_Ms.mono t (fun x12 S13 t => ?_))
            exact g_iret (st := []) dX7_door_44 (fun e => by cases e) ⟨_, rfl, t⟩
          · have t := t.2 c11
            refine g_iconst (v := (-1)) dX7_door_32 (by decide) ?_
            exact g_iret (st := []) dX7_door_33 (fun e => by cases e) ⟨_, rfl, t⟩
theorem w_X7_key {Q : Int32 → tS → Prop} {S : tS} (p1 : Int32) (p2 : Int32) (t : (tk_Ms mX7_isKind [.int p1] S (fun x1 S2 => ((x1 = 0 → (tk_okQ mX7_key Q) (-1) S2) ∧ (¬ x1 = 0 → ((p2 < 0 → (tk_okQ mX7_key Q) (-1) S2) ∧ (¬ p2 < 0 → ((p2 ≤ 1 → (tk_Ms mX3_add [.ref 5, .int p1, .int p2] S2 (fun x6 S7 => (tk_okQ mX7_key Q) x6 S7))) ∧ (¬ p2 ≤ 1 → (tk_okQ mX7_key Q) (-1) S2))))))))) : tk_Ms mX7_key [.ref 0, .int p1, .int p2] S Q := by
  refine tk_Ms.of (ls := [.ref 0, .int p1, .int p2]) (by decide) (by first | exact Or.inl rfl | exact Or.inr (Or.inl rfl) | exact Or.inr (Or.inr rfl)) (Nat.le_of_ble_eq_true rfl) rfl ?_
  refine g_iload_n dX7_key_0 rfl ?_
  refine s_S1i dX7_key_1 sm_X7_isKind ml_X7_90 rfl (by decide) (Nat.le_of_ble_eq_true rfl) rfl (tk_Ms.mono t (fun x1 S2 t => ?_))
  refine g_if_eq (tgt := 16) dX7_key_4 (by decide) (fun c3 => ?_) (fun c3 => ?_)
  · have t := t.1 c3
    refine g_iconst (v := (-1)) dX7_key_16 (by decide) ?_
    exact g_iret (st := []) dX7_key_17 (fun e => by cases e) ⟨_, rfl, t⟩
  · have t := t.2 c3
    refine g_iload_n dX7_key_7 rfl ?_
    refine g_if_lt (tgt := 16) dX7_key_8 (by decide) (fun c4 => ?_) (fun c4 => ?_)
    · have t := t.1 c4
      refine g_iconst (v := (-1)) dX7_key_16 (by decide) ?_
      exact g_iret (st := []) dX7_key_17 (fun e => by cases e) ⟨_, rfl, t⟩
    · have t := t.2 c4
      refine g_iload_n dX7_key_11 rfl ?_
      refine g_iconst (v := 1) dX7_key_12 (by decide) ?_
      refine g_icmp_le (tgt := 18) dX7_key_13 (by decide) (fun c5 => ?_) (fun c5 => ?_)
      · have t := t.1 c5
        refine g_aload_n dX7_key_18 rfl ?_
        refine g_getR (n := 13) dX7_key_19 fl_X7_19 rfl (by decide) (by decide) rfl rfl ?_
        refine g_iload_n dX7_key_22 rfl ?_
        refine g_iload_n dX7_key_23 rfl ?_
        refine s_V2i dX7_key_24 vm_X3_add ml_X7_93 rfl rfl (by decide) (Nat.le_of_ble_eq_true rfl) rfl (tk_Ms.mono t (fun x6 S7 t => ?_))
        exact g_iret (st := []) dX7_key_27 (fun e => by cases e) ⟨_, rfl, t⟩
      · have t := t.2 c5
        refine g_iconst (v := (-1)) dX7_key_16 (by decide) ?_
        exact g_iret (st := []) dX7_key_17 (fun e => by cases e) ⟨_, rfl, t⟩
theorem w_X7_told {Q : Int32 → tS → Prop} {S : tS} (p1 : Int32) (p2 : Int32) (t : (tk_Ms mX3_has [.ref 5, .int p1] S (fun x1 S2 => ((¬ x1 = 0 → ((p2 = 0 → (vp_in p1 8 ∧ (tk_okQ mX7_told Q) (S2 6 p1.toNatClampNeg) S2)) ∧ ((p2 = 1 → (vp_in p1 8 ∧ (tk_okQ mX7_told Q) (S2 7 p1.toNatClampNeg) S2)) ∧ ((p2 = 2 → (vp_in p1 8 ∧ (tk_okQ mX7_told Q) (S2 8 p1.toNatClampNeg) S2)) ∧ ((p2 = 3 → (vp_in p1 8 ∧ (tk_okQ mX7_told Q) (S2 9 p1.toNatClampNeg) S2)) ∧ ((p2 = 4 → (vp_in p1 8 ∧ (tk_okQ mX7_told Q) (S2 10 p1.toNatClampNeg) S2)) ∧ (¬ p2 = 0 ∧ ¬ p2 = 1 ∧ ¬ p2 = 2 ∧ ¬ p2 = 3 ∧ ¬ p2 = 4 → (tk_okQ mX7_told Q) (-1) S2))))))) ∧ (x1 = 0 → (tk_okQ mX7_told Q) (-1) S2))))) : tk_Ms mX7_told [.ref 0, .int p1, .int p2] S Q := by
  refine tk_Ms.of (ls := [.ref 0, .int p1, .int p2]) (by decide) (by first | exact Or.inl rfl | exact Or.inr (Or.inl rfl) | exact Or.inr (Or.inr rfl)) (Nat.le_of_ble_eq_true rfl) rfl ?_
  refine g_aload_n dX7_told_0 rfl ?_
  refine g_getR (n := 13) dX7_told_1 fl_X7_19 rfl (by decide) (by decide) rfl rfl ?_
  refine g_iload_n dX7_told_4 rfl ?_
  refine s_V1i dX7_told_5 vm_X3_has ml_X7_96 rfl rfl (by decide) (Nat.le_of_ble_eq_true rfl) rfl (tk_Ms.mono t (fun x1 S2 t => ?_))
  refine g_if_ne (tgt := 13) dX7_told_8 (by decide) (fun c3 => ?_) (fun c3 => ?_)
  · have t := t.1 c3
    refine g_iload_n dX7_told_13 rfl ?_
    by_cases c4 : p2 = 0
    · have t := t.1 c4
      refine g_tabInE c4 (off := 34) (tgt := 48) dX7_told_14 (by decide) (by decide) (by decide) (by decide) ?_
      refine g_aload_n dX7_told_48 rfl ?_
      refine g_getR (n := 13) dX7_told_49 fl_X7_19 rfl (by decide) (by decide) rfl rfl ?_
      refine g_getR (n := 6) dX7_told_52 fl_X7_99 rfl (by decide) (by decide) rfl rfl ?_
      refine g_iload_n dX7_told_55 rfl ?_
      refine g_iald (n := 8) dX7_told_56 rfl t.1 ?_
      have t := t.2
      exact g_iret (st := []) dX7_told_57 (fun e => by cases e) ⟨_, rfl, t⟩
    have t := t.2
    by_cases c5 : p2 = 1
    · have t := t.1 c5
      refine g_tabInE c5 (off := 44) (tgt := 58) dX7_told_14 (by decide) (by decide) (by decide) (by decide) ?_
      refine g_aload_n dX7_told_58 rfl ?_
      refine g_getR (n := 13) dX7_told_59 fl_X7_19 rfl (by decide) (by decide) rfl rfl ?_
      refine g_getR (n := 6) dX7_told_62 fl_X7_103 rfl (by decide) (by decide) rfl rfl ?_
      refine g_iload_n dX7_told_65 rfl ?_
      refine g_iald (n := 8) dX7_told_66 rfl t.1 ?_
      have t := t.2
      exact g_iret (st := []) dX7_told_67 (fun e => by cases e) ⟨_, rfl, t⟩
    have t := t.2
    by_cases c6 : p2 = 2
    · have t := t.1 c6
      refine g_tabInE c6 (off := 54) (tgt := 68) dX7_told_14 (by decide) (by decide) (by decide) (by decide) ?_
      refine g_aload_n dX7_told_68 rfl ?_
      refine g_getR (n := 13) dX7_told_69 fl_X7_19 rfl (by decide) (by decide) rfl rfl ?_
      refine g_getR (n := 6) dX7_told_72 fl_X7_106 rfl (by decide) (by decide) rfl rfl ?_
      refine g_iload_n dX7_told_75 rfl ?_
      refine g_iald (n := 8) dX7_told_76 rfl t.1 ?_
      have t := t.2
      exact g_iret (st := []) dX7_told_77 (fun e => by cases e) ⟨_, rfl, t⟩
    have t := t.2
    by_cases c7 : p2 = 3
    · have t := t.1 c7
      refine g_tabInE c7 (off := 64) (tgt := 78) dX7_told_14 (by decide) (by decide) (by decide) (by decide) ?_
      refine g_aload_n dX7_told_78 rfl ?_
      refine g_getR (n := 13) dX7_told_79 fl_X7_19 rfl (by decide) (by decide) rfl rfl ?_
      refine g_getR (n := 6) dX7_told_82 fl_X7_109 rfl (by decide) (by decide) rfl rfl ?_
      refine g_iload_n dX7_told_85 rfl ?_
      refine g_iald (n := 8) dX7_told_86 rfl t.1 ?_
      have t := t.2
      exact g_iret (st := []) dX7_told_87 (fun e => by cases e) ⟨_, rfl, t⟩
    have t := t.2
    by_cases c8 : p2 = 4
    · have t := t.1 c8
      refine g_tabInE c8 (off := 74) (tgt := 88) dX7_told_14 (by decide) (by decide) (by decide) (by decide) ?_
      refine g_aload_n dX7_told_88 rfl ?_
      refine g_getR (n := 13) dX7_told_89 fl_X7_19 rfl (by decide) (by decide) rfl rfl ?_
      refine g_getR (n := 6) dX7_told_92 fl_X7_112 rfl (by decide) (by decide) rfl rfl ?_
      refine g_iload_n dX7_told_95 rfl ?_
      refine g_iald (n := 8) dX7_told_96 rfl t.1 ?_
      have t := t.2
      exact g_iret (st := []) dX7_told_97 (fun e => by cases e) ⟨_, rfl, t⟩
    have t := t.2
    have zc4 := lv_neT c4 (a := 0) (by decide)
    have zc5 := lv_neT c5 (a := 1) (by decide)
    have zc6 := lv_neT c6 (a := 2) (by decide)
    have zc7 := lv_neT c7 (a := 3) (by decide)
    have zc8 := lv_neT c8 (a := 4) (by decide)
    refine g_tabOut (tgt := 98) dX7_told_14 (by omega) (by decide) ?_
    have t := t ⟨c4, c5, c6, c7, c8⟩
    refine g_iconst (v := (-1)) dX7_told_98 (by decide) ?_
    exact g_iret (st := []) dX7_told_99 (fun e => by cases e) ⟨_, rfl, t⟩
  · have t := t.2 c3
    refine g_iconst (v := (-1)) dX7_told_11 (by decide) ?_
    exact g_iret (st := []) dX7_told_12 (fun e => by cases e) ⟨_, rfl, t⟩
theorem w_X7_of {Q : Int32 → tS → Prop} {S : tS} (p1 : Int32) (p2 : Int32) (t : (tk_Ms mX2_has [.ref 1, .int p1] S (fun x1 S2 => ((¬ x1 = 0 → ((p2 = 0 → (vp_in p1 17 ∧ (tk_okQ mX7_of Q) (S2 2 p1.toNatClampNeg) S2)) ∧ ((p2 = 1 → (vp_in p1 17 ∧ (tk_okQ mX7_of Q) (S2 3 p1.toNatClampNeg) S2)) ∧ ((p2 = 2 → (vp_in p1 17 ∧ (tk_okQ mX7_of Q) (S2 4 p1.toNatClampNeg) S2)) ∧ (¬ p2 = 0 ∧ ¬ p2 = 1 ∧ ¬ p2 = 2 → (tk_okQ mX7_of Q) (-1) S2))))) ∧ (x1 = 0 → (tk_okQ mX7_of Q) (-1) S2))))) : tk_Ms mX7_of [.ref 0, .int p1, .int p2] S Q := by
  refine tk_Ms.of (ls := [.ref 0, .int p1, .int p2]) (by decide) (by first | exact Or.inl rfl | exact Or.inr (Or.inl rfl) | exact Or.inr (Or.inr rfl)) (Nat.le_of_ble_eq_true rfl) rfl ?_
  refine g_aload_n dX7_of_0 rfl ?_
  refine g_getR (n := 13) dX7_of_1 fl_X7_10 rfl (by decide) (by decide) rfl rfl ?_
  refine g_iload_n dX7_of_4 rfl ?_
  refine s_V1i dX7_of_5 vm_X2_has ml_X7_115 rfl rfl (by decide) (Nat.le_of_ble_eq_true rfl) rfl (tk_Ms.mono t (fun x1 S2 t => ?_))
  refine g_if_ne (tgt := 13) dX7_of_8 (by decide) (fun c3 => ?_) (fun c3 => ?_)
  · have t := t.1 c3
    refine g_iload_n dX7_of_13 rfl ?_
    by_cases c4 : p2 = 0
    · have t := t.1 c4
      refine g_tabInE c4 (off := 26) (tgt := 40) dX7_of_14 (by decide) (by decide) (by decide) (by decide) ?_
      refine g_aload_n dX7_of_40 rfl ?_
      refine g_getR (n := 13) dX7_of_41 fl_X7_10 rfl (by decide) (by decide) rfl rfl ?_
      refine g_getR (n := 4) dX7_of_44 fl_X7_116 rfl (by decide) (by decide) rfl rfl ?_
      refine g_iload_n dX7_of_47 rfl ?_
      refine g_iald (n := 17) dX7_of_48 rfl t.1 ?_
      have t := t.2
      exact g_iret (st := []) dX7_of_49 (fun e => by cases e) ⟨_, rfl, t⟩
    have t := t.2
    by_cases c5 : p2 = 1
    · have t := t.1 c5
      refine g_tabInE c5 (off := 36) (tgt := 50) dX7_of_14 (by decide) (by decide) (by decide) (by decide) ?_
      refine g_aload_n dX7_of_50 rfl ?_
      refine g_getR (n := 13) dX7_of_51 fl_X7_10 rfl (by decide) (by decide) rfl rfl ?_
      refine g_getR (n := 4) dX7_of_54 fl_X7_119 rfl (by decide) (by decide) rfl rfl ?_
      refine g_iload_n dX7_of_57 rfl ?_
      refine g_iald (n := 17) dX7_of_58 rfl t.1 ?_
      have t := t.2
      exact g_iret (st := []) dX7_of_59 (fun e => by cases e) ⟨_, rfl, t⟩
    have t := t.2
    by_cases c6 : p2 = 2
    · have t := t.1 c6
      refine g_tabInE c6 (off := 46) (tgt := 60) dX7_of_14 (by decide) (by decide) (by decide) (by decide) ?_
      refine g_aload_n dX7_of_60 rfl ?_
      refine g_getR (n := 13) dX7_of_61 fl_X7_10 rfl (by decide) (by decide) rfl rfl ?_
      refine g_getR (n := 4) dX7_of_64 fl_X7_122 rfl (by decide) (by decide) rfl rfl ?_
      refine g_iload_n dX7_of_67 rfl ?_
      refine g_iald (n := 17) dX7_of_68 rfl t.1 ?_
      have t := t.2
      exact g_iret (st := []) dX7_of_69 (fun e => by cases e) ⟨_, rfl, t⟩
    have t := t.2
    have zc4 := lv_neT c4 (a := 0) (by decide)
    have zc5 := lv_neT c5 (a := 1) (by decide)
    have zc6 := lv_neT c6 (a := 2) (by decide)
    refine g_tabOut (tgt := 70) dX7_of_14 (by omega) (by decide) ?_
    have t := t ⟨c4, c5, c6⟩
    refine g_iconst (v := (-1)) dX7_of_70 (by decide) ?_
    exact g_iret (st := []) dX7_of_71 (fun e => by cases e) ⟨_, rfl, t⟩
  · have t := t.2 c3
    refine g_iconst (v := (-1)) dX7_of_11 (by decide) ?_
    exact g_iret (st := []) dX7_of_12 (fun e => by cases e) ⟨_, rfl, t⟩
theorem w_X7_type {Q : Int32 → tS → Prop} {S : tS} (p1 : Int64) (p2 : Int32) (t : ((p2 < 1 → (tk_okQ mX7_type Q) (-1) S) ∧ (¬ p2 < 1 → ((p2 ≤ 8 → tk_Gs mX7_type none 16 [.ref 0, .long p1, .null, .int p2, .int 0, .null] [] S (tk_okQ mX7_type Q)) ∧ (¬ p2 ≤ 8 → (tk_okQ mX7_type Q) (-1) S))))) : tk_Ms mX7_type [.ref 0, .long p1, .int p2] S Q := by
  refine tk_Ms.of (ls := [.ref 0, .long p1, .null, .int p2, .null, .null]) (by decide) (by first | exact Or.inl rfl | exact Or.inr (Or.inl rfl) | exact Or.inr (Or.inr rfl)) (Nat.le_of_ble_eq_true rfl) rfl ?_
  refine g_iload_n dX7_type_0 rfl ?_
  refine g_iconst (v := 1) dX7_type_1 (by decide) ?_
  refine g_icmp_lt (tgt := 11) dX7_type_2 (by decide) (fun c1 => ?_) (fun c1 => ?_)
  · have t := t.1 c1
    refine g_iconst (v := (-1)) dX7_type_11 (by decide) ?_
    exact g_iret (st := []) dX7_type_12 (fun e => by cases e) ⟨_, rfl, t⟩
  · have t := t.2 c1
    refine g_iload_n dX7_type_5 rfl ?_
    refine g_bipush (v := 8) dX7_type_6 (by decide) ?_
    refine g_icmp_le (tgt := 13) dX7_type_8 (by decide) (fun c2 => ?_) (fun c2 => ?_)
    · have t := t.1 c2
      refine g_iconst (v := 0) dX7_type_13 (by decide) ?_
      refine g_istore (ls' := [.ref 0, .long p1, .null, .int p2, .int 0, .null]) dX7_type_14 rfl (by decide) rfl ?_
      exact t
    · have t := t.2 c2
      refine g_iconst (v := (-1)) dX7_type_11 (by decide) ?_
      exact g_iret (st := []) dX7_type_12 (fun e => by cases e) ⟨_, rfl, t⟩
theorem w_X7_type_16 {Q : Int32 → tS → Prop} {S : tS} (l1 : Int64) (l3 : Int32) (l4 : Int32)  (t : ((l3 ≤ l4 → ((l3 ≤ (160 - (S 21 0)) → tk_Gs mX7_type none 75 [.ref 0, .long l1, .null, .int l3, .int (l3 - 1), .null] [] S Q) ∧ (¬ l3 ≤ (160 - (S 21 0)) → Q (-3) S))) ∧ (¬ l3 ≤ l4 → (tk_Ms mX7_byteOf [.long l1, .int l4] S (fun x3 S4 => ((x3 < 32 → Q (-1) S4) ∧ (¬ x3 < 32 → ((x3 ≤ 126 → tk_Gs mX7_type none 16 [.ref 0, .long l1, .null, .int l3, .int (l4 + 1), .null] [] S4 Q) ∧ (¬ x3 ≤ 126 → Q (-1) S4))))))))) : tk_Gs mX7_type none 16 [.ref 0, .long l1, .null, .int l3, .int l4, .null] [] S Q := by
  show tk_G _ 0 0 _ _ _ _ (tkSH, S, tkRF) _
  refine g_iload dX7_type_16 rfl ?_
  refine g_iload_n dX7_type_18 rfl ?_
  refine g_icmp_ge (tgt := 52) dX7_type_19 (by decide) (fun c1 => ?_) (fun c1 => ?_)
  · have t := t.1 c1
    refine g_iload_n dX7_type_52 rfl ?_
    refine g_sipush (v := 160) dX7_type_53 (by decide) ?_
    refine g_aload_n dX7_type_56 rfl ?_
    refine g_getR (n := 13) dX7_type_57 fl_X7_43 rfl (by decide) (by decide) rfl rfl ?_
    refine g_getI (n := 3) dX7_type_60 fl_X7_129 rfl (by decide) (by decide) rfl ?_
    refine g_isub dX7_type_63 ?_
    refine g_icmp_le (tgt := 70) dX7_type_64 (by decide) (fun c2 => ?_) (fun c2 => ?_)
    · have t := t.1 c2
      refine g_iload_n dX7_type_70 rfl ?_
      refine g_iconst (v := 1) dX7_type_71 (by decide) ?_
      refine g_isub dX7_type_72 ?_
      refine g_istore (ls' := [.ref 0, .long l1, .null, .int l3, .int (l3 - 1), .null]) dX7_type_73 rfl (by decide) rfl ?_
      exact t
    · have t := t.2 c2
      refine g_bipush (v := (-3)) dX7_type_67 (by decide) ?_
      exact g_iret (st := []) dX7_type_69 (fun e => by cases e) ⟨_, rfl, t⟩
  · have t := t.2 c1
    refine g_lload_n dX7_type_22 rfl ?_
    refine g_iload dX7_type_23 rfl ?_
    refine s_S2i dX7_type_25 sm_X7_byteOf ml_X7_125 rfl (by decide) (Nat.le_of_ble_eq_true rfl) rfl (tk_Ms.mono t (fun x3 S4 t => ?_))
    refine g_istore (ls' := [.ref 0, .long l1, .null, .int l3, .int l4, .int x3]) dX7_type_28 rfl (by decide) rfl ?_
    refine g_iload dX7_type_30 rfl ?_
    refine g_bipush (v := 32) dX7_type_32 (by decide) ?_
    refine g_icmp_lt (tgt := 44) dX7_type_34 (by decide) (fun c5 => ?_) (fun c5 => ?_)
    · have t := t.1 c5
      refine g_iconst (v := (-1)) dX7_type_44 (by decide) ?_
      exact g_iret (st := []) dX7_type_45 (fun e => by cases e) ⟨_, rfl, t⟩
    · have t := t.2 c5
      refine g_iload dX7_type_37 rfl ?_
      refine g_bipush (v := 126) dX7_type_39 (by decide) ?_
      refine g_icmp_le (tgt := 46) dX7_type_41 (by decide) (fun c6 => ?_) (fun c6 => ?_)
      · have t := t.1 c6
        refine g_iinc (v := l4 + 1) (ls' := [.ref 0, .long l1, .null, .int l3, .int (l4 + 1), .int x3]) dX7_type_46 rfl rfl (by decide) rfl rfl ?_
        refine g_goto (tgt := 16) dX7_type_49 (by decide) ?_
        refine g_drop (ls' := [.ref 0, .long l1, .null, .int l3, .int (l4 + 1), .null]) ⟨Or.inl rfl, Or.inl rfl, Or.inl rfl, Or.inl rfl, Or.inl rfl, Or.inr rfl, trivial⟩ ?_
        exact t
      · have t := t.2 c6
        refine g_iconst (v := (-1)) dX7_type_44 (by decide) ?_
        exact g_iret (st := []) dX7_type_45 (fun e => by cases e) ⟨_, rfl, t⟩
theorem w_X7_type_75 {Q : Int32 → tS → Prop} {S : tS} (l1 : Int64) (l3 : Int32) (l4 : Int32)  (t : ((l4 < 0 → Q (S 21 0) S) ∧ (¬ l4 < 0 → (tk_Ms mX7_byteOf [.long l1, .int l4] S (fun x2 S3 => (tk_Ms mX5_add [.ref 21, .int x2] S3 (fun _ S5 => tk_Gs mX7_type none 75 [.ref 0, .long l1, .null, .int l3, .int (l4 + (-1)), .null] [] S5 Q))))))) : tk_Gs mX7_type none 75 [.ref 0, .long l1, .null, .int l3, .int l4, .null] [] S Q := by
  show tk_G _ 0 0 _ _ _ _ (tkSH, S, tkRF) _
  refine g_iload dX7_type_75 rfl ?_
  refine g_if_lt (tgt := 99) dX7_type_77 (by decide) (fun c1 => ?_) (fun c1 => ?_)
  · have t := t.1 c1
    refine g_aload_n dX7_type_99 rfl ?_
    refine g_getR (n := 13) dX7_type_100 fl_X7_43 rfl (by decide) (by decide) rfl rfl ?_
    refine g_getI (n := 3) dX7_type_103 fl_X7_129 rfl (by decide) (by decide) rfl ?_
    exact g_iret (st := []) dX7_type_106 (fun e => by cases e) ⟨_, rfl, t⟩
  · have t := t.2 c1
    refine g_aload_n dX7_type_80 rfl ?_
    refine g_getR (n := 13) dX7_type_81 fl_X7_43 rfl (by decide) (by decide) rfl rfl ?_
    refine g_lload_n dX7_type_84 rfl ?_
    refine g_iload dX7_type_85 rfl ?_
    refine s_S2i dX7_type_87 sm_X7_byteOf ml_X7_125 rfl (by decide) (Nat.le_of_ble_eq_true rfl) rfl (tk_Ms.mono t (fun x2 S3 t => ?_))
    refine s_V1v dX7_type_90 vm_X5_add ml_X7_132 rfl rfl (by decide) (Nat.le_of_ble_eq_true rfl) rfl (tk_Ms.mono t (fun _ S5 t => ?_))
    refine g_iinc (v := l4 + (-1)) (ls' := [.ref 0, .long l1, .null, .int l3, .int (l4 + (-1)), .null]) dX7_type_93 rfl rfl (by decide) rfl rfl ?_
    refine g_goto (tgt := 75) dX7_type_96 (by decide) ?_
    exact t
theorem w_X7_house {Q : Int32 → tS → Prop} {S : tS}  (t : (tk_Ms mX7_readHouse [.ref 0] S (fun x1 S2 => (tk_Ms mX5_empty [.ref 21] S2 (fun _ S4 => (tk_okQ mX7_house Q) x1 S4))))) : tk_Ms mX7_house [.ref 0] S Q := by
  refine tk_Ms.of (ls := [.ref 0, .null]) (by decide) (by first | exact Or.inl rfl | exact Or.inr (Or.inl rfl) | exact Or.inr (Or.inr rfl)) (Nat.le_of_ble_eq_true rfl) rfl ?_
  refine g_aload_n dX7_house_0 rfl ?_
  refine s_V0i dX7_house_1 vm_X7_readHouse ml_X7_135 rfl rfl (by decide) (Nat.le_of_ble_eq_true rfl) rfl (tk_Ms.mono t (fun x1 S2 t => ?_))
  refine g_istore_n (ls' := [.ref 0, .int x1]) dX7_house_4 rfl (by decide) rfl ?_
  refine g_aload_n dX7_house_5 rfl ?_
  refine g_getR (n := 13) dX7_house_6 fl_X7_43 rfl (by decide) (by decide) rfl rfl ?_
  refine s_V0v dX7_house_9 vm_X5_empty ml_X7_139 rfl rfl (by decide) (Nat.le_of_ble_eq_true rfl) rfl (tk_Ms.mono t (fun _ S4 t => ?_))
  refine g_iload_n dX7_house_12 rfl ?_
  exact g_iret (st := []) dX7_house_13 (fun e => by cases e) ⟨_, rfl, t⟩
theorem w_X7_week {Q : Int32 → tS → Prop} {S : tS}  (t : (tk_Ms mX7_readWeek [.ref 0, .int 0] S (fun x1 S2 => ((x1 < 0 → (tk_Ms mX5_empty [.ref 21] S2 (fun _ S5 => (tk_okQ mX7_week Q) x1 S5))) ∧ (¬ x1 < 0 → (tk_Ms mX7_readWeek [.ref 0, .int 1] S2 (fun x6 S7 => (tk_Ms mX5_empty [.ref 21] S7 (fun _ S9 => (tk_okQ mX7_week Q) x6 S9))))))))) : tk_Ms mX7_week [.ref 0] S Q := by
  refine tk_Ms.of (ls := [.ref 0, .null]) (by decide) (by first | exact Or.inl rfl | exact Or.inr (Or.inl rfl) | exact Or.inr (Or.inr rfl)) (Nat.le_of_ble_eq_true rfl) rfl ?_
  refine g_aload_n dX7_week_0 rfl ?_
  refine g_iconst (v := 0) dX7_week_1 (by decide) ?_
  refine s_V1i dX7_week_2 vm_X7_readWeek ml_X7_142 rfl rfl (by decide) (Nat.le_of_ble_eq_true rfl) rfl (tk_Ms.mono t (fun x1 S2 t => ?_))
  refine g_istore_n (ls' := [.ref 0, .int x1]) dX7_week_5 rfl (by decide) rfl ?_
  refine g_iload_n dX7_week_6 rfl ?_
  refine g_if_lt (tgt := 16) dX7_week_7 (by decide) (fun c3 => ?_) (fun c3 => ?_)
  · have t := t.1 c3
    refine g_aload_n dX7_week_16 rfl ?_
    refine g_getR (n := 13) dX7_week_17 fl_X7_43 rfl (by decide) (by decide) rfl rfl ?_
    refine s_V0v dX7_week_20 vm_X5_empty ml_X7_139 rfl rfl (by decide) (Nat.le_of_ble_eq_true rfl) rfl (tk_Ms.mono t (fun _ S5 t => ?_))
    refine g_iload_n dX7_week_23 rfl ?_
    exact g_iret (st := []) dX7_week_24 (fun e => by cases e) ⟨_, rfl, t⟩
  · have t := t.2 c3
    refine g_aload_n dX7_week_10 rfl ?_
    refine g_iconst (v := 1) dX7_week_11 (by decide) ?_
    refine s_V1i dX7_week_12 vm_X7_readWeek ml_X7_142 rfl rfl (by decide) (Nat.le_of_ble_eq_true rfl) rfl (tk_Ms.mono t (fun x6 S7 t => ?_))
    refine g_istore_n (ls' := [.ref 0, .int x6]) dX7_week_15 rfl (by decide) rfl ?_
    refine g_aload_n dX7_week_16 rfl ?_
    refine g_getR (n := 13) dX7_week_17 fl_X7_43 rfl (by decide) (by decide) rfl rfl ?_
    refine s_V0v dX7_week_20 vm_X5_empty ml_X7_139 rfl rfl (by decide) (Nat.le_of_ble_eq_true rfl) rfl (tk_Ms.mono t (fun _ S9 t => ?_))
    refine g_iload_n dX7_week_23 rfl ?_
    exact g_iret (st := []) dX7_week_24 (fun e => by cases e) ⟨_, rfl, t⟩
theorem w_X7_count {Q : Int32 → tS → Prop} {S : tS} (p1 : Int32) (t : ((p1 = 0 → (tk_okQ mX7_count Q) (S 1 0) S) ∧ ((p1 = 1 → (tk_okQ mX7_count Q) (S 5 0) S) ∧ ((p1 = 2 → (tk_Ms mX3_stained [.ref 5] S (fun x4 S5 => (tk_okQ mX7_count Q) x4 S5))) ∧ ((p1 = 3 → (tk_okQ mX7_count Q) (S 0 2) S) ∧ ((p1 = 4 → (tk_Ms mX3_showing [.ref 5, .int (S 0 2)] S (fun x8 S9 => (tk_okQ mX7_count Q) x8 S9))) ∧ ((p1 = 5 → (tk_Ms mX2_at [.ref 1, .int 10] S (fun x11 S12 => (tk_okQ mX7_count Q) x11 S12))) ∧ (¬ p1 = 0 ∧ ¬ p1 = 1 ∧ ¬ p1 = 2 ∧ ¬ p1 = 3 ∧ ¬ p1 = 4 ∧ ¬ p1 = 5 → (tk_okQ mX7_count Q) (-1) S)))))))) : tk_Ms mX7_count [.ref 0, .int p1] S Q := by
  refine tk_Ms.of (ls := [.ref 0, .int p1]) (by decide) (by first | exact Or.inl rfl | exact Or.inr (Or.inl rfl) | exact Or.inr (Or.inr rfl)) (Nat.le_of_ble_eq_true rfl) rfl ?_
  refine g_iload_n dX7_count_0 rfl ?_
  by_cases c1 : p1 = 0
  · have t := t.1 c1
    refine g_tabInE c1 (off := 39) (tgt := 40) dX7_count_1 (by decide) (by decide) (by decide) (by decide) ?_
    refine g_aload_n dX7_count_40 rfl ?_
    refine g_getR (n := 13) dX7_count_41 fl_X7_10 rfl (by decide) (by decide) rfl rfl ?_
    refine g_getI (n := 4) dX7_count_44 fl_X7_146 rfl (by decide) (by decide) rfl ?_
    exact g_iret (st := []) dX7_count_47 (fun e => by cases e) ⟨_, rfl, t⟩
  have t := t.2
  by_cases c2 : p1 = 1
  · have t := t.1 c2
    refine g_tabInE c2 (off := 47) (tgt := 48) dX7_count_1 (by decide) (by decide) (by decide) (by decide) ?_
    refine g_aload_n dX7_count_48 rfl ?_
    refine g_getR (n := 13) dX7_count_49 fl_X7_19 rfl (by decide) (by decide) rfl rfl ?_
    refine g_getI (n := 6) dX7_count_52 fl_X7_149 rfl (by decide) (by decide) rfl ?_
    exact g_iret (st := []) dX7_count_55 (fun e => by cases e) ⟨_, rfl, t⟩
  have t := t.2
  by_cases c3 : p1 = 2
  · have t := t.1 c3
    refine g_tabInE c3 (off := 55) (tgt := 56) dX7_count_1 (by decide) (by decide) (by decide) (by decide) ?_
    refine g_aload_n dX7_count_56 rfl ?_
    refine g_getR (n := 13) dX7_count_57 fl_X7_19 rfl (by decide) (by decide) rfl rfl ?_
    refine s_V0i dX7_count_60 vm_X3_stained ml_X7_150 rfl rfl (by decide) (Nat.le_of_ble_eq_true rfl) rfl (tk_Ms.mono t (fun x4 S5 t => ?_))
    exact g_iret (st := []) dX7_count_63 (fun e => by cases e) ⟨_, rfl, t⟩
  have t := t.2
  by_cases c6 : p1 = 3
  · have t := t.1 c6
    refine g_tabInE c6 (off := 63) (tgt := 64) dX7_count_1 (by decide) (by decide) (by decide) (by decide) ?_
    refine g_aload_n dX7_count_64 rfl ?_
    refine g_getI (n := 13) dX7_count_65 fl_X7_23 rfl (by decide) (by decide) rfl ?_
    exact g_iret (st := []) dX7_count_68 (fun e => by cases e) ⟨_, rfl, t⟩
  have t := t.2
  by_cases c7 : p1 = 4
  · have t := t.1 c7
    refine g_tabInE c7 (off := 68) (tgt := 69) dX7_count_1 (by decide) (by decide) (by decide) (by decide) ?_
    refine g_aload_n dX7_count_69 rfl ?_
    refine g_getR (n := 13) dX7_count_70 fl_X7_19 rfl (by decide) (by decide) rfl rfl ?_
    refine g_aload_n dX7_count_73 rfl ?_
    refine g_getI (n := 13) dX7_count_74 fl_X7_23 rfl (by decide) (by decide) rfl ?_
    refine s_V1i dX7_count_77 vm_X3_showing ml_X7_153 rfl rfl (by decide) (Nat.le_of_ble_eq_true rfl) rfl (tk_Ms.mono t (fun x8 S9 t => ?_))
    exact g_iret (st := []) dX7_count_80 (fun e => by cases e) ⟨_, rfl, t⟩
  have t := t.2
  by_cases c10 : p1 = 5
  · have t := t.1 c10
    refine g_tabInE c10 (off := 80) (tgt := 81) dX7_count_1 (by decide) (by decide) (by decide) (by decide) ?_
    refine g_aload_n dX7_count_81 rfl ?_
    refine g_getR (n := 13) dX7_count_82 fl_X7_10 rfl (by decide) (by decide) rfl rfl ?_
    refine g_bipush (v := 10) dX7_count_85 (by decide) ?_
    refine s_V1i dX7_count_87 vm_X2_at ml_X7_157 rfl rfl (by decide) (Nat.le_of_ble_eq_true rfl) rfl (tk_Ms.mono t (fun x11 S12 t => ?_))
    exact g_iret (st := []) dX7_count_90 (fun e => by cases e) ⟨_, rfl, t⟩
  have t := t.2
  have zc1 := lv_neT c1 (a := 0) (by decide)
  have zc2 := lv_neT c2 (a := 1) (by decide)
  have zc3 := lv_neT c3 (a := 2) (by decide)
  have zc6 := lv_neT c6 (a := 3) (by decide)
  have zc7 := lv_neT c7 (a := 4) (by decide)
  have zc10 := lv_neT c10 (a := 5) (by decide)
  refine g_tabOut (tgt := 91) dX7_count_1 (by omega) (by decide) ?_
  have t := t ⟨c1, c2, c3, c6, c7, c10⟩
  refine g_iconst (v := (-1)) dX7_count_91 (by decide) ?_
  exact g_iret (st := []) dX7_count_92 (fun e => by cases e) ⟨_, rfl, t⟩
theorem w_X7_visit {Q : Int32 → tS → Prop} {S : tS} (p1 : Int32) (p2 : Int32) (p3 : Int32) (t : (tk_Ms mX7_isSister [.int p1] S (fun x1 S2 => ((x1 = 0 → (tk_okQ mX7_visit Q) (-1) S2) ∧ (¬ x1 = 0 → (tk_Ms mX7_isPlace [.int p2] S2 (fun x4 S5 => ((x4 = 0 → (tk_okQ mX7_visit Q) (-1) S5) ∧ (¬ x4 = 0 → (tk_Ms mX7_isStay [.int p3] S5 (fun x7 S8 => ((¬ x7 = 0 → (tk_Ms mX3_ring [.ref 5, .int p1, .int 0] S8 (fun x10 S11 => (tk_Ms mX6_measure [.ref 28, .ref 1, .int p2, .int x10] S11 (fun _ S13 => (vp_in 0 11 ∧ ((¬ (S13 29 0) = (-1) → (tk_Ms mX6_locksFromHall [.ref 28, .ref 1, .int x10] S13 (fun x15 S16 => (tk_Ms mX3_stain [.ref 5, .int x15, .int p3, .int (S16 0 2)] S16 (fun _ S18 => (tk_okQ mX7_visit Q) ((2 * (S13 29 0)) + p3) S18))))) ∧ ((S13 29 0) = (-1) → (tk_okQ mX7_visit Q) (-2) S13)))))))) ∧ (x7 = 0 → (tk_okQ mX7_visit Q) (-1) S8))))))))))))) : tk_Ms mX7_visit [.ref 0, .int p1, .int p2, .int p3] S Q := by
  refine tk_Ms.of (ls := [.ref 0, .int p1, .int p2, .int p3, .null, .null]) (by decide) (by first | exact Or.inl rfl | exact Or.inr (Or.inl rfl) | exact Or.inr (Or.inr rfl)) (Nat.le_of_ble_eq_true rfl) rfl ?_
  refine g_iload_n dX7_visit_0 rfl ?_
  refine s_S1i dX7_visit_1 sm_X7_isSister ml_X7_160 rfl (by decide) (Nat.le_of_ble_eq_true rfl) rfl (tk_Ms.mono t (fun x1 S2 t => ?_))
  refine g_if_eq (tgt := 21) dX7_visit_4 (by decide) (fun c3 => ?_) (fun c3 => ?_)
  · have t := t.1 c3
    refine g_iconst (v := (-1)) dX7_visit_21 (by decide) ?_
    exact g_iret (st := []) dX7_visit_22 (fun e => by cases e) ⟨_, rfl, t⟩
  · have t := t.2 c3
    refine g_iload_n dX7_visit_7 rfl ?_
    refine s_S1i dX7_visit_8 sm_X7_isPlace ml_X7_78 rfl (by decide) (Nat.le_of_ble_eq_true rfl) rfl (tk_Ms.mono t (fun x4 S5 t => ?_))
    refine g_if_eq (tgt := 21) dX7_visit_11 (by decide) (fun c6 => ?_) (fun c6 => ?_)
    · have t := t.1 c6
      refine g_iconst (v := (-1)) dX7_visit_21 (by decide) ?_
      exact g_iret (st := []) dX7_visit_22 (fun e => by cases e) ⟨_, rfl, t⟩
    · have t := t.2 c6
      refine g_iload_n dX7_visit_14 rfl ?_
      refine s_S1i dX7_visit_15 sm_X7_isStay ml_X7_163 rfl (by decide) (Nat.le_of_ble_eq_true rfl) rfl (tk_Ms.mono t (fun x7 S8 t => ?_))
      refine g_if_ne (tgt := 23) dX7_visit_18 (by decide) (fun c9 => ?_) (fun c9 => ?_)
      · have t := t.1 c9
        refine g_aload_n dX7_visit_23 rfl ?_
        refine g_getR (n := 13) dX7_visit_24 fl_X7_19 rfl (by decide) (by decide) rfl rfl ?_
        refine g_iload_n dX7_visit_27 rfl ?_
        refine g_iconst (v := 0) dX7_visit_28 (by decide) ?_
        refine s_V2i dX7_visit_29 vm_X3_ring ml_X7_166 rfl rfl (by decide) (Nat.le_of_ble_eq_true rfl) rfl (tk_Ms.mono t (fun x10 S11 t => ?_))
        refine g_istore (ls' := [.ref 0, .int p1, .int p2, .int p3, .int x10, .null]) dX7_visit_32 rfl (by decide) rfl ?_
        refine g_aload_n dX7_visit_34 rfl ?_
        refine g_getR (n := 13) dX7_visit_35 fl_X7_60 rfl (by decide) (by decide) rfl rfl ?_
        refine g_aload_n dX7_visit_38 rfl ?_
        refine g_getR (n := 13) dX7_visit_39 fl_X7_10 rfl (by decide) (by decide) rfl rfl ?_
        refine g_iload_n dX7_visit_42 rfl ?_
        refine g_iload dX7_visit_43 rfl ?_
        refine s_V3v dX7_visit_45 vm_X6_measure ml_X7_170 rfl rfl (by decide) (Nat.le_of_ble_eq_true rfl) rfl (tk_Ms.mono t (fun _ S13 t => ?_))
        refine g_aload_n dX7_visit_48 rfl ?_
        refine g_getR (n := 13) dX7_visit_49 fl_X7_60 rfl (by decide) (by decide) rfl rfl ?_
        refine g_getR (n := 1) dX7_visit_52 fl_X7_174 rfl (by decide) (by decide) rfl rfl ?_
        refine g_iconst (v := 0) dX7_visit_55 (by decide) ?_
        refine g_iald (n := 11) dX7_visit_56 rfl t.1 ?_
        have t := t.2
        refine g_istore (ls' := [.ref 0, .int p1, .int p2, .int p3, .int x10, .int (S13 29 0)]) dX7_visit_57 rfl (by decide) rfl ?_
        refine g_iload dX7_visit_59 rfl ?_
        refine g_iconst (v := (-1)) dX7_visit_61 (by decide) ?_
        refine g_icmp_ne (tgt := 68) dX7_visit_62 (by decide) (fun c14 => ?_) (fun c14 => ?_)
        · have t := t.1 c14
          refine g_aload_n dX7_visit_68 rfl ?_
          refine g_getR (n := 13) dX7_visit_69 fl_X7_19 rfl (by decide) (by decide) rfl rfl ?_
          refine g_aload_n dX7_visit_72 rfl ?_
          refine g_getR (n := 13) dX7_visit_73 fl_X7_60 rfl (by decide) (by decide) rfl rfl ?_
          refine g_aload_n dX7_visit_76 rfl ?_
          refine g_getR (n := 13) dX7_visit_77 fl_X7_10 rfl (by decide) (by decide) rfl rfl ?_
          refine g_iload dX7_visit_80 rfl ?_
          refine s_V2i dX7_visit_82 vm_X6_locksFromHall ml_X7_177 rfl rfl (by decide) (Nat.le_of_ble_eq_true rfl) rfl (tk_Ms.mono t (fun x15 S16 t => ?_))
          refine g_iload_n dX7_visit_85 rfl ?_
          refine g_aload_n dX7_visit_86 rfl ?_
          refine g_getI (n := 13) dX7_visit_87 fl_X7_23 rfl (by decide) (by decide) rfl ?_
          refine s_V3v dX7_visit_90 vm_X3_stain ml_X7_181 rfl rfl (by decide) (Nat.le_of_ble_eq_true rfl) rfl (tk_Ms.mono t (fun _ S18 t => ?_))
          refine g_iconst (v := 2) dX7_visit_93 (by decide) ?_
          refine g_iload dX7_visit_94 rfl ?_
          refine g_imul dX7_visit_96 ?_
          refine g_iload_n dX7_visit_97 rfl ?_
          refine g_iadd dX7_visit_98 ?_
          exact g_iret (st := []) dX7_visit_99 (fun e => by cases e) ⟨_, rfl, t⟩
        · have t := t.2 c14
          refine g_bipush (v := (-2)) dX7_visit_65 (by decide) ?_
          exact g_iret (st := []) dX7_visit_67 (fun e => by cases e) ⟨_, rfl, t⟩
      · have t := t.2 c9
        refine g_iconst (v := (-1)) dX7_visit_21 (by decide) ?_
        exact g_iret (st := []) dX7_visit_22 (fun e => by cases e) ⟨_, rfl, t⟩
theorem w_X7_wash {Q : Int32 → tS → Prop} {S : tS} (p1 : Int32) (p2 : Int32) (t : (tk_Ms mX7_isSister [.int p1] S (fun x1 S2 => ((x1 = 0 → (tk_okQ mX7_wash Q) (-1) S2) ∧ (¬ x1 = 0 → (tk_Ms mX3_has [.ref 5, .int p2] S2 (fun x4 S5 => ((¬ x4 = 0 → (vp_in p2 8 ∧ ((¬ (S5 8 p2.toNatClampNeg) = p1 → (tk_okQ mX7_wash Q) (-2) S5) ∧ ((S5 8 p2.toNatClampNeg) = p1 → (vp_in p2 8 ∧ (((S5 6 p2.toNatClampNeg) = 3 → (tk_Ms mX3_halve [.ref 5, .int p2] S5 (fun _ S10 => (vp_in p2 8 ∧ (tk_okQ mX7_wash Q) (S10 9 p2.toNatClampNeg) S10)))) ∧ (¬ (S5 6 p2.toNatClampNeg) = 3 → (tk_okQ mX7_wash Q) (-2) S5))))))) ∧ (x4 = 0 → (tk_okQ mX7_wash Q) (-1) S5))))))))) : tk_Ms mX7_wash [.ref 0, .int p1, .int p2] S Q := by
  refine tk_Ms.of (ls := [.ref 0, .int p1, .int p2]) (by decide) (by first | exact Or.inl rfl | exact Or.inr (Or.inl rfl) | exact Or.inr (Or.inr rfl)) (Nat.le_of_ble_eq_true rfl) rfl ?_
  refine g_iload_n dX7_wash_0 rfl ?_
  refine s_S1i dX7_wash_1 sm_X7_isSister ml_X7_160 rfl (by decide) (Nat.le_of_ble_eq_true rfl) rfl (tk_Ms.mono t (fun x1 S2 t => ?_))
  refine g_if_eq (tgt := 18) dX7_wash_4 (by decide) (fun c3 => ?_) (fun c3 => ?_)
  · have t := t.1 c3
    refine g_iconst (v := (-1)) dX7_wash_18 (by decide) ?_
    exact g_iret (st := []) dX7_wash_19 (fun e => by cases e) ⟨_, rfl, t⟩
  · have t := t.2 c3
    refine g_aload_n dX7_wash_7 rfl ?_
    refine g_getR (n := 13) dX7_wash_8 fl_X7_19 rfl (by decide) (by decide) rfl rfl ?_
    refine g_iload_n dX7_wash_11 rfl ?_
    refine s_V1i dX7_wash_12 vm_X3_has ml_X7_96 rfl rfl (by decide) (Nat.le_of_ble_eq_true rfl) rfl (tk_Ms.mono t (fun x4 S5 t => ?_))
    refine g_if_ne (tgt := 20) dX7_wash_15 (by decide) (fun c6 => ?_) (fun c6 => ?_)
    · have t := t.1 c6
      refine g_aload_n dX7_wash_20 rfl ?_
      refine g_getR (n := 13) dX7_wash_21 fl_X7_19 rfl (by decide) (by decide) rfl rfl ?_
      refine g_getR (n := 6) dX7_wash_24 fl_X7_106 rfl (by decide) (by decide) rfl rfl ?_
      refine g_iload_n dX7_wash_27 rfl ?_
      refine g_iald (n := 8) dX7_wash_28 rfl t.1 ?_
      have t := t.2
      refine g_iload_n dX7_wash_29 rfl ?_
      refine g_icmp_ne (tgt := 46) dX7_wash_30 (by decide) (fun c7 => ?_) (fun c7 => ?_)
      · have t := t.1 c7
        refine g_bipush (v := (-2)) dX7_wash_46 (by decide) ?_
        exact g_iret (st := []) dX7_wash_48 (fun e => by cases e) ⟨_, rfl, t⟩
      · have t := t.2 c7
        refine g_aload_n dX7_wash_33 rfl ?_
        refine g_getR (n := 13) dX7_wash_34 fl_X7_19 rfl (by decide) (by decide) rfl rfl ?_
        refine g_getR (n := 6) dX7_wash_37 fl_X7_99 rfl (by decide) (by decide) rfl rfl ?_
        refine g_iload_n dX7_wash_40 rfl ?_
        refine g_iald (n := 8) dX7_wash_41 rfl t.1 ?_
        have t := t.2
        refine g_iconst (v := 3) dX7_wash_42 (by decide) ?_
        refine g_icmp_eq (tgt := 49) dX7_wash_43 (by decide) (fun c8 => ?_) (fun c8 => ?_)
        · have t := t.1 c8
          refine g_aload_n dX7_wash_49 rfl ?_
          refine g_getR (n := 13) dX7_wash_50 fl_X7_19 rfl (by decide) (by decide) rfl rfl ?_
          refine g_iload_n dX7_wash_53 rfl ?_
          refine s_V1v dX7_wash_54 vm_X3_halve ml_X7_185 rfl rfl (by decide) (Nat.le_of_ble_eq_true rfl) rfl (tk_Ms.mono t (fun _ S10 t => ?_))
          refine g_aload_n dX7_wash_57 rfl ?_
          refine g_getR (n := 13) dX7_wash_58 fl_X7_19 rfl (by decide) (by decide) rfl rfl ?_
          refine g_getR (n := 6) dX7_wash_61 fl_X7_109 rfl (by decide) (by decide) rfl rfl ?_
          refine g_iload_n dX7_wash_64 rfl ?_
          refine g_iald (n := 8) dX7_wash_65 rfl t.1 ?_
          have t := t.2
          exact g_iret (st := []) dX7_wash_66 (fun e => by cases e) ⟨_, rfl, t⟩
        · have t := t.2 c8
          refine g_bipush (v := (-2)) dX7_wash_46 (by decide) ?_
          exact g_iret (st := []) dX7_wash_48 (fun e => by cases e) ⟨_, rfl, t⟩
    · have t := t.2 c6
      refine g_iconst (v := (-1)) dX7_wash_18 (by decide) ?_
      exact g_iret (st := []) dX7_wash_19 (fun e => by cases e) ⟨_, rfl, t⟩
theorem w_X7_change {Q : Int32 → tS → Prop} {S : tS} (p1 : Int32) (p2 : Int32) (t : (tk_Ms mX3_has [.ref 5, .int p1] S (fun x1 S2 => ((x1 = 0 → (tk_okQ mX7_change Q) (-1) S2) ∧ (¬ x1 = 0 → ((p2 < 0 → (tk_okQ mX7_change Q) (-1) S2) ∧ (¬ p2 < 0 → ((p2 ≤ 4 → (vp_in p1 8 ∧ ((¬ (S2 8 p1.toNatClampNeg) = p2 → (vp_in p1 8 ∧ (tk_okQ mX7_change Q) (S2 8 p1.toNatClampNeg) (tk_up S2 8 p1.toNatClampNeg p2))) ∧ ((S2 8 p1.toNatClampNeg) = p2 → (tk_okQ mX7_change Q) (-2) S2)))) ∧ (¬ p2 ≤ 4 → (tk_okQ mX7_change Q) (-1) S2))))))))) : tk_Ms mX7_change [.ref 0, .int p1, .int p2] S Q := by
  refine tk_Ms.of (ls := [.ref 0, .int p1, .int p2, .null]) (by decide) (by first | exact Or.inl rfl | exact Or.inr (Or.inl rfl) | exact Or.inr (Or.inr rfl)) (Nat.le_of_ble_eq_true rfl) rfl ?_
  refine g_aload_n dX7_change_0 rfl ?_
  refine g_getR (n := 13) dX7_change_1 fl_X7_19 rfl (by decide) (by decide) rfl rfl ?_
  refine g_iload_n dX7_change_4 rfl ?_
  refine s_V1i dX7_change_5 vm_X3_has ml_X7_96 rfl rfl (by decide) (Nat.le_of_ble_eq_true rfl) rfl (tk_Ms.mono t (fun x1 S2 t => ?_))
  refine g_if_eq (tgt := 20) dX7_change_8 (by decide) (fun c3 => ?_) (fun c3 => ?_)
  · have t := t.1 c3
    refine g_iconst (v := (-1)) dX7_change_20 (by decide) ?_
    exact g_iret (st := []) dX7_change_21 (fun e => by cases e) ⟨_, rfl, t⟩
  · have t := t.2 c3
    refine g_iload_n dX7_change_11 rfl ?_
    refine g_if_lt (tgt := 20) dX7_change_12 (by decide) (fun c4 => ?_) (fun c4 => ?_)
    · have t := t.1 c4
      refine g_iconst (v := (-1)) dX7_change_20 (by decide) ?_
      exact g_iret (st := []) dX7_change_21 (fun e => by cases e) ⟨_, rfl, t⟩
    · have t := t.2 c4
      refine g_iload_n dX7_change_15 rfl ?_
      refine g_iconst (v := 4) dX7_change_16 (by decide) ?_
      refine g_icmp_le (tgt := 22) dX7_change_17 (by decide) (fun c5 => ?_) (fun c5 => ?_)
      · have t := t.1 c5
        refine g_aload_n dX7_change_22 rfl ?_
        refine g_getR (n := 13) dX7_change_23 fl_X7_19 rfl (by decide) (by decide) rfl rfl ?_
        refine g_getR (n := 6) dX7_change_26 fl_X7_106 rfl (by decide) (by decide) rfl rfl ?_
        refine g_iload_n dX7_change_29 rfl ?_
        refine g_iald (n := 8) dX7_change_30 rfl t.1 ?_
        have t := t.2
        refine g_istore_n (ls' := [.ref 0, .int p1, .int p2, .int (S2 8 p1.toNatClampNeg)]) dX7_change_31 rfl (by decide) rfl ?_
        refine g_iload_n dX7_change_32 rfl ?_
        refine g_iload_n dX7_change_33 rfl ?_
        refine g_icmp_ne (tgt := 40) dX7_change_34 (by decide) (fun c6 => ?_) (fun c6 => ?_)
        · have t := t.1 c6
          refine g_aload_n dX7_change_40 rfl ?_
          refine g_getR (n := 13) dX7_change_41 fl_X7_19 rfl (by decide) (by decide) rfl rfl ?_
          refine g_getR (n := 6) dX7_change_44 fl_X7_106 rfl (by decide) (by decide) rfl rfl ?_
          refine g_iload_n dX7_change_47 rfl ?_
          refine g_iload_n dX7_change_48 rfl ?_
          refine g_iast (n := 8) dX7_change_49 rfl t.1 ?_
          have t := t.2
          refine g_iload_n dX7_change_50 rfl ?_
          exact g_iret (st := []) dX7_change_51 (fun e => by cases e) ⟨_, rfl, t⟩
        · have t := t.2 c6
          refine g_bipush (v := (-2)) dX7_change_37 (by decide) ?_
          exact g_iret (st := []) dX7_change_39 (fun e => by cases e) ⟨_, rfl, t⟩
      · have t := t.2 c5
        refine g_iconst (v := (-1)) dX7_change_20 (by decide) ?_
        exact g_iret (st := []) dX7_change_21 (fun e => by cases e) ⟨_, rfl, t⟩
theorem w_X7_next {Q : Int32 → tS → Prop} {S : tS}  (t : (((S 0 2) < 999 → (tk_okQ mX7_next Q) ((S 0 2) + 1) (tk_up S 0 2 ((S 0 2) + 1))) ∧ (¬ (S 0 2) < 999 → (tk_okQ mX7_next Q) (-3) S))) : tk_Ms mX7_next [.ref 0] S Q := by
  refine tk_Ms.of (ls := [.ref 0]) (by decide) (by first | exact Or.inl rfl | exact Or.inr (Or.inl rfl) | exact Or.inr (Or.inr rfl)) (Nat.le_of_ble_eq_true rfl) rfl ?_
  refine g_aload_n dX7_next_0 rfl ?_
  refine g_getI (n := 13) dX7_next_1 fl_X7_23 rfl (by decide) (by decide) rfl ?_
  refine g_sipush (v := 999) dX7_next_4 (by decide) ?_
  refine g_icmp_lt (tgt := 13) dX7_next_7 (by decide) (fun c1 => ?_) (fun c1 => ?_)
  · have t := t.1 c1
    refine g_aload_n dX7_next_13 rfl ?_
    refine g_dup dX7_next_14 rfl ?_
    refine g_getI (n := 13) dX7_next_15 fl_X7_23 rfl (by decide) (by decide) rfl ?_
    refine g_iconst (v := 1) dX7_next_18 (by decide) ?_
    refine g_iadd dX7_next_19 ?_
    refine g_putI (n := 13) dX7_next_20 fl_X7_23 rfl (by decide) (by decide) rfl rfl rfl ?_
    refine g_aload_n dX7_next_23 rfl ?_
    refine g_getI (n := 13) dX7_next_24 fl_X7_23 rfl (by decide) (by decide) rfl ?_
    exact g_iret (st := []) dX7_next_27 (fun e => by cases e) ⟨_, rfl, t⟩
  · have t := t.2 c1
    refine g_bipush (v := (-3)) dX7_next_10 (by decide) ?_
    exact g_iret (st := []) dX7_next_12 (fun e => by cases e) ⟨_, rfl, t⟩
theorem w_X7_shown {Q : Int32 → tS → Prop} {S : tS} (p1 : Int32) (p2 : Int32) (t : (tk_Ms mX3_has [.ref 5, .int p1] S (fun x1 S2 => ((x1 = 0 → (tk_okQ mX7_shown Q) (-1) S2) ∧ (¬ x1 = 0 → (tk_Ms mX7_isDayAhead [.ref 0, .int p2] S2 (fun x4 S5 => ((¬ x4 = 0 → (tk_Ms mX3_showsOn [.ref 5, .int p1, .int p2] S5 (fun x7 S8 => (tk_okQ mX7_shown Q) x7 S8))) ∧ (x4 = 0 → (tk_okQ mX7_shown Q) (-1) S5))))))))) : tk_Ms mX7_shown [.ref 0, .int p1, .int p2] S Q := by
  refine tk_Ms.of (ls := [.ref 0, .int p1, .int p2]) (by decide) (by first | exact Or.inl rfl | exact Or.inr (Or.inl rfl) | exact Or.inr (Or.inr rfl)) (Nat.le_of_ble_eq_true rfl) rfl ?_
  refine g_aload_n dX7_shown_0 rfl ?_
  refine g_getR (n := 13) dX7_shown_1 fl_X7_19 rfl (by decide) (by decide) rfl rfl ?_
  refine g_iload_n dX7_shown_4 rfl ?_
  refine s_V1i dX7_shown_5 vm_X3_has ml_X7_96 rfl rfl (by decide) (Nat.le_of_ble_eq_true rfl) rfl (tk_Ms.mono t (fun x1 S2 t => ?_))
  refine g_if_eq (tgt := 19) dX7_shown_8 (by decide) (fun c3 => ?_) (fun c3 => ?_)
  · have t := t.1 c3
    refine g_iconst (v := (-1)) dX7_shown_19 (by decide) ?_
    exact g_iret (st := []) dX7_shown_20 (fun e => by cases e) ⟨_, rfl, t⟩
  · have t := t.2 c3
    refine g_aload_n dX7_shown_11 rfl ?_
    refine g_iload_n dX7_shown_12 rfl ?_
    refine s_V1i dX7_shown_13 vm_X7_isDayAhead ml_X7_188 rfl rfl (by decide) (Nat.le_of_ble_eq_true rfl) rfl (tk_Ms.mono t (fun x4 S5 t => ?_))
    refine g_if_ne (tgt := 21) dX7_shown_16 (by decide) (fun c6 => ?_) (fun c6 => ?_)
    · have t := t.1 c6
      refine g_aload_n dX7_shown_21 rfl ?_
      refine g_getR (n := 13) dX7_shown_22 fl_X7_19 rfl (by decide) (by decide) rfl rfl ?_
      refine g_iload_n dX7_shown_25 rfl ?_
      refine g_iload_n dX7_shown_26 rfl ?_
      refine s_V2i dX7_shown_27 vm_X3_showsOn ml_X7_191 rfl rfl (by decide) (Nat.le_of_ble_eq_true rfl) rfl (tk_Ms.mono t (fun x7 S8 t => ?_))
      exact g_iret (st := []) dX7_shown_30 (fun e => by cases e) ⟨_, rfl, t⟩
    · have t := t.2 c6
      refine g_iconst (v := (-1)) dX7_shown_19 (by decide) ?_
      exact g_iret (st := []) dX7_shown_20 (fun e => by cases e) ⟨_, rfl, t⟩
theorem w_X7_seen {Q : Int32 → tS → Prop} {S : tS} (p1 : Int32) (p2 : Int32) (p3 : Int32) (t : (tk_Ms mX7_isSister [.int p1] S (fun x1 S2 => ((x1 = 0 → (tk_okQ mX7_seen Q) (-1) S2) ∧ (¬ x1 = 0 → (tk_Ms mX7_isPlace [.int p2] S2 (fun x4 S5 => ((x4 = 0 → (tk_okQ mX7_seen Q) (-1) S5) ∧ (¬ x4 = 0 → ((p3 < 0 → (tk_okQ mX7_seen Q) (-1) S5) ∧ (¬ p3 < 0 → ((p3 ≤ 1 → ((¬ p3 = 1 → (tk_Ms mX3_ring [.ref 5, .int p1, .int 0] S5 (fun x10 S11 => (tk_Ms mX6_measure [.ref 28, .ref 1, .int 0, .int x10] S11 (fun _ S13 => (vp_in p2 11 ∧ ((¬ (S13 29 p2.toNatClampNeg) = (-1) → (tk_okQ mX7_seen Q) (2 * (S13 29 p2.toNatClampNeg)) S13) ∧ ((S13 29 p2.toNatClampNeg) = (-1) → (tk_okQ mX7_seen Q) (-4) S13)))))))) ∧ (p3 = 1 → (tk_Ms mX3_ring [.ref 5, .int p1, .int 1] S5 (fun x15 S16 => (tk_Ms mX6_measure [.ref 28, .ref 1, .int 0, .int x15] S16 (fun _ S18 => (vp_in p2 11 ∧ ((¬ (S18 29 p2.toNatClampNeg) = (-1) → (tk_okQ mX7_seen Q) (2 * (S18 29 p2.toNatClampNeg)) S18) ∧ ((S18 29 p2.toNatClampNeg) = (-1) → (tk_okQ mX7_seen Q) (-4) S18)))))))))) ∧ (¬ p3 ≤ 1 → (tk_okQ mX7_seen Q) (-1) S5))))))))))))) : tk_Ms mX7_seen [.ref 0, .int p1, .int p2, .int p3] S Q := by
  refine tk_Ms.of (ls := [.ref 0, .int p1, .int p2, .int p3, .null]) (by decide) (by first | exact Or.inl rfl | exact Or.inr (Or.inl rfl) | exact Or.inr (Or.inr rfl)) (Nat.le_of_ble_eq_true rfl) rfl ?_
  refine g_iload_n dX7_seen_0 rfl ?_
  refine s_S1i dX7_seen_1 sm_X7_isSister ml_X7_160 rfl (by decide) (Nat.le_of_ble_eq_true rfl) rfl (tk_Ms.mono t (fun x1 S2 t => ?_))
  refine g_if_eq (tgt := 23) dX7_seen_4 (by decide) (fun c3 => ?_) (fun c3 => ?_)
  · have t := t.1 c3
    refine g_iconst (v := (-1)) dX7_seen_23 (by decide) ?_
    exact g_iret (st := []) dX7_seen_24 (fun e => by cases e) ⟨_, rfl, t⟩
  · have t := t.2 c3
    refine g_iload_n dX7_seen_7 rfl ?_
    refine s_S1i dX7_seen_8 sm_X7_isPlace ml_X7_78 rfl (by decide) (Nat.le_of_ble_eq_true rfl) rfl (tk_Ms.mono t (fun x4 S5 t => ?_))
    refine g_if_eq (tgt := 23) dX7_seen_11 (by decide) (fun c6 => ?_) (fun c6 => ?_)
    · have t := t.1 c6
      refine g_iconst (v := (-1)) dX7_seen_23 (by decide) ?_
      exact g_iret (st := []) dX7_seen_24 (fun e => by cases e) ⟨_, rfl, t⟩
    · have t := t.2 c6
      refine g_iload_n dX7_seen_14 rfl ?_
      refine g_if_lt (tgt := 23) dX7_seen_15 (by decide) (fun c7 => ?_) (fun c7 => ?_)
      · have t := t.1 c7
        refine g_iconst (v := (-1)) dX7_seen_23 (by decide) ?_
        exact g_iret (st := []) dX7_seen_24 (fun e => by cases e) ⟨_, rfl, t⟩
      · have t := t.2 c7
        refine g_iload_n dX7_seen_18 rfl ?_
        refine g_iconst (v := 1) dX7_seen_19 (by decide) ?_
        refine g_icmp_le (tgt := 25) dX7_seen_20 (by decide) (fun c8 => ?_) (fun c8 => ?_)
        · have t := t.1 c8
          refine g_aload_n dX7_seen_25 rfl ?_
          refine g_getR (n := 13) dX7_seen_26 fl_X7_60 rfl (by decide) (by decide) rfl rfl ?_
          refine g_aload_n dX7_seen_29 rfl ?_
          refine g_getR (n := 13) dX7_seen_30 fl_X7_10 rfl (by decide) (by decide) rfl rfl ?_
          refine g_iconst (v := 0) dX7_seen_33 (by decide) ?_
          refine g_aload_n dX7_seen_34 rfl ?_
          refine g_getR (n := 13) dX7_seen_35 fl_X7_19 rfl (by decide) (by decide) rfl rfl ?_
          refine g_iload_n dX7_seen_38 rfl ?_
          refine g_iload_n dX7_seen_39 rfl ?_
          refine g_iconst (v := 1) dX7_seen_40 (by decide) ?_
          refine g_icmp_ne (tgt := 48) dX7_seen_41 (by decide) (fun c9 => ?_) (fun c9 => ?_)
          · have t := t.1 c9
            refine g_iconst (v := 0) dX7_seen_48 (by decide) ?_
            refine s_V2i dX7_seen_49 vm_X3_ring ml_X7_166 rfl rfl (by decide) (Nat.le_of_ble_eq_true rfl) rfl (tk_Ms.mono t (fun x10 S11 t => ?_))
            refine s_V3v dX7_seen_52 vm_X6_measure ml_X7_170 rfl rfl (by decide) (Nat.le_of_ble_eq_true rfl) rfl (tk_Ms.mono t (fun _ S13 t => ?_))
            refine g_aload_n dX7_seen_55 rfl ?_
            refine g_getR (n := 13) dX7_seen_56 fl_X7_60 rfl (by decide) (by decide) rfl rfl ?_
            refine g_getR (n := 1) dX7_seen_59 fl_X7_174 rfl (by decide) (by decide) rfl rfl ?_
            refine g_iload_n dX7_seen_62 rfl ?_
            refine g_iald (n := 11) dX7_seen_63 rfl t.1 ?_
            have t := t.2
            refine g_istore (ls' := [.ref 0, .int p1, .int p2, .int p3, .int (S13 29 p2.toNatClampNeg)]) dX7_seen_64 rfl (by decide) rfl ?_
            refine g_iload dX7_seen_66 rfl ?_
            refine g_iconst (v := (-1)) dX7_seen_68 (by decide) ?_
            refine g_icmp_ne (tgt := 77) dX7_seen_69 (by decide) (fun c14 => ?_) (fun c14 => ?_)
            · have t := t.1 c14
              refine g_iconst (v := 2) dX7_seen_77 (by decide) ?_
              refine g_iload dX7_seen_78 rfl ?_
              refine g_imul dX7_seen_80 ?_
              exact g_iret (st := []) dX7_seen_81 (fun e => by cases e) ⟨_, rfl, t⟩
            · have t := t.2 c14
              refine g_bipush (v := (-4)) dX7_seen_72 (by decide) ?_
              refine g_goto (tgt := 81) dX7_seen_74 (by decide) ?_
              exact g_iret (st := []) dX7_seen_81 (fun e => by cases e) ⟨_, rfl, t⟩
          · have t := t.2 c9
            refine g_iconst (v := 1) dX7_seen_44 (by decide) ?_
            refine g_goto (tgt := 49) dX7_seen_45 (by decide) ?_
            refine s_V2i dX7_seen_49 vm_X3_ring ml_X7_166 rfl rfl (by decide) (Nat.le_of_ble_eq_true rfl) rfl (tk_Ms.mono t (fun x15 S16 t => ?_))
            refine s_V3v dX7_seen_52 vm_X6_measure ml_X7_170 rfl rfl (by decide) (Nat.le_of_ble_eq_true rfl) rfl (tk_Ms.mono t (fun _ S18 t => ?_))
            refine g_aload_n dX7_seen_55 rfl ?_
            refine g_getR (n := 13) dX7_seen_56 fl_X7_60 rfl (by decide) (by decide) rfl rfl ?_
            refine g_getR (n := 1) dX7_seen_59 fl_X7_174 rfl (by decide) (by decide) rfl rfl ?_
            refine g_iload_n dX7_seen_62 rfl ?_
            refine g_iald (n := 11) dX7_seen_63 rfl t.1 ?_
            have t := t.2
            refine g_istore (ls' := [.ref 0, .int p1, .int p2, .int p3, .int (S18 29 p2.toNatClampNeg)]) dX7_seen_64 rfl (by decide) rfl ?_
            refine g_iload dX7_seen_66 rfl ?_
            refine g_iconst (v := (-1)) dX7_seen_68 (by decide) ?_
            refine g_icmp_ne (tgt := 77) dX7_seen_69 (by decide) (fun c19 => ?_) (fun c19 => ?_)
            · have t := t.1 c19
              refine g_iconst (v := 2) dX7_seen_77 (by decide) ?_
              refine g_iload dX7_seen_78 rfl ?_
              refine g_imul dX7_seen_80 ?_
              exact g_iret (st := []) dX7_seen_81 (fun e => by cases e) ⟨_, rfl, t⟩
            · have t := t.2 c19
              refine g_bipush (v := (-4)) dX7_seen_72 (by decide) ?_
              refine g_goto (tgt := 81) dX7_seen_74 (by decide) ?_
              exact g_iret (st := []) dX7_seen_81 (fun e => by cases e) ⟨_, rfl, t⟩
        · have t := t.2 c8
          refine g_iconst (v := (-1)) dX7_seen_23 (by decide) ?_
          exact g_iret (st := []) dX7_seen_24 (fun e => by cases e) ⟨_, rfl, t⟩
theorem w_X7_reach {Q : Int32 → tS → Prop} {S : tS} (p1 : Int32) (t : ((p1 < 0 → (tk_okQ mX7_reach Q) (-1) S) ∧ (¬ p1 < 0 → ((p1 < (1 <<< ((S 5 0) &&& 31)) → (tk_Ms mX6_measure [.ref 28, .ref 1, .int 0, .int p1] S (fun _ S4 => tk_Gs mX7_reach none 36 [.ref 0, .int p1, .int 0, .int 0] [] S4 (tk_okQ mX7_reach Q)))) ∧ (¬ p1 < (1 <<< ((S 5 0) &&& 31)) → (tk_okQ mX7_reach Q) (-1) S))))) : tk_Ms mX7_reach [.ref 0, .int p1] S Q := by
  refine tk_Ms.of (ls := [.ref 0, .int p1, .null, .null]) (by decide) (by first | exact Or.inl rfl | exact Or.inr (Or.inl rfl) | exact Or.inr (Or.inr rfl)) (Nat.le_of_ble_eq_true rfl) rfl ?_
  refine g_iload_n dX7_reach_0 rfl ?_
  refine g_if_lt (tgt := 17) dX7_reach_1 (by decide) (fun c1 => ?_) (fun c1 => ?_)
  · have t := t.1 c1
    refine g_iconst (v := (-1)) dX7_reach_17 (by decide) ?_
    exact g_iret (st := []) dX7_reach_18 (fun e => by cases e) ⟨_, rfl, t⟩
  · have t := t.2 c1
    refine g_iload_n dX7_reach_4 rfl ?_
    refine g_iconst (v := 1) dX7_reach_5 (by decide) ?_
    refine g_aload_n dX7_reach_6 rfl ?_
    refine g_getR (n := 13) dX7_reach_7 fl_X7_19 rfl (by decide) (by decide) rfl rfl ?_
    refine g_getI (n := 6) dX7_reach_10 fl_X7_149 rfl (by decide) (by decide) rfl ?_
    refine g_ishl dX7_reach_13 ?_
    refine g_icmp_lt (tgt := 19) dX7_reach_14 (by decide) (fun c2 => ?_) (fun c2 => ?_)
    · have t := t.1 c2
      refine g_aload_n dX7_reach_19 rfl ?_
      refine g_getR (n := 13) dX7_reach_20 fl_X7_60 rfl (by decide) (by decide) rfl rfl ?_
      refine g_aload_n dX7_reach_23 rfl ?_
      refine g_getR (n := 13) dX7_reach_24 fl_X7_10 rfl (by decide) (by decide) rfl rfl ?_
      refine g_iconst (v := 0) dX7_reach_27 (by decide) ?_
      refine g_iload_n dX7_reach_28 rfl ?_
      refine s_V3v dX7_reach_29 vm_X6_measure ml_X7_170 rfl rfl (by decide) (Nat.le_of_ble_eq_true rfl) rfl (tk_Ms.mono t (fun _ S4 t => ?_))
      refine g_iconst (v := 0) dX7_reach_32 (by decide) ?_
      refine g_istore_n (ls' := [.ref 0, .int p1, .int 0, .null]) dX7_reach_33 rfl (by decide) rfl ?_
      refine g_iconst (v := 0) dX7_reach_34 (by decide) ?_
      refine g_istore_n (ls' := [.ref 0, .int p1, .int 0, .int 0]) dX7_reach_35 rfl (by decide) rfl ?_
      exact t
    · have t := t.2 c2
      refine g_iconst (v := (-1)) dX7_reach_17 (by decide) ?_
      exact g_iret (st := []) dX7_reach_18 (fun e => by cases e) ⟨_, rfl, t⟩
theorem w_X7_reach_36 {Q : Int32 → tS → Prop} {S : tS} (l1 : Int32) (l2 : Int32) (l3 : Int32)  (t : ((11 ≤ l3 → Q l2 S) ∧ (¬ 11 ≤ l3 → (vp_in l3 11 ∧ (((S 29 l3.toNatClampNeg) = (-1) → tk_Gs mX7_reach none 36 [.ref 0, .int l1, .int l2, .int (l3 + 1)] [] S Q) ∧ (¬ (S 29 l3.toNatClampNeg) = (-1) → tk_Gs mX7_reach none 36 [.ref 0, .int l1, .int (l2 ||| (1 <<< (l3 &&& 31))), .int (l3 + 1)] [] S Q)))))) : tk_Gs mX7_reach none 36 [.ref 0, .int l1, .int l2, .int l3] [] S Q := by
  show tk_G _ 0 0 _ _ _ _ (tkSH, S, tkRF) _
  refine g_iload_n dX7_reach_36 rfl ?_
  refine g_bipush (v := 11) dX7_reach_37 (by decide) ?_
  refine g_icmp_ge (tgt := 67) dX7_reach_39 (by decide) (fun c1 => ?_) (fun c1 => ?_)
  · have t := t.1 c1
    refine g_iload_n dX7_reach_67 rfl ?_
    exact g_iret (st := []) dX7_reach_68 (fun e => by cases e) ⟨_, rfl, t⟩
  · have t := t.2 c1
    refine g_aload_n dX7_reach_42 rfl ?_
    refine g_getR (n := 13) dX7_reach_43 fl_X7_60 rfl (by decide) (by decide) rfl rfl ?_
    refine g_getR (n := 1) dX7_reach_46 fl_X7_174 rfl (by decide) (by decide) rfl rfl ?_
    refine g_iload_n dX7_reach_49 rfl ?_
    refine g_iald (n := 11) dX7_reach_50 rfl t.1 ?_
    have t := t.2
    refine g_iconst (v := (-1)) dX7_reach_51 (by decide) ?_
    refine g_icmp_eq (tgt := 61) dX7_reach_52 (by decide) (fun c2 => ?_) (fun c2 => ?_)
    · have t := t.1 c2
      refine g_iinc (v := l3 + 1) (ls' := [.ref 0, .int l1, .int l2, .int (l3 + 1)]) dX7_reach_61 rfl rfl (by decide) rfl rfl ?_
      refine g_goto (tgt := 36) dX7_reach_64 (by decide) ?_
      exact t
    · have t := t.2 c2
      refine g_iload_n dX7_reach_55 rfl ?_
      refine g_iconst (v := 1) dX7_reach_56 (by decide) ?_
      refine g_iload_n dX7_reach_57 rfl ?_
      refine g_ishl dX7_reach_58 ?_
      refine g_ior dX7_reach_59 ?_
      refine g_istore_n (ls' := [.ref 0, .int l1, .int (l2 ||| (1 <<< (l3 &&& 31))), .int l3]) dX7_reach_60 rfl (by decide) rfl ?_
      refine g_iinc (v := l3 + 1) (ls' := [.ref 0, .int l1, .int (l2 ||| (1 <<< (l3 &&& 31))), .int (l3 + 1)]) dX7_reach_61 rfl rfl (by decide) rfl rfl ?_
      refine g_goto (tgt := 36) dX7_reach_64 (by decide) ?_
      exact t
theorem w_X7_fits {Q : Int32 → tS → Prop} {S : tS} (p1 : Int32) (p2 : Int32) (p3 : Int32) (t : ((p1 < (-1) → tk_Gs mX7_fits none 22 [.ref 0, .int p1, .int p2, .int p3, .null, .null, .null, .null, .null] [] S (tk_okQ mX7_fits Q)) ∧ (¬ p1 < (-1) → ((16 < p1 → tk_Gs mX7_fits none 22 [.ref 0, .int p1, .int p2, .int p3, .null, .null, .null, .null, .null] [] S (tk_okQ mX7_fits Q)) ∧ (¬ 16 < p1 → ((p2 < (-1) → tk_Gs mX7_fits none 22 [.ref 0, .int p1, .int p2, .int p3, .null, .null, .null, .null, .null] [] S (tk_okQ mX7_fits Q)) ∧ (¬ p2 < (-1) → ((p2 ≤ 8 → ((p3 < (-1) → tk_Gs mX7_fits none 39 [.ref 0, .int p1, .int p2, .int p3, .null, .null, .null, .null, .null] [] S (tk_okQ mX7_fits Q)) ∧ (¬ p3 < (-1) → ((p3 = 0 → tk_Gs mX7_fits none 39 [.ref 0, .int p1, .int p2, .int p3, .null, .null, .null, .null, .null] [] S (tk_okQ mX7_fits Q)) ∧ (¬ p3 = 0 → ((p3 < 11 → (tk_Ms mX6_measure [.ref 28, .ref 1, .int 0, .int 255] S (fun _ S9 => tk_Gs mX7_fits none 62 [.ref 0, .int p1, .int p2, .int p3, .int 0, .int 1, .null, .null, .null] [] S9 (tk_okQ mX7_fits Q)))) ∧ (¬ p3 < 11 → tk_Gs mX7_fits none 39 [.ref 0, .int p1, .int p2, .int p3, .null, .null, .null, .null, .null] [] S (tk_okQ mX7_fits Q)))))))) ∧ (¬ p2 ≤ 8 → tk_Gs mX7_fits none 22 [.ref 0, .int p1, .int p2, .int p3, .null, .null, .null, .null, .null] [] S (tk_okQ mX7_fits Q)))))))))) : tk_Ms mX7_fits [.ref 0, .int p1, .int p2, .int p3] S Q := by
  refine tk_Ms.of (ls := [.ref 0, .int p1, .int p2, .int p3, .null, .null, .null, .null, .null]) (by decide) (by first | exact Or.inl rfl | exact Or.inr (Or.inl rfl) | exact Or.inr (Or.inr rfl)) (Nat.le_of_ble_eq_true rfl) rfl ?_
  refine g_iload_n dX7_fits_0 rfl ?_
  refine g_iconst (v := (-1)) dX7_fits_1 (by decide) ?_
  refine g_icmp_lt (tgt := 22) dX7_fits_2 (by decide) (fun c1 => ?_) (fun c1 => ?_)
  · have t := t.1 c1
    exact t
  · have t := t.2 c1
    refine g_iload_n dX7_fits_5 rfl ?_
    refine g_bipush (v := 16) dX7_fits_6 (by decide) ?_
    refine g_icmp_gt (tgt := 22) dX7_fits_8 (by decide) (fun c2 => ?_) (fun c2 => ?_)
    · have t := t.1 c2
      exact t
    · have t := t.2 c2
      refine g_iload_n dX7_fits_11 rfl ?_
      refine g_iconst (v := (-1)) dX7_fits_12 (by decide) ?_
      refine g_icmp_lt (tgt := 22) dX7_fits_13 (by decide) (fun c3 => ?_) (fun c3 => ?_)
      · have t := t.1 c3
        exact t
      · have t := t.2 c3
        refine g_iload_n dX7_fits_16 rfl ?_
        refine g_bipush (v := 8) dX7_fits_17 (by decide) ?_
        refine g_icmp_le (tgt := 24) dX7_fits_19 (by decide) (fun c4 => ?_) (fun c4 => ?_)
        · have t := t.1 c4
          refine g_iload_n dX7_fits_24 rfl ?_
          refine g_iconst (v := (-1)) dX7_fits_25 (by decide) ?_
          refine g_icmp_lt (tgt := 39) dX7_fits_26 (by decide) (fun c5 => ?_) (fun c5 => ?_)
          · have t := t.1 c5
            exact t
          · have t := t.2 c5
            refine g_iload_n dX7_fits_29 rfl ?_
            refine g_if_eq (tgt := 39) dX7_fits_30 (by decide) (fun c6 => ?_) (fun c6 => ?_)
            · have t := t.1 c6
              exact t
            · have t := t.2 c6
              refine g_iload_n dX7_fits_33 rfl ?_
              refine g_bipush (v := 11) dX7_fits_34 (by decide) ?_
              refine g_icmp_lt (tgt := 41) dX7_fits_36 (by decide) (fun c7 => ?_) (fun c7 => ?_)
              · have t := t.1 c7
                refine g_aload_n dX7_fits_41 rfl ?_
                refine g_getR (n := 13) dX7_fits_42 fl_X7_60 rfl (by decide) (by decide) rfl rfl ?_
                refine g_aload_n dX7_fits_45 rfl ?_
                refine g_getR (n := 13) dX7_fits_46 fl_X7_10 rfl (by decide) (by decide) rfl rfl ?_
                refine g_iconst (v := 0) dX7_fits_49 (by decide) ?_
                refine g_sipush (v := 255) dX7_fits_50 (by decide) ?_
                refine s_V3v dX7_fits_53 vm_X6_measure ml_X7_170 rfl rfl (by decide) (Nat.le_of_ble_eq_true rfl) rfl (tk_Ms.mono t (fun _ S9 t => ?_))
                refine g_iconst (v := 0) dX7_fits_56 (by decide) ?_
                refine g_istore (ls' := [.ref 0, .int p1, .int p2, .int p3, .int 0, .null, .null, .null, .null]) dX7_fits_57 rfl (by decide) rfl ?_
                refine g_iconst (v := 1) dX7_fits_59 (by decide) ?_
                refine g_istore (ls' := [.ref 0, .int p1, .int p2, .int p3, .int 0, .int 1, .null, .null, .null]) dX7_fits_60 rfl (by decide) rfl ?_
                exact t
              · have t := t.2 c7
                exact t
        · have t := t.2 c4
          exact t
theorem w_X7_fits_22 {Q : Int32 → tS → Prop} {S : tS} (l1 : Int32) (l2 : Int32) (l3 : Int32)  (t : Q (-1) S) : tk_Gs mX7_fits none 22 [.ref 0, .int l1, .int l2, .int l3, .null, .null, .null, .null, .null] [] S Q := by
  show tk_G _ 0 0 _ _ _ _ (tkSH, S, tkRF) _
  refine g_iconst (v := (-1)) dX7_fits_22 (by decide) ?_
  exact g_iret (st := []) dX7_fits_23 (fun e => by cases e) ⟨_, rfl, t⟩
theorem w_X7_fits_39 {Q : Int32 → tS → Prop} {S : tS} (l1 : Int32) (l2 : Int32) (l3 : Int32)  (t : Q (-1) S) : tk_Gs mX7_fits none 39 [.ref 0, .int l1, .int l2, .int l3, .null, .null, .null, .null, .null] [] S Q := by
  show tk_G _ 0 0 _ _ _ _ (tkSH, S, tkRF) _
  refine g_iconst (v := (-1)) dX7_fits_39 (by decide) ?_
  exact g_iret (st := []) dX7_fits_40 (fun e => by cases e) ⟨_, rfl, t⟩
theorem w_X7_fits_62 {Q : Int32 → tS → Prop} {S : tS} (l1 : Int32) (l2 : Int32) (l3 : Int32) (l4 : Int32) (l5 : Int32)  (t : ((9 < l5 → Q l4 S) ∧ (¬ 9 < l5 → ((l1 = (-1) → tk_Gs mX7_fits none 87 [.ref 0, .int l1, .int l2, .int l3, .int l4, .int l5, .null, .null, .null] [] S Q) ∧ (¬ l1 = (-1) → (tk_Ms mX2_at [.ref 1, .int l5] S (fun x3 S4 => ((¬ x3 = l1 → tk_Gs mX7_fits none 92 [.ref 0, .int l1, .int l2, .int l3, .int l4, .int l5, .null, .null, .null] [.int 0] S4 Q) ∧ (x3 = l1 → tk_Gs mX7_fits none 87 [.ref 0, .int l1, .int l2, .int l3, .int l4, .int l5, .null, .null, .null] [] S4 Q))))))))) : tk_Gs mX7_fits none 62 [.ref 0, .int l1, .int l2, .int l3, .int l4, .int l5, .null, .null, .null] [] S Q := by
  show tk_G _ 0 0 _ _ _ _ (tkSH, S, tkRF) _
  refine g_iload dX7_fits_62 rfl ?_
  refine g_bipush (v := 9) dX7_fits_64 (by decide) ?_
  refine g_icmp_gt (tgt := 175) dX7_fits_66 (by decide) (fun c1 => ?_) (fun c1 => ?_)
  · have t := t.1 c1
    refine g_iload dX7_fits_175 rfl ?_
    exact g_iret (st := []) dX7_fits_177 (fun e => by cases e) ⟨_, rfl, t⟩
  · have t := t.2 c1
    refine g_iload_n dX7_fits_69 rfl ?_
    refine g_iconst (v := (-1)) dX7_fits_70 (by decide) ?_
    refine g_icmp_eq (tgt := 87) dX7_fits_71 (by decide) (fun c2 => ?_) (fun c2 => ?_)
    · have t := t.1 c2
      exact t
    · have t := t.2 c2
      refine g_aload_n dX7_fits_74 rfl ?_
      refine g_getR (n := 13) dX7_fits_75 fl_X7_10 rfl (by decide) (by decide) rfl rfl ?_
      refine g_iload dX7_fits_78 rfl ?_
      refine s_V1i dX7_fits_80 vm_X2_at ml_X7_157 rfl rfl (by decide) (Nat.le_of_ble_eq_true rfl) rfl (tk_Ms.mono t (fun x3 S4 t => ?_))
      refine g_iload_n dX7_fits_83 rfl ?_
      refine g_icmp_ne (tgt := 91) dX7_fits_84 (by decide) (fun c5 => ?_) (fun c5 => ?_)
      · have t := t.1 c5
        refine g_iconst (v := 0) dX7_fits_91 (by decide) ?_
        exact t
      · have t := t.2 c5
        exact t
theorem w_X7_fits_87 {Q : Int32 → tS → Prop} {S : tS} (l1 : Int32) (l2 : Int32) (l3 : Int32) (l4 : Int32) (l5 : Int32)  (t : tk_Gs mX7_fits none 92 [.ref 0, .int l1, .int l2, .int l3, .int l4, .int l5, .null, .null, .null] [.int 1] S Q) : tk_Gs mX7_fits none 87 [.ref 0, .int l1, .int l2, .int l3, .int l4, .int l5, .null, .null, .null] [] S Q := by
  show tk_G _ 0 0 _ _ _ _ (tkSH, S, tkRF) _
  refine g_iconst (v := 1) dX7_fits_87 (by decide) ?_
  refine g_goto (tgt := 92) dX7_fits_88 (by decide) ?_
  exact t
theorem w_X7_fits_92 {Q : Int32 → tS → Prop} {S : tS} (l1 : Int32) (l2 : Int32) (l3 : Int32) (l4 : Int32) (l5 : Int32) (v0 : Int32) (t : ((l2 = (-1) → tk_Gs mX7_fits none 112 [.ref 0, .int l1, .int l2, .int l3, .int l4, .int l5, .int v0, .null, .null] [] S Q) ∧ (¬ l2 = (-1) → (tk_Ms mX2_hasLockAt [.ref 1, .int l5, .int l2] S (fun x2 S3 => ((x2 = 0 → tk_Gs mX7_fits none 117 [.ref 0, .int l1, .int l2, .int l3, .int l4, .int l5, .int v0, .null, .null] [.int 0] S3 Q) ∧ (¬ x2 = 0 → tk_Gs mX7_fits none 112 [.ref 0, .int l1, .int l2, .int l3, .int l4, .int l5, .int v0, .null, .null] [] S3 Q))))))) : tk_Gs mX7_fits none 92 [.ref 0, .int l1, .int l2, .int l3, .int l4, .int l5, .null, .null, .null] [.int v0] S Q := by
  show tk_G _ 0 0 _ _ _ _ (tkSH, S, tkRF) _
  refine g_istore (ls' := [.ref 0, .int l1, .int l2, .int l3, .int l4, .int l5, .int v0, .null, .null]) dX7_fits_92 rfl (by decide) rfl ?_
  refine g_iload_n dX7_fits_94 rfl ?_
  refine g_iconst (v := (-1)) dX7_fits_95 (by decide) ?_
  refine g_icmp_eq (tgt := 112) dX7_fits_96 (by decide) (fun c1 => ?_) (fun c1 => ?_)
  · have t := t.1 c1
    exact t
  · have t := t.2 c1
    refine g_aload_n dX7_fits_99 rfl ?_
    refine g_getR (n := 13) dX7_fits_100 fl_X7_10 rfl (by decide) (by decide) rfl rfl ?_
    refine g_iload dX7_fits_103 rfl ?_
    refine g_iload_n dX7_fits_105 rfl ?_
    refine s_V2i dX7_fits_106 vm_X2_hasLockAt ml_X7_194 rfl rfl (by decide) (Nat.le_of_ble_eq_true rfl) rfl (tk_Ms.mono t (fun x2 S3 t => ?_))
    refine g_if_eq (tgt := 116) dX7_fits_109 (by decide) (fun c4 => ?_) (fun c4 => ?_)
    · have t := t.1 c4
      refine g_iconst (v := 0) dX7_fits_116 (by decide) ?_
      exact t
    · have t := t.2 c4
      exact t
theorem w_X7_fits_112 {Q : Int32 → tS → Prop} {S : tS} (l1 : Int32) (l2 : Int32) (l3 : Int32) (l4 : Int32) (l5 : Int32) (l6 : Int32)  (t : tk_Gs mX7_fits none 117 [.ref 0, .int l1, .int l2, .int l3, .int l4, .int l5, .int l6, .null, .null] [.int 1] S Q) : tk_Gs mX7_fits none 112 [.ref 0, .int l1, .int l2, .int l3, .int l4, .int l5, .int l6, .null, .null] [] S Q := by
  show tk_G _ 0 0 _ _ _ _ (tkSH, S, tkRF) _
  refine g_iconst (v := 1) dX7_fits_112 (by decide) ?_
  refine g_goto (tgt := 117) dX7_fits_113 (by decide) ?_
  exact t
theorem w_X7_fits_117 {Q : Int32 → tS → Prop} {S : tS} (l1 : Int32) (l2 : Int32) (l3 : Int32) (l4 : Int32) (l5 : Int32) (l6 : Int32) (v0 : Int32) (t : ((l3 = (-1) → tk_Gs mX7_fits none 138 [.ref 0, .int l1, .int l2, .int l3, .int l4, .int l5, .int l6, .int v0, .null] [] S Q) ∧ (¬ l3 = (-1) → (vp_in l5 11 ∧ ((¬ (S 29 l5.toNatClampNeg) = l3 → tk_Gs mX7_fits none 143 [.ref 0, .int l1, .int l2, .int l3, .int l4, .int l5, .int l6, .int v0, .null] [.int 0] S Q) ∧ ((S 29 l5.toNatClampNeg) = l3 → tk_Gs mX7_fits none 138 [.ref 0, .int l1, .int l2, .int l3, .int l4, .int l5, .int l6, .int v0, .null] [] S Q)))))) : tk_Gs mX7_fits none 117 [.ref 0, .int l1, .int l2, .int l3, .int l4, .int l5, .int l6, .null, .null] [.int v0] S Q := by
  show tk_G _ 0 0 _ _ _ _ (tkSH, S, tkRF) _
  refine g_istore (ls' := [.ref 0, .int l1, .int l2, .int l3, .int l4, .int l5, .int l6, .int v0, .null]) dX7_fits_117 rfl (by decide) rfl ?_
  refine g_iload_n dX7_fits_119 rfl ?_
  refine g_iconst (v := (-1)) dX7_fits_120 (by decide) ?_
  refine g_icmp_eq (tgt := 138) dX7_fits_121 (by decide) (fun c1 => ?_) (fun c1 => ?_)
  · have t := t.1 c1
    exact t
  · have t := t.2 c1
    refine g_aload_n dX7_fits_124 rfl ?_
    refine g_getR (n := 13) dX7_fits_125 fl_X7_60 rfl (by decide) (by decide) rfl rfl ?_
    refine g_getR (n := 1) dX7_fits_128 fl_X7_174 rfl (by decide) (by decide) rfl rfl ?_
    refine g_iload dX7_fits_131 rfl ?_
    refine g_iald (n := 11) dX7_fits_133 rfl t.1 ?_
    have t := t.2
    refine g_iload_n dX7_fits_134 rfl ?_
    refine g_icmp_ne (tgt := 142) dX7_fits_135 (by decide) (fun c2 => ?_) (fun c2 => ?_)
    · have t := t.1 c2
      refine g_iconst (v := 0) dX7_fits_142 (by decide) ?_
      exact t
    · have t := t.2 c2
      exact t
theorem w_X7_fits_138 {Q : Int32 → tS → Prop} {S : tS} (l1 : Int32) (l2 : Int32) (l3 : Int32) (l4 : Int32) (l5 : Int32) (l6 : Int32) (l7 : Int32)  (t : tk_Gs mX7_fits none 143 [.ref 0, .int l1, .int l2, .int l3, .int l4, .int l5, .int l6, .int l7, .null] [.int 1] S Q) : tk_Gs mX7_fits none 138 [.ref 0, .int l1, .int l2, .int l3, .int l4, .int l5, .int l6, .int l7, .null] [] S Q := by
  show tk_G _ 0 0 _ _ _ _ (tkSH, S, tkRF) _
  refine g_iconst (v := 1) dX7_fits_138 (by decide) ?_
  refine g_goto (tgt := 143) dX7_fits_139 (by decide) ?_
  exact t
theorem w_X7_fits_143 {Q : Int32 → tS → Prop} {S : tS} (l1 : Int32) (l2 : Int32) (l3 : Int32) (l4 : Int32) (l5 : Int32) (l6 : Int32) (l7 : Int32) (v0 : Int32) (t : ((l6 = 0 → tk_Gs mX7_fits none 169 [.ref 0, .int l1, .int l2, .int l3, .int l4, .int l5, .int l6, .int l7, .int v0] [] S Q) ∧ (¬ l6 = 0 → ((l7 = 0 → tk_Gs mX7_fits none 169 [.ref 0, .int l1, .int l2, .int l3, .int l4, .int l5, .int l6, .int l7, .int v0] [] S Q) ∧ (¬ l7 = 0 → ((v0 = 0 → tk_Gs mX7_fits none 169 [.ref 0, .int l1, .int l2, .int l3, .int l4, .int l5, .int l6, .int l7, .int v0] [] S Q) ∧ (¬ v0 = 0 → tk_Gs mX7_fits none 169 [.ref 0, .int l1, .int l2, .int l3, .int (l4 ||| (1 <<< (l5 &&& 31))), .int l5, .int l6, .int l7, .int v0] [] S Q))))))) : tk_Gs mX7_fits none 143 [.ref 0, .int l1, .int l2, .int l3, .int l4, .int l5, .int l6, .int l7, .null] [.int v0] S Q := by
  show tk_G _ 0 0 _ _ _ _ (tkSH, S, tkRF) _
  refine g_istore (ls' := [.ref 0, .int l1, .int l2, .int l3, .int l4, .int l5, .int l6, .int l7, .int v0]) dX7_fits_143 rfl (by decide) rfl ?_
  refine g_iload dX7_fits_145 rfl ?_
  refine g_if_eq (tgt := 169) dX7_fits_147 (by decide) (fun c1 => ?_) (fun c1 => ?_)
  · have t := t.1 c1
    exact t
  · have t := t.2 c1
    refine g_iload dX7_fits_150 rfl ?_
    refine g_if_eq (tgt := 169) dX7_fits_152 (by decide) (fun c2 => ?_) (fun c2 => ?_)
    · have t := t.1 c2
      exact t
    · have t := t.2 c2
      refine g_iload dX7_fits_155 rfl ?_
      refine g_if_eq (tgt := 169) dX7_fits_157 (by decide) (fun c3 => ?_) (fun c3 => ?_)
      · have t := t.1 c3
        exact t
      · have t := t.2 c3
        refine g_iload dX7_fits_160 rfl ?_
        refine g_iconst (v := 1) dX7_fits_162 (by decide) ?_
        refine g_iload dX7_fits_163 rfl ?_
        refine g_ishl dX7_fits_165 ?_
        refine g_ior dX7_fits_166 ?_
        refine g_istore (ls' := [.ref 0, .int l1, .int l2, .int l3, .int (l4 ||| (1 <<< (l5 &&& 31))), .int l5, .int l6, .int l7, .int v0]) dX7_fits_167 rfl (by decide) rfl ?_
        exact t
theorem w_X7_fits_169 {Q : Int32 → tS → Prop} {S : tS} (l1 : Int32) (l2 : Int32) (l3 : Int32) (l4 : Int32) (l5 : Int32) (l6 : Int32) (l7 : Int32) (l8 : Int32)  (t : tk_Gs mX7_fits none 62 [.ref 0, .int l1, .int l2, .int l3, .int l4, .int (l5 + 1), .null, .null, .null] [] S Q) : tk_Gs mX7_fits none 169 [.ref 0, .int l1, .int l2, .int l3, .int l4, .int l5, .int l6, .int l7, .int l8] [] S Q := by
  show tk_G _ 0 0 _ _ _ _ (tkSH, S, tkRF) _
  refine g_iinc (v := l5 + 1) (ls' := [.ref 0, .int l1, .int l2, .int l3, .int l4, .int (l5 + 1), .int l6, .int l7, .int l8]) dX7_fits_169 rfl rfl (by decide) rfl rfl ?_
  refine g_goto (tgt := 62) dX7_fits_172 (by decide) ?_
  refine g_drop (ls' := [.ref 0, .int l1, .int l2, .int l3, .int l4, .int (l5 + 1), .null, .null, .null]) ⟨Or.inl rfl, Or.inl rfl, Or.inl rfl, Or.inl rfl, Or.inl rfl, Or.inl rfl, Or.inr rfl, Or.inr rfl, Or.inr rfl, trivial⟩ ?_
  exact t
theorem w_X7_been {Q : Int32 → tS → Prop} {S : tS} (p1 : Int32) (p2 : Int32) (p3 : Int32) (t : (tk_Ms mX7_isKind [.int p1] S (fun x1 S2 => ((x1 = 0 → (tk_okQ mX7_been Q) (-1) S2) ∧ (¬ x1 = 0 → ((p2 < 0 → (tk_okQ mX7_been Q) (-1) S2) ∧ (¬ p2 < 0 → ((30 < p2 → (tk_okQ mX7_been Q) (-1) S2) ∧ (¬ 30 < p2 → ((p3 < 0 → (tk_okQ mX7_been Q) (-1) S2) ∧ (¬ p3 < 0 → ((p3 ≤ 99 → ((¬ p2 = 0 → tk_Gs mX7_been none 43 [.ref 0, .int p1, .int p2, .int p3, .int 0, .int 1, .null] [] S2 (tk_okQ mX7_been Q)) ∧ (p2 = 0 → tk_Gs mX7_been none 43 [.ref 0, .int p1, .int p2, .int p3, .int 1, .int 1, .null] [] S2 (tk_okQ mX7_been Q)))) ∧ (¬ p3 ≤ 99 → (tk_okQ mX7_been Q) (-1) S2))))))))))))) : tk_Ms mX7_been [.ref 0, .int p1, .int p2, .int p3] S Q := by
  refine tk_Ms.of (ls := [.ref 0, .int p1, .int p2, .int p3, .null, .null, .null]) (by decide) (by first | exact Or.inl rfl | exact Or.inr (Or.inl rfl) | exact Or.inr (Or.inr rfl)) (Nat.le_of_ble_eq_true rfl) rfl ?_
  refine g_iload_n dX7_been_0 rfl ?_
  refine s_S1i dX7_been_1 sm_X7_isKind ml_X7_90 rfl (by decide) (Nat.le_of_ble_eq_true rfl) rfl (tk_Ms.mono t (fun x1 S2 t => ?_))
  refine g_if_eq (tgt := 27) dX7_been_4 (by decide) (fun c3 => ?_) (fun c3 => ?_)
  · have t := t.1 c3
    refine g_iconst (v := (-1)) dX7_been_27 (by decide) ?_
    exact g_iret (st := []) dX7_been_28 (fun e => by cases e) ⟨_, rfl, t⟩
  · have t := t.2 c3
    refine g_iload_n dX7_been_7 rfl ?_
    refine g_if_lt (tgt := 27) dX7_been_8 (by decide) (fun c4 => ?_) (fun c4 => ?_)
    · have t := t.1 c4
      refine g_iconst (v := (-1)) dX7_been_27 (by decide) ?_
      exact g_iret (st := []) dX7_been_28 (fun e => by cases e) ⟨_, rfl, t⟩
    · have t := t.2 c4
      refine g_iload_n dX7_been_11 rfl ?_
      refine g_bipush (v := 30) dX7_been_12 (by decide) ?_
      refine g_icmp_gt (tgt := 27) dX7_been_14 (by decide) (fun c5 => ?_) (fun c5 => ?_)
      · have t := t.1 c5
        refine g_iconst (v := (-1)) dX7_been_27 (by decide) ?_
        exact g_iret (st := []) dX7_been_28 (fun e => by cases e) ⟨_, rfl, t⟩
      · have t := t.2 c5
        refine g_iload_n dX7_been_17 rfl ?_
        refine g_if_lt (tgt := 27) dX7_been_18 (by decide) (fun c6 => ?_) (fun c6 => ?_)
        · have t := t.1 c6
          refine g_iconst (v := (-1)) dX7_been_27 (by decide) ?_
          exact g_iret (st := []) dX7_been_28 (fun e => by cases e) ⟨_, rfl, t⟩
        · have t := t.2 c6
          refine g_iload_n dX7_been_21 rfl ?_
          refine g_bipush (v := 99) dX7_been_22 (by decide) ?_
          refine g_icmp_le (tgt := 29) dX7_been_24 (by decide) (fun c7 => ?_) (fun c7 => ?_)
          · have t := t.1 c7
            refine g_iload_n dX7_been_29 rfl ?_
            refine g_if_ne (tgt := 37) dX7_been_30 (by decide) (fun c8 => ?_) (fun c8 => ?_)
            · have t := t.1 c8
              refine g_iconst (v := 0) dX7_been_37 (by decide) ?_
              refine g_istore (ls' := [.ref 0, .int p1, .int p2, .int p3, .int 0, .null, .null]) dX7_been_38 rfl (by decide) rfl ?_
              refine g_iconst (v := 1) dX7_been_40 (by decide) ?_
              refine g_istore (ls' := [.ref 0, .int p1, .int p2, .int p3, .int 0, .int 1, .null]) dX7_been_41 rfl (by decide) rfl ?_
              exact t
            · have t := t.2 c8
              refine g_iconst (v := 1) dX7_been_33 (by decide) ?_
              refine g_goto (tgt := 38) dX7_been_34 (by decide) ?_
              refine g_istore (ls' := [.ref 0, .int p1, .int p2, .int p3, .int 1, .null, .null]) dX7_been_38 rfl (by decide) rfl ?_
              refine g_iconst (v := 1) dX7_been_40 (by decide) ?_
              refine g_istore (ls' := [.ref 0, .int p1, .int p2, .int p3, .int 1, .int 1, .null]) dX7_been_41 rfl (by decide) rfl ?_
              exact t
          · have t := t.2 c7
            refine g_iconst (v := (-1)) dX7_been_27 (by decide) ?_
            exact g_iret (st := []) dX7_been_28 (fun e => by cases e) ⟨_, rfl, t⟩
theorem w_X7_been_43 {Q : Int32 → tS → Prop} {S : tS} (l1 : Int32) (l2 : Int32) (l3 : Int32) (l4 : Int32) (l5 : Int32)  (t : ((30 < l5 → Q l4 S) ∧ (¬ 30 < l5 → tk_Gs mX7_been none 53 [.ref 0, .int l1, .int l2, .int l3, .int l4, .int l5, .int 0] [] S Q))) : tk_Gs mX7_been none 43 [.ref 0, .int l1, .int l2, .int l3, .int l4, .int l5, .null] [] S Q := by
  show tk_G _ 0 0 _ _ _ _ (tkSH, S, tkRF) _
  refine g_iload dX7_been_43 rfl ?_
  refine g_bipush (v := 30) dX7_been_45 (by decide) ?_
  refine g_icmp_gt (tgt := 88) dX7_been_47 (by decide) (fun c1 => ?_) (fun c1 => ?_)
  · have t := t.1 c1
    refine g_iload dX7_been_88 rfl ?_
    exact g_iret (st := []) dX7_been_90 (fun e => by cases e) ⟨_, rfl, t⟩
  · have t := t.2 c1
    refine g_iconst (v := 0) dX7_been_50 (by decide) ?_
    refine g_istore (ls' := [.ref 0, .int l1, .int l2, .int l3, .int l4, .int l5, .int 0]) dX7_been_51 rfl (by decide) rfl ?_
    exact t
theorem w_X7_been_53 {Q : Int32 → tS → Prop} {S : tS} (l1 : Int32) (l2 : Int32) (l3 : Int32) (l4 : Int32) (l5 : Int32) (l6 : Int32)  (t : ((l3 < l6 → tk_Gs mX7_been none 43 [.ref 0, .int l1, .int l2, .int l3, .int l4, .int (l5 + 1), .null] [] S Q) ∧ (¬ l3 < l6 → (tk_Ms mX3_shows [.int l1, .int l5, .int (l3 - l6)] S (fun x2 S3 => ((¬ x2 = l2 → tk_Gs mX7_been none 53 [.ref 0, .int l1, .int l2, .int l3, .int l4, .int l5, .int (l6 + 1)] [] S3 Q) ∧ (x2 = l2 → tk_Gs mX7_been none 53 [.ref 0, .int l1, .int l2, .int l3, .int (l4 + 1), .int l5, .int (l6 + 1)] [] S3 Q))))))) : tk_Gs mX7_been none 53 [.ref 0, .int l1, .int l2, .int l3, .int l4, .int l5, .int l6] [] S Q := by
  show tk_G _ 0 0 _ _ _ _ (tkSH, S, tkRF) _
  refine g_iload dX7_been_53 rfl ?_
  refine g_iload_n dX7_been_55 rfl ?_
  refine g_icmp_gt (tgt := 82) dX7_been_56 (by decide) (fun c1 => ?_) (fun c1 => ?_)
  · have t := t.1 c1
    refine g_iinc (v := l5 + 1) (ls' := [.ref 0, .int l1, .int l2, .int l3, .int l4, .int (l5 + 1), .int l6]) dX7_been_82 rfl rfl (by decide) rfl rfl ?_
    refine g_goto (tgt := 43) dX7_been_85 (by decide) ?_
    refine g_drop (ls' := [.ref 0, .int l1, .int l2, .int l3, .int l4, .int (l5 + 1), .null]) ⟨Or.inl rfl, Or.inl rfl, Or.inl rfl, Or.inl rfl, Or.inl rfl, Or.inl rfl, Or.inr rfl, trivial⟩ ?_
    exact t
  · have t := t.2 c1
    refine g_iload_n dX7_been_59 rfl ?_
    refine g_iload dX7_been_60 rfl ?_
    refine g_iload_n dX7_been_62 rfl ?_
    refine g_iload dX7_been_63 rfl ?_
    refine g_isub dX7_been_65 ?_
    refine s_S3i dX7_been_66 sm_X3_shows ml_X7_197 rfl (by decide) (Nat.le_of_ble_eq_true rfl) rfl (tk_Ms.mono t (fun x2 S3 t => ?_))
    refine g_iload_n dX7_been_69 rfl ?_
    refine g_icmp_ne (tgt := 76) dX7_been_70 (by decide) (fun c4 => ?_) (fun c4 => ?_)
    · have t := t.1 c4
      refine g_iinc (v := l6 + 1) (ls' := [.ref 0, .int l1, .int l2, .int l3, .int l4, .int l5, .int (l6 + 1)]) dX7_been_76 rfl rfl (by decide) rfl rfl ?_
      refine g_goto (tgt := 53) dX7_been_79 (by decide) ?_
      exact t
    · have t := t.2 c4
      refine g_iinc (v := l4 + 1) (ls' := [.ref 0, .int l1, .int l2, .int l3, .int (l4 + 1), .int l5, .int l6]) dX7_been_73 rfl rfl (by decide) rfl rfl ?_
      refine g_iinc (v := l6 + 1) (ls' := [.ref 0, .int l1, .int l2, .int l3, .int (l4 + 1), .int l5, .int (l6 + 1)]) dX7_been_76 rfl rfl (by decide) rfl rfl ?_
      refine g_goto (tgt := 53) dX7_been_79 (by decide) ?_
      exact t
theorem w_X7_look {Q : Int32 → tS → Prop} {S : tS} (p1 : Int32) (p2 : Int32) (p3 : Int32) (t : (tk_Ms mX7_isKind [.int p1] S (fun x1 S2 => ((x1 = 0 → (tk_okQ mX7_look Q) (-1) S2) ∧ (¬ x1 = 0 → (tk_Ms mX7_isStay [.int p2] S2 (fun x4 S5 => ((x4 = 0 → (tk_okQ mX7_look Q) (-1) S5) ∧ (¬ x4 = 0 → ((p3 < 0 → (tk_okQ mX7_look Q) (-1) S5) ∧ (¬ p3 < 0 → ((p3 ≤ 1 → tk_Gs mX7_look none 35 [.ref 0, .int p1, .int p2, .int p3, .int 0, .int (-4), .int 0, .null] [] S5 (tk_okQ mX7_look Q)) ∧ (¬ p3 ≤ 1 → (tk_okQ mX7_look Q) (-1) S5))))))))))))) : tk_Ms mX7_look [.ref 0, .int p1, .int p2, .int p3] S Q := by
  refine tk_Ms.of (ls := [.ref 0, .int p1, .int p2, .int p3, .null, .null, .null, .null]) (by decide) (by first | exact Or.inl rfl | exact Or.inr (Or.inl rfl) | exact Or.inr (Or.inr rfl)) (Nat.le_of_ble_eq_true rfl) rfl ?_
  refine g_iload_n dX7_look_0 rfl ?_
  refine s_S1i dX7_look_1 sm_X7_isKind ml_X7_90 rfl (by decide) (Nat.le_of_ble_eq_true rfl) rfl (tk_Ms.mono t (fun x1 S2 t => ?_))
  refine g_if_eq (tgt := 23) dX7_look_4 (by decide) (fun c3 => ?_) (fun c3 => ?_)
  · have t := t.1 c3
    refine g_iconst (v := (-1)) dX7_look_23 (by decide) ?_
    exact g_iret (st := []) dX7_look_24 (fun e => by cases e) ⟨_, rfl, t⟩
  · have t := t.2 c3
    refine g_iload_n dX7_look_7 rfl ?_
    refine s_S1i dX7_look_8 sm_X7_isStay ml_X7_163 rfl (by decide) (Nat.le_of_ble_eq_true rfl) rfl (tk_Ms.mono t (fun x4 S5 t => ?_))
    refine g_if_eq (tgt := 23) dX7_look_11 (by decide) (fun c6 => ?_) (fun c6 => ?_)
    · have t := t.1 c6
      refine g_iconst (v := (-1)) dX7_look_23 (by decide) ?_
      exact g_iret (st := []) dX7_look_24 (fun e => by cases e) ⟨_, rfl, t⟩
    · have t := t.2 c6
      refine g_iload_n dX7_look_14 rfl ?_
      refine g_if_lt (tgt := 23) dX7_look_15 (by decide) (fun c7 => ?_) (fun c7 => ?_)
      · have t := t.1 c7
        refine g_iconst (v := (-1)) dX7_look_23 (by decide) ?_
        exact g_iret (st := []) dX7_look_24 (fun e => by cases e) ⟨_, rfl, t⟩
      · have t := t.2 c7
        refine g_iload_n dX7_look_18 rfl ?_
        refine g_iconst (v := 1) dX7_look_19 (by decide) ?_
        refine g_icmp_le (tgt := 25) dX7_look_20 (by decide) (fun c8 => ?_) (fun c8 => ?_)
        · have t := t.1 c8
          refine g_iconst (v := 0) dX7_look_25 (by decide) ?_
          refine g_istore (ls' := [.ref 0, .int p1, .int p2, .int p3, .int 0, .null, .null, .null]) dX7_look_26 rfl (by decide) rfl ?_
          refine g_bipush (v := (-4)) dX7_look_28 (by decide) ?_
          refine g_istore (ls' := [.ref 0, .int p1, .int p2, .int p3, .int 0, .int (-4), .null, .null]) dX7_look_30 rfl (by decide) rfl ?_
          refine g_iconst (v := 0) dX7_look_32 (by decide) ?_
          refine g_istore (ls' := [.ref 0, .int p1, .int p2, .int p3, .int 0, .int (-4), .int 0, .null]) dX7_look_33 rfl (by decide) rfl ?_
          exact t
        · have t := t.2 c8
          refine g_iconst (v := (-1)) dX7_look_23 (by decide) ?_
          exact g_iret (st := []) dX7_look_24 (fun e => by cases e) ⟨_, rfl, t⟩
theorem w_X7_look_35 {Q : Int32 → tS → Prop} {S : tS} (l1 : Int32) (l2 : Int32) (l3 : Int32) (l4 : Int32) (l5 : Int32) (l6 : Int32)  (t : ((6 < l6 → ((¬ l3 = 0 → Q l5 S) ∧ (l3 = 0 → Q l4 S))) ∧ (¬ 6 < l6 → tk_Gs mX7_look none 45 [.ref 0, .int l1, .int l2, .int l3, .int l4, .int l5, .int l6, .int 0] [] S Q))) : tk_Gs mX7_look none 35 [.ref 0, .int l1, .int l2, .int l3, .int l4, .int l5, .int l6, .null] [] S Q := by
  show tk_G _ 0 0 _ _ _ _ (tkSH, S, tkRF) _
  refine g_iload dX7_look_35 rfl ?_
  refine g_bipush (v := 6) dX7_look_37 (by decide) ?_
  refine g_icmp_gt (tgt := 101) dX7_look_39 (by decide) (fun c1 => ?_) (fun c1 => ?_)
  · have t := t.1 c1
    refine g_iload_n dX7_look_101 rfl ?_
    refine g_if_ne (tgt := 110) dX7_look_102 (by decide) (fun c2 => ?_) (fun c2 => ?_)
    · have t := t.1 c2
      refine g_iload dX7_look_110 rfl ?_
      exact g_iret (st := []) dX7_look_112 (fun e => by cases e) ⟨_, rfl, t⟩
    · have t := t.2 c2
      refine g_iload dX7_look_105 rfl ?_
      refine g_goto (tgt := 112) dX7_look_107 (by decide) ?_
      exact g_iret (st := []) dX7_look_112 (fun e => by cases e) ⟨_, rfl, t⟩
  · have t := t.2 c1
    refine g_iconst (v := 0) dX7_look_42 (by decide) ?_
    refine g_istore (ls' := [.ref 0, .int l1, .int l2, .int l3, .int l4, .int l5, .int l6, .int 0]) dX7_look_43 rfl (by decide) rfl ?_
    exact t
theorem w_X7_look_45 {Q : Int32 → tS → Prop} {S : tS} (l1 : Int32) (l2 : Int32) (l3 : Int32) (l4 : Int32) (l5 : Int32) (l6 : Int32) (l7 : Int32)  (t : ((6 < l7 → tk_Gs mX7_look none 35 [.ref 0, .int l1, .int l2, .int l3, .int l4, .int l5, .int (l6 + 1), .null] [] S Q) ∧ (¬ 6 < l7 → (tk_Ms mX7_isRest [.int l1, .int l2, .int l6, .int l7] S (fun x2 S3 => ((x2 = 0 → tk_Gs mX7_look none 45 [.ref 0, .int l1, .int l2, .int l3, .int l4, .int l5, .int l6, .int (l7 + 1)] [] S3 Q) ∧ (¬ x2 = 0 → ((¬ l5 = (-4) → tk_Gs mX7_look none 45 [.ref 0, .int l1, .int l2, .int l3, .int (l4 + 1), .int l5, .int l6, .int (l7 + 1)] [] S3 Q) ∧ (l5 = (-4) → tk_Gs mX7_look none 45 [.ref 0, .int l1, .int l2, .int l3, .int (l4 + 1), .int ((10 * l6) + l7), .int l6, .int (l7 + 1)] [] S3 Q))))))))) : tk_Gs mX7_look none 45 [.ref 0, .int l1, .int l2, .int l3, .int l4, .int l5, .int l6, .int l7] [] S Q := by
  show tk_G _ 0 0 _ _ _ _ (tkSH, S, tkRF) _
  refine g_iload dX7_look_45 rfl ?_
  refine g_bipush (v := 6) dX7_look_47 (by decide) ?_
  refine g_icmp_gt (tgt := 95) dX7_look_49 (by decide) (fun c1 => ?_) (fun c1 => ?_)
  · have t := t.1 c1
    refine g_iinc (v := l6 + 1) (ls' := [.ref 0, .int l1, .int l2, .int l3, .int l4, .int l5, .int (l6 + 1), .int l7]) dX7_look_95 rfl rfl (by decide) rfl rfl ?_
    refine g_goto (tgt := 35) dX7_look_98 (by decide) ?_
    refine g_drop (ls' := [.ref 0, .int l1, .int l2, .int l3, .int l4, .int l5, .int (l6 + 1), .null]) ⟨Or.inl rfl, Or.inl rfl, Or.inl rfl, Or.inl rfl, Or.inl rfl, Or.inl rfl, Or.inl rfl, Or.inr rfl, trivial⟩ ?_
    exact t
  · have t := t.2 c1
    refine g_iload_n dX7_look_52 rfl ?_
    refine g_iload_n dX7_look_53 rfl ?_
    refine g_iload dX7_look_54 rfl ?_
    refine g_iload dX7_look_56 rfl ?_
    refine s_S4i dX7_look_58 sm_X7_isRest ml_X7_200 rfl (by decide) (Nat.le_of_ble_eq_true rfl) rfl (tk_Ms.mono t (fun x2 S3 t => ?_))
    refine g_if_eq (tgt := 89) dX7_look_61 (by decide) (fun c4 => ?_) (fun c4 => ?_)
    · have t := t.1 c4
      refine g_iinc (v := l7 + 1) (ls' := [.ref 0, .int l1, .int l2, .int l3, .int l4, .int l5, .int l6, .int (l7 + 1)]) dX7_look_89 rfl rfl (by decide) rfl rfl ?_
      refine g_goto (tgt := 45) dX7_look_92 (by decide) ?_
      exact t
    · have t := t.2 c4
      refine g_iinc (v := l4 + 1) (ls' := [.ref 0, .int l1, .int l2, .int l3, .int (l4 + 1), .int l5, .int l6, .int l7]) dX7_look_64 rfl rfl (by decide) rfl rfl ?_
      refine g_iload dX7_look_67 rfl ?_
      refine g_bipush (v := (-4)) dX7_look_69 (by decide) ?_
      refine g_icmp_ne (tgt := 85) dX7_look_71 (by decide) (fun c5 => ?_) (fun c5 => ?_)
      · have t := t.1 c5
        refine g_iload dX7_look_85 rfl ?_
        refine g_istore (ls' := [.ref 0, .int l1, .int l2, .int l3, .int (l4 + 1), .int l5, .int l6, .int l7]) dX7_look_87 rfl (by decide) rfl ?_
        refine g_iinc (v := l7 + 1) (ls' := [.ref 0, .int l1, .int l2, .int l3, .int (l4 + 1), .int l5, .int l6, .int (l7 + 1)]) dX7_look_89 rfl rfl (by decide) rfl rfl ?_
        refine g_goto (tgt := 45) dX7_look_92 (by decide) ?_
        exact t
      · have t := t.2 c5
        refine g_bipush (v := 10) dX7_look_74 (by decide) ?_
        refine g_iload dX7_look_76 rfl ?_
        refine g_imul dX7_look_78 ?_
        refine g_iload dX7_look_79 rfl ?_
        refine g_iadd dX7_look_81 ?_
        refine g_goto (tgt := 87) dX7_look_82 (by decide) ?_
        refine g_istore (ls' := [.ref 0, .int l1, .int l2, .int l3, .int (l4 + 1), .int ((10 * l6) + l7), .int l6, .int l7]) dX7_look_87 rfl (by decide) rfl ?_
        refine g_iinc (v := l7 + 1) (ls' := [.ref 0, .int l1, .int l2, .int l3, .int (l4 + 1), .int ((10 * l6) + l7), .int l6, .int (l7 + 1)]) dX7_look_89 rfl rfl (by decide) rfl rfl ?_
        refine g_goto (tgt := 45) dX7_look_92 (by decide) ?_
        exact t
theorem w_X7_image {Q : Int32 → tS → Prop} {S : tS}  (t : (tk_Ms mX2_becomeLike [.ref 11, .ref 1] S (fun _ S2 => (tk_Ms mX3_becomeLike [.ref 15, .ref 5] S2 (fun _ S4 => (tk_okQ mX7_image Q) 1 (tk_up (tk_up S4 0 5 (S4 0 2)) 0 6 1)))))) : tk_Ms mX7_image [.ref 0] S Q := by
  refine tk_Ms.of (ls := [.ref 0]) (by decide) (by first | exact Or.inl rfl | exact Or.inr (Or.inl rfl) | exact Or.inr (Or.inr rfl)) (Nat.le_of_ble_eq_true rfl) rfl ?_
  refine g_aload_n dX7_image_0 rfl ?_
  refine g_getR (n := 13) dX7_image_1 fl_X7_27 rfl (by decide) (by decide) rfl rfl ?_
  refine g_aload_n dX7_image_4 rfl ?_
  refine g_getR (n := 13) dX7_image_5 fl_X7_10 rfl (by decide) (by decide) rfl rfl ?_
  refine s_V1v dX7_image_8 vm_X2_becomeLike ml_X7_204 rfl rfl (by decide) (Nat.le_of_ble_eq_true rfl) rfl (tk_Ms.mono t (fun _ S2 t => ?_))
  refine g_aload_n dX7_image_11 rfl ?_
  refine g_getR (n := 13) dX7_image_12 fl_X7_30 rfl (by decide) (by decide) rfl rfl ?_
  refine g_aload_n dX7_image_15 rfl ?_
  refine g_getR (n := 13) dX7_image_16 fl_X7_19 rfl (by decide) (by decide) rfl rfl ?_
  refine s_V1v dX7_image_19 vm_X3_becomeLike ml_X7_208 rfl rfl (by decide) (Nat.le_of_ble_eq_true rfl) rfl (tk_Ms.mono t (fun _ S4 t => ?_))
  refine g_aload_n dX7_image_22 rfl ?_
  refine g_aload_n dX7_image_23 rfl ?_
  refine g_getI (n := 13) dX7_image_24 fl_X7_23 rfl (by decide) (by decide) rfl ?_
  refine g_putI (n := 13) dX7_image_27 fl_X7_33 rfl (by decide) (by decide) rfl rfl rfl ?_
  refine g_aload_n dX7_image_30 rfl ?_
  refine g_iconst (v := 1) dX7_image_31 (by decide) ?_
  refine g_putI (n := 13) dX7_image_32 fl_X7_36 rfl (by decide) (by decide) rfl rfl rfl ?_
  refine g_iconst (v := 1) dX7_image_35 (by decide) ?_
  exact g_iret (st := []) dX7_image_36 (fun e => by cases e) ⟨_, rfl, t⟩
theorem w_X7_restore {Q : Int32 → tS → Prop} {S : tS}  (t : ((¬ (S 0 6) = 0 → (tk_Ms mX2_becomeLike [.ref 1, .ref 11] S (fun _ S3 => (tk_Ms mX3_becomeLike [.ref 5, .ref 15] S3 (fun _ S5 => (tk_okQ mX7_restore Q) 1 (tk_up S5 0 2 (S5 0 5))))))) ∧ ((S 0 6) = 0 → (tk_okQ mX7_restore Q) (-4) S))) : tk_Ms mX7_restore [.ref 0] S Q := by
  refine tk_Ms.of (ls := [.ref 0]) (by decide) (by first | exact Or.inl rfl | exact Or.inr (Or.inl rfl) | exact Or.inr (Or.inr rfl)) (Nat.le_of_ble_eq_true rfl) rfl ?_
  refine g_aload_n dX7_restore_0 rfl ?_
  refine g_getI (n := 13) dX7_restore_1 fl_X7_36 rfl (by decide) (by decide) rfl ?_
  refine g_if_ne (tgt := 10) dX7_restore_4 (by decide) (fun c1 => ?_) (fun c1 => ?_)
  · have t := t.1 c1
    refine g_aload_n dX7_restore_10 rfl ?_
    refine g_getR (n := 13) dX7_restore_11 fl_X7_10 rfl (by decide) (by decide) rfl rfl ?_
    refine g_aload_n dX7_restore_14 rfl ?_
    refine g_getR (n := 13) dX7_restore_15 fl_X7_27 rfl (by decide) (by decide) rfl rfl ?_
    refine s_V1v dX7_restore_18 vm_X2_becomeLike ml_X7_204 rfl rfl (by decide) (Nat.le_of_ble_eq_true rfl) rfl (tk_Ms.mono t (fun _ S3 t => ?_))
    refine g_aload_n dX7_restore_21 rfl ?_
    refine g_getR (n := 13) dX7_restore_22 fl_X7_19 rfl (by decide) (by decide) rfl rfl ?_
    refine g_aload_n dX7_restore_25 rfl ?_
    refine g_getR (n := 13) dX7_restore_26 fl_X7_30 rfl (by decide) (by decide) rfl rfl ?_
    refine s_V1v dX7_restore_29 vm_X3_becomeLike ml_X7_208 rfl rfl (by decide) (Nat.le_of_ble_eq_true rfl) rfl (tk_Ms.mono t (fun _ S5 t => ?_))
    refine g_aload_n dX7_restore_32 rfl ?_
    refine g_aload_n dX7_restore_33 rfl ?_
    refine g_getI (n := 13) dX7_restore_34 fl_X7_33 rfl (by decide) (by decide) rfl ?_
    refine g_putI (n := 13) dX7_restore_37 fl_X7_23 rfl (by decide) (by decide) rfl rfl rfl ?_
    refine g_iconst (v := 1) dX7_restore_40 (by decide) ?_
    exact g_iret (st := []) dX7_restore_41 (fun e => by cases e) ⟨_, rfl, t⟩
  · have t := t.2 c1
    refine g_bipush (v := (-4)) dX7_restore_7 (by decide) ?_
    exact g_iret (st := []) dX7_restore_9 (fun e => by cases e) ⟨_, rfl, t⟩
theorem w_X7_asked {Q : Int32 → tS → Prop} {S : tS} (p1 : Int32) (p2 : Int32) (p3 : Int32) (p4 : Int32) (p5 : Int32) (t : ((p4 < 1 → (tk_okQ mX7_asked Q) (-1) S) ∧ (¬ p4 < 1 → ((6 < p4 → (tk_okQ mX7_asked Q) (-1) S) ∧ (¬ 6 < p4 → ((p5 < (-1) → (tk_okQ mX7_asked Q) (-1) S) ∧ (¬ p5 < (-1) → ((p5 < p4 → (tk_Ms mX7_refusalOf [.ref 0, .int p1, .int p2] S (fun x5 S6 => ((x5 = 0 → (vp_in p1 4 ∧ (p1 = 0 → (tk_Ms mX4_holds [.ref 37, .int p3, .int (2 * p4)] S6 (fun x9 S10 => ((¬ x9 = 0 → (tk_Ms mX7_takeAsked [.ref 0, .ref 37, .int p3, .int p4] S10 (fun x12 S13 => ((¬ x12 = 0 → (tk_Ms (mX7_tryRows 13) [.ref 30, .int 0, .int 0] S13 (fun _ S16 => ((¬ (S16 30 1) = (-1) → ((0 ≤ p5 → (vp_in p5 6 ∧ (tk_okQ mX7_asked Q) (S16 35 p5.toNatClampNeg) S16)) ∧ (¬ 0 ≤ p5 → (tk_okQ mX7_asked Q) (S16 30 1) S16))) ∧ ((S16 30 1) = (-1) → (tk_okQ mX7_asked Q) (-4) S16))))) ∧ (x12 = 0 → (tk_okQ mX7_asked Q) (-2) S13))))) ∧ (x9 = 0 → (tk_okQ mX7_asked Q) (-13) S10))))) ∧ (p1 = 1 → (tk_Ms mX4_holds [.ref 39, .int p3, .int (2 * p4)] S6 (fun x19 S20 => ((¬ x19 = 0 → (tk_Ms mX7_takeAsked [.ref 0, .ref 39, .int p3, .int p4] S20 (fun x22 S23 => ((¬ x22 = 0 → (tk_Ms (mX7_tryRows 13) [.ref 30, .int 0, .int 0] S23 (fun _ S26 => ((¬ (S26 30 1) = (-1) → ((0 ≤ p5 → (vp_in p5 6 ∧ (tk_okQ mX7_asked Q) (S26 35 p5.toNatClampNeg) S26)) ∧ (¬ 0 ≤ p5 → (tk_okQ mX7_asked Q) (S26 30 1) S26))) ∧ ((S26 30 1) = (-1) → (tk_okQ mX7_asked Q) (-4) S26))))) ∧ (x22 = 0 → (tk_okQ mX7_asked Q) (-2) S23))))) ∧ (x19 = 0 → (tk_okQ mX7_asked Q) (-13) S20))))) ∧ (p1 = 2 → (tk_Ms mX4_holds [.ref 41, .int p3, .int (2 * p4)] S6 (fun x29 S30 => ((¬ x29 = 0 → (tk_Ms mX7_takeAsked [.ref 0, .ref 41, .int p3, .int p4] S30 (fun x32 S33 => ((¬ x32 = 0 → (tk_Ms (mX7_tryRows 13) [.ref 30, .int 0, .int 0] S33 (fun _ S36 => ((¬ (S36 30 1) = (-1) → ((0 ≤ p5 → (vp_in p5 6 ∧ (tk_okQ mX7_asked Q) (S36 35 p5.toNatClampNeg) S36)) ∧ (¬ 0 ≤ p5 → (tk_okQ mX7_asked Q) (S36 30 1) S36))) ∧ ((S36 30 1) = (-1) → (tk_okQ mX7_asked Q) (-4) S36))))) ∧ (x32 = 0 → (tk_okQ mX7_asked Q) (-2) S33))))) ∧ (x29 = 0 → (tk_okQ mX7_asked Q) (-13) S30))))) ∧ (p1 = 3 → (tk_Ms mX4_holds [.ref 43, .int p3, .int (2 * p4)] S6 (fun x39 S40 => ((¬ x39 = 0 → (tk_Ms mX7_takeAsked [.ref 0, .ref 43, .int p3, .int p4] S40 (fun x42 S43 => ((¬ x42 = 0 → (tk_Ms (mX7_tryRows 13) [.ref 30, .int 0, .int 0] S43 (fun _ S46 => ((¬ (S46 30 1) = (-1) → ((0 ≤ p5 → (vp_in p5 6 ∧ (tk_okQ mX7_asked Q) (S46 35 p5.toNatClampNeg) S46)) ∧ (¬ 0 ≤ p5 → (tk_okQ mX7_asked Q) (S46 30 1) S46))) ∧ ((S46 30 1) = (-1) → (tk_okQ mX7_asked Q) (-4) S46))))) ∧ (x42 = 0 → (tk_okQ mX7_asked Q) (-2) S43))))) ∧ (x39 = 0 → (tk_okQ mX7_asked Q) (-13) S40))))))) ∧ (¬ x5 = 0 → (tk_okQ mX7_asked Q) x5 S6))))) ∧ (¬ p5 < p4 → (tk_okQ mX7_asked Q) (-1) S))))))))) : tk_Ms mX7_asked [.ref 0, .int p1, .int p2, .int p3, .int p4, .int p5] S Q := by
  refine tk_Ms.of (ls := [.ref 0, .int p1, .int p2, .int p3, .int p4, .int p5, .null]) (by decide) (by first | exact Or.inl rfl | exact Or.inr (Or.inl rfl) | exact Or.inr (Or.inr rfl)) (Nat.le_of_ble_eq_true rfl) rfl ?_
  refine g_iload dX7_asked_0 rfl ?_
  refine g_iconst (v := 1) dX7_asked_2 (by decide) ?_
  refine g_icmp_lt (tgt := 26) dX7_asked_3 (by decide) (fun c1 => ?_) (fun c1 => ?_)
  · have t := t.1 c1
    refine g_iconst (v := (-1)) dX7_asked_26 (by decide) ?_
    exact g_iret (st := []) dX7_asked_27 (fun e => by cases e) ⟨_, rfl, t⟩
  · have t := t.2 c1
    refine g_iload dX7_asked_6 rfl ?_
    refine g_bipush (v := 6) dX7_asked_8 (by decide) ?_
    refine g_icmp_gt (tgt := 26) dX7_asked_10 (by decide) (fun c2 => ?_) (fun c2 => ?_)
    · have t := t.1 c2
      refine g_iconst (v := (-1)) dX7_asked_26 (by decide) ?_
      exact g_iret (st := []) dX7_asked_27 (fun e => by cases e) ⟨_, rfl, t⟩
    · have t := t.2 c2
      refine g_iload dX7_asked_13 rfl ?_
      refine g_iconst (v := (-1)) dX7_asked_15 (by decide) ?_
      refine g_icmp_lt (tgt := 26) dX7_asked_16 (by decide) (fun c3 => ?_) (fun c3 => ?_)
      · have t := t.1 c3
        refine g_iconst (v := (-1)) dX7_asked_26 (by decide) ?_
        exact g_iret (st := []) dX7_asked_27 (fun e => by cases e) ⟨_, rfl, t⟩
      · have t := t.2 c3
        refine g_iload dX7_asked_19 rfl ?_
        refine g_iload dX7_asked_21 rfl ?_
        refine g_icmp_lt (tgt := 28) dX7_asked_23 (by decide) (fun c4 => ?_) (fun c4 => ?_)
        · have t := t.1 c4
          refine g_aload_n dX7_asked_28 rfl ?_
          refine g_iload_n dX7_asked_29 rfl ?_
          refine g_iload_n dX7_asked_30 rfl ?_
          refine s_V2i dX7_asked_31 vm_X7_refusalOf ml_X7_211 rfl rfl (by decide) (Nat.le_of_ble_eq_true rfl) rfl (tk_Ms.mono t (fun x5 S6 t => ?_))
          refine g_istore (ls' := [.ref 0, .int p1, .int p2, .int p3, .int p4, .int p5, .int x5]) dX7_asked_34 rfl (by decide) rfl ?_
          refine g_iload dX7_asked_36 rfl ?_
          refine g_if_eq (tgt := 44) dX7_asked_38 (by decide) (fun c7 => ?_) (fun c7 => ?_)
          · have t := t.1 c7
            refine g_aload_n dX7_asked_44 rfl ?_
            refine g_getR (n := 13) dX7_asked_45 fl_X7_73 rfl (by decide) (by decide) rfl rfl ?_
            refine g_iload_n dX7_asked_48 rfl ?_
            refine g_sheets dX7_asked_49 t.1 (fun c8 => ?_) (fun c8 => ?_) (fun c8 => ?_) (fun c8 => ?_)
            · have t := t.2.1 c8
              refine g_iload_n dX7_asked_50 rfl ?_
              refine g_iconst (v := 2) dX7_asked_51 (by decide) ?_
              refine g_iload dX7_asked_52 rfl ?_
              refine g_imul dX7_asked_54 ?_
              refine s_V2i dX7_asked_55 vm_X4_holds ml_X7_214 rfl rfl (by decide) (Nat.le_of_ble_eq_true rfl) rfl (tk_Ms.mono t (fun x9 S10 t => ?_))
              refine g_if_ne (tgt := 64) dX7_asked_58 (by decide) (fun c11 => ?_) (fun c11 => ?_)
              · have t := t.1 c11
                refine g_aload_n dX7_asked_64 rfl ?_
                refine g_aload_n dX7_asked_65 rfl ?_
                refine g_getR (n := 13) dX7_asked_66 fl_X7_73 rfl (by decide) (by decide) rfl rfl ?_
                refine g_iload_n dX7_asked_69 rfl ?_
                refine g_sheetE0 dX7_asked_70 c8 ?_
                refine g_iload_n dX7_asked_71 rfl ?_
                refine g_iload dX7_asked_72 rfl ?_
                refine s_V3i dX7_asked_74 vm_X7_takeAsked ml_X7_217 rfl rfl (by decide) (Nat.le_of_ble_eq_true rfl) rfl (tk_Ms.mono t (fun x12 S13 t => ?_))
                refine g_if_ne (tgt := 83) dX7_asked_77 (by decide) (fun c14 => ?_) (fun c14 => ?_)
                · have t := t.1 c14
                  refine g_aload_n dX7_asked_83 rfl ?_
                  refine g_getR (n := 13) dX7_asked_84 fl_X7_67 rfl (by decide) (by decide) rfl rfl ?_
                  refine g_iconst (v := 0) dX7_asked_87 (by decide) ?_
                  refine g_iconst (v := 0) dX7_asked_88 (by decide) ?_
                  refine s_S3v dX7_asked_89 (sm_X7_tryRows 13) (ml_X7_221 13) rfl (by decide) (Nat.le_of_ble_eq_true rfl) rfl (tk_Ms.mono t (fun _ S16 t => ?_))
                  refine g_aload_n dX7_asked_92 rfl ?_
                  refine g_getR (n := 13) dX7_asked_93 fl_X7_67 rfl (by decide) (by decide) rfl rfl ?_
                  refine g_getI (n := 7) dX7_asked_96 fl_X7_225 rfl (by decide) (by decide) rfl ?_
                  refine g_iconst (v := (-1)) dX7_asked_99 (by decide) ?_
                  refine g_icmp_ne (tgt := 106) dX7_asked_100 (by decide) (fun c17 => ?_) (fun c17 => ?_)
                  · have t := t.1 c17
                    refine g_iload dX7_asked_106 rfl ?_
                    refine g_if_ge (tgt := 121) dX7_asked_108 (by decide) (fun c18 => ?_) (fun c18 => ?_)
                    · have t := t.1 c18
                      refine g_aload_n dX7_asked_121 rfl ?_
                      refine g_getR (n := 13) dX7_asked_122 fl_X7_67 rfl (by decide) (by decide) rfl rfl ?_
                      refine g_getR (n := 7) dX7_asked_125 fl_X7_228 rfl (by decide) (by decide) rfl rfl ?_
                      refine g_iload dX7_asked_128 rfl ?_
                      refine g_iald (n := 6) dX7_asked_130 rfl t.1 ?_
                      have t := t.2
                      exact g_iret (st := []) dX7_asked_131 (fun e => by cases e) ⟨_, rfl, t⟩
                    · have t := t.2 c18
                      refine g_aload_n dX7_asked_111 rfl ?_
                      refine g_getR (n := 13) dX7_asked_112 fl_X7_67 rfl (by decide) (by decide) rfl rfl ?_
                      refine g_getI (n := 7) dX7_asked_115 fl_X7_225 rfl (by decide) (by decide) rfl ?_
                      refine g_goto (tgt := 131) dX7_asked_118 (by decide) ?_
                      exact g_iret (st := []) dX7_asked_131 (fun e => by cases e) ⟨_, rfl, t⟩
                  · have t := t.2 c17
                    refine g_bipush (v := (-4)) dX7_asked_103 (by decide) ?_
                    exact g_iret (st := []) dX7_asked_105 (fun e => by cases e) ⟨_, rfl, t⟩
                · have t := t.2 c14
                  refine g_bipush (v := (-2)) dX7_asked_80 (by decide) ?_
                  exact g_iret (st := []) dX7_asked_82 (fun e => by cases e) ⟨_, rfl, t⟩
              · have t := t.2 c11
                refine g_bipush (v := (-13)) dX7_asked_61 (by decide) ?_
                exact g_iret (st := []) dX7_asked_63 (fun e => by cases e) ⟨_, rfl, t⟩
            · have t := t.2.2.1 c8
              refine g_iload_n dX7_asked_50 rfl ?_
              refine g_iconst (v := 2) dX7_asked_51 (by decide) ?_
              refine g_iload dX7_asked_52 rfl ?_
              refine g_imul dX7_asked_54 ?_
              refine s_V2i dX7_asked_55 vm_X4_holds ml_X7_214 rfl rfl (by decide) (Nat.le_of_ble_eq_true rfl) rfl (tk_Ms.mono t (fun x19 S20 t => ?_))
              refine g_if_ne (tgt := 64) dX7_asked_58 (by decide) (fun c21 => ?_) (fun c21 => ?_)
              · have t := t.1 c21
                refine g_aload_n dX7_asked_64 rfl ?_
                refine g_aload_n dX7_asked_65 rfl ?_
                refine g_getR (n := 13) dX7_asked_66 fl_X7_73 rfl (by decide) (by decide) rfl rfl ?_
                refine g_iload_n dX7_asked_69 rfl ?_
                refine g_sheetE1 dX7_asked_70 c8 ?_
                refine g_iload_n dX7_asked_71 rfl ?_
                refine g_iload dX7_asked_72 rfl ?_
                refine s_V3i dX7_asked_74 vm_X7_takeAsked ml_X7_217 rfl rfl (by decide) (Nat.le_of_ble_eq_true rfl) rfl (tk_Ms.mono t (fun x22 S23 t => ?_))
                refine g_if_ne (tgt := 83) dX7_asked_77 (by decide) (fun c24 => ?_) (fun c24 => ?_)
                · have t := t.1 c24
                  refine g_aload_n dX7_asked_83 rfl ?_
                  refine g_getR (n := 13) dX7_asked_84 fl_X7_67 rfl (by decide) (by decide) rfl rfl ?_
                  refine g_iconst (v := 0) dX7_asked_87 (by decide) ?_
                  refine g_iconst (v := 0) dX7_asked_88 (by decide) ?_
                  refine s_S3v dX7_asked_89 (sm_X7_tryRows 13) (ml_X7_221 13) rfl (by decide) (Nat.le_of_ble_eq_true rfl) rfl (tk_Ms.mono t (fun _ S26 t => ?_))
                  refine g_aload_n dX7_asked_92 rfl ?_
                  refine g_getR (n := 13) dX7_asked_93 fl_X7_67 rfl (by decide) (by decide) rfl rfl ?_
                  refine g_getI (n := 7) dX7_asked_96 fl_X7_225 rfl (by decide) (by decide) rfl ?_
                  refine g_iconst (v := (-1)) dX7_asked_99 (by decide) ?_
                  refine g_icmp_ne (tgt := 106) dX7_asked_100 (by decide) (fun c27 => ?_) (fun c27 => ?_)
                  · have t := t.1 c27
                    refine g_iload dX7_asked_106 rfl ?_
                    refine g_if_ge (tgt := 121) dX7_asked_108 (by decide) (fun c28 => ?_) (fun c28 => ?_)
                    · have t := t.1 c28
                      refine g_aload_n dX7_asked_121 rfl ?_
                      refine g_getR (n := 13) dX7_asked_122 fl_X7_67 rfl (by decide) (by decide) rfl rfl ?_
                      refine g_getR (n := 7) dX7_asked_125 fl_X7_228 rfl (by decide) (by decide) rfl rfl ?_
                      refine g_iload dX7_asked_128 rfl ?_
                      refine g_iald (n := 6) dX7_asked_130 rfl t.1 ?_
                      have t := t.2
                      exact g_iret (st := []) dX7_asked_131 (fun e => by cases e) ⟨_, rfl, t⟩
                    · have t := t.2 c28
                      refine g_aload_n dX7_asked_111 rfl ?_
                      refine g_getR (n := 13) dX7_asked_112 fl_X7_67 rfl (by decide) (by decide) rfl rfl ?_
                      refine g_getI (n := 7) dX7_asked_115 fl_X7_225 rfl (by decide) (by decide) rfl ?_
                      refine g_goto (tgt := 131) dX7_asked_118 (by decide) ?_
                      exact g_iret (st := []) dX7_asked_131 (fun e => by cases e) ⟨_, rfl, t⟩
                  · have t := t.2 c27
                    refine g_bipush (v := (-4)) dX7_asked_103 (by decide) ?_
                    exact g_iret (st := []) dX7_asked_105 (fun e => by cases e) ⟨_, rfl, t⟩
                · have t := t.2 c24
                  refine g_bipush (v := (-2)) dX7_asked_80 (by decide) ?_
                  exact g_iret (st := []) dX7_asked_82 (fun e => by cases e) ⟨_, rfl, t⟩
              · have t := t.2 c21
                refine g_bipush (v := (-13)) dX7_asked_61 (by decide) ?_
                exact g_iret (st := []) dX7_asked_63 (fun e => by cases e) ⟨_, rfl, t⟩
            · have t := t.2.2.2.1 c8
              refine g_iload_n dX7_asked_50 rfl ?_
              refine g_iconst (v := 2) dX7_asked_51 (by decide) ?_
              refine g_iload dX7_asked_52 rfl ?_
              refine g_imul dX7_asked_54 ?_
              refine s_V2i dX7_asked_55 vm_X4_holds ml_X7_214 rfl rfl (by decide) (Nat.le_of_ble_eq_true rfl) rfl (tk_Ms.mono t (fun x29 S30 t => ?_))
              refine g_if_ne (tgt := 64) dX7_asked_58 (by decide) (fun c31 => ?_) (fun c31 => ?_)
              · have t := t.1 c31
                refine g_aload_n dX7_asked_64 rfl ?_
                refine g_aload_n dX7_asked_65 rfl ?_
                refine g_getR (n := 13) dX7_asked_66 fl_X7_73 rfl (by decide) (by decide) rfl rfl ?_
                refine g_iload_n dX7_asked_69 rfl ?_
                refine g_sheetE2 dX7_asked_70 c8 ?_
                refine g_iload_n dX7_asked_71 rfl ?_
                refine g_iload dX7_asked_72 rfl ?_
                refine s_V3i dX7_asked_74 vm_X7_takeAsked ml_X7_217 rfl rfl (by decide) (Nat.le_of_ble_eq_true rfl) rfl (tk_Ms.mono t (fun x32 S33 t => ?_))
                refine g_if_ne (tgt := 83) dX7_asked_77 (by decide) (fun c34 => ?_) (fun c34 => ?_)
                · have t := t.1 c34
                  refine g_aload_n dX7_asked_83 rfl ?_
                  refine g_getR (n := 13) dX7_asked_84 fl_X7_67 rfl (by decide) (by decide) rfl rfl ?_
                  refine g_iconst (v := 0) dX7_asked_87 (by decide) ?_
                  refine g_iconst (v := 0) dX7_asked_88 (by decide) ?_
                  refine s_S3v dX7_asked_89 (sm_X7_tryRows 13) (ml_X7_221 13) rfl (by decide) (Nat.le_of_ble_eq_true rfl) rfl (tk_Ms.mono t (fun _ S36 t => ?_))
                  refine g_aload_n dX7_asked_92 rfl ?_
                  refine g_getR (n := 13) dX7_asked_93 fl_X7_67 rfl (by decide) (by decide) rfl rfl ?_
                  refine g_getI (n := 7) dX7_asked_96 fl_X7_225 rfl (by decide) (by decide) rfl ?_
                  refine g_iconst (v := (-1)) dX7_asked_99 (by decide) ?_
                  refine g_icmp_ne (tgt := 106) dX7_asked_100 (by decide) (fun c37 => ?_) (fun c37 => ?_)
                  · have t := t.1 c37
                    refine g_iload dX7_asked_106 rfl ?_
                    refine g_if_ge (tgt := 121) dX7_asked_108 (by decide) (fun c38 => ?_) (fun c38 => ?_)
                    · have t := t.1 c38
                      refine g_aload_n dX7_asked_121 rfl ?_
                      refine g_getR (n := 13) dX7_asked_122 fl_X7_67 rfl (by decide) (by decide) rfl rfl ?_
                      refine g_getR (n := 7) dX7_asked_125 fl_X7_228 rfl (by decide) (by decide) rfl rfl ?_
                      refine g_iload dX7_asked_128 rfl ?_
                      refine g_iald (n := 6) dX7_asked_130 rfl t.1 ?_
                      have t := t.2
                      exact g_iret (st := []) dX7_asked_131 (fun e => by cases e) ⟨_, rfl, t⟩
                    · have t := t.2 c38
                      refine g_aload_n dX7_asked_111 rfl ?_
                      refine g_getR (n := 13) dX7_asked_112 fl_X7_67 rfl (by decide) (by decide) rfl rfl ?_
                      refine g_getI (n := 7) dX7_asked_115 fl_X7_225 rfl (by decide) (by decide) rfl ?_
                      refine g_goto (tgt := 131) dX7_asked_118 (by decide) ?_
                      exact g_iret (st := []) dX7_asked_131 (fun e => by cases e) ⟨_, rfl, t⟩
                  · have t := t.2 c37
                    refine g_bipush (v := (-4)) dX7_asked_103 (by decide) ?_
                    exact g_iret (st := []) dX7_asked_105 (fun e => by cases e) ⟨_, rfl, t⟩
                · have t := t.2 c34
                  refine g_bipush (v := (-2)) dX7_asked_80 (by decide) ?_
                  exact g_iret (st := []) dX7_asked_82 (fun e => by cases e) ⟨_, rfl, t⟩
              · have t := t.2 c31
                refine g_bipush (v := (-13)) dX7_asked_61 (by decide) ?_
                exact g_iret (st := []) dX7_asked_63 (fun e => by cases e) ⟨_, rfl, t⟩
            · have t := t.2.2.2.2 c8
              refine g_iload_n dX7_asked_50 rfl ?_
              refine g_iconst (v := 2) dX7_asked_51 (by decide) ?_
              refine g_iload dX7_asked_52 rfl ?_
              refine g_imul dX7_asked_54 ?_
              refine s_V2i dX7_asked_55 vm_X4_holds ml_X7_214 rfl rfl (by decide) (Nat.le_of_ble_eq_true rfl) rfl (tk_Ms.mono t (fun x39 S40 t => ?_))
              refine g_if_ne (tgt := 64) dX7_asked_58 (by decide) (fun c41 => ?_) (fun c41 => ?_)
              · have t := t.1 c41
                refine g_aload_n dX7_asked_64 rfl ?_
                refine g_aload_n dX7_asked_65 rfl ?_
                refine g_getR (n := 13) dX7_asked_66 fl_X7_73 rfl (by decide) (by decide) rfl rfl ?_
                refine g_iload_n dX7_asked_69 rfl ?_
                refine g_sheetE3 dX7_asked_70 c8 ?_
                refine g_iload_n dX7_asked_71 rfl ?_
                refine g_iload dX7_asked_72 rfl ?_
                refine s_V3i dX7_asked_74 vm_X7_takeAsked ml_X7_217 rfl rfl (by decide) (Nat.le_of_ble_eq_true rfl) rfl (tk_Ms.mono t (fun x42 S43 t => ?_))
                refine g_if_ne (tgt := 83) dX7_asked_77 (by decide) (fun c44 => ?_) (fun c44 => ?_)
                · have t := t.1 c44
                  refine g_aload_n dX7_asked_83 rfl ?_
                  refine g_getR (n := 13) dX7_asked_84 fl_X7_67 rfl (by decide) (by decide) rfl rfl ?_
                  refine g_iconst (v := 0) dX7_asked_87 (by decide) ?_
                  refine g_iconst (v := 0) dX7_asked_88 (by decide) ?_
                  refine s_S3v dX7_asked_89 (sm_X7_tryRows 13) (ml_X7_221 13) rfl (by decide) (Nat.le_of_ble_eq_true rfl) rfl (tk_Ms.mono t (fun _ S46 t => ?_))
                  refine g_aload_n dX7_asked_92 rfl ?_
                  refine g_getR (n := 13) dX7_asked_93 fl_X7_67 rfl (by decide) (by decide) rfl rfl ?_
                  refine g_getI (n := 7) dX7_asked_96 fl_X7_225 rfl (by decide) (by decide) rfl ?_
                  refine g_iconst (v := (-1)) dX7_asked_99 (by decide) ?_
                  refine g_icmp_ne (tgt := 106) dX7_asked_100 (by decide) (fun c47 => ?_) (fun c47 => ?_)
                  · have t := t.1 c47
                    refine g_iload dX7_asked_106 rfl ?_
                    refine g_if_ge (tgt := 121) dX7_asked_108 (by decide) (fun c48 => ?_) (fun c48 => ?_)
                    · have t := t.1 c48
                      refine g_aload_n dX7_asked_121 rfl ?_
                      refine g_getR (n := 13) dX7_asked_122 fl_X7_67 rfl (by decide) (by decide) rfl rfl ?_
                      refine g_getR (n := 7) dX7_asked_125 fl_X7_228 rfl (by decide) (by decide) rfl rfl ?_
                      refine g_iload dX7_asked_128 rfl ?_
                      refine g_iald (n := 6) dX7_asked_130 rfl t.1 ?_
                      have t := t.2
                      exact g_iret (st := []) dX7_asked_131 (fun e => by cases e) ⟨_, rfl, t⟩
                    · have t := t.2 c48
                      refine g_aload_n dX7_asked_111 rfl ?_
                      refine g_getR (n := 13) dX7_asked_112 fl_X7_67 rfl (by decide) (by decide) rfl rfl ?_
                      refine g_getI (n := 7) dX7_asked_115 fl_X7_225 rfl (by decide) (by decide) rfl ?_
                      refine g_goto (tgt := 131) dX7_asked_118 (by decide) ?_
                      exact g_iret (st := []) dX7_asked_131 (fun e => by cases e) ⟨_, rfl, t⟩
                  · have t := t.2 c47
                    refine g_bipush (v := (-4)) dX7_asked_103 (by decide) ?_
                    exact g_iret (st := []) dX7_asked_105 (fun e => by cases e) ⟨_, rfl, t⟩
                · have t := t.2 c44
                  refine g_bipush (v := (-2)) dX7_asked_80 (by decide) ?_
                  exact g_iret (st := []) dX7_asked_82 (fun e => by cases e) ⟨_, rfl, t⟩
              · have t := t.2 c41
                refine g_bipush (v := (-13)) dX7_asked_61 (by decide) ?_
                exact g_iret (st := []) dX7_asked_63 (fun e => by cases e) ⟨_, rfl, t⟩
          · have t := t.2 c7
            refine g_iload dX7_asked_41 rfl ?_
            exact g_iret (st := []) dX7_asked_43 (fun e => by cases e) ⟨_, rfl, t⟩
        · have t := t.2 c4
          refine g_iconst (v := (-1)) dX7_asked_26 (by decide) ?_
          exact g_iret (st := []) dX7_asked_27 (fun e => by cases e) ⟨_, rfl, t⟩
theorem w_X7_film {Q : Int32 → tS → Prop} {S : tS} (p1 : Int32) (p2 : Int32) (p3 : Int32) (t : (tk_Ms mX7_refusalOf [.ref 0, .int p1, .int p2] S (fun x1 S2 => ((x1 = 0 → (vp_in p1 4 ∧ (p1 = 0 → (tk_Ms mX4_holds [.ref 37, .int p3, .int (S2 5 0)] S2 (fun x5 S6 => ((¬ x5 = 0 → tk_Gs mX7_film none 42 [.ref 0, .int p1, .int p2, .int p3, .int x1, .int 0] [] S6 (tk_okQ mX7_film Q)) ∧ (x5 = 0 → (tk_okQ mX7_film Q) (-13) S6))))) ∧ (p1 = 1 → (tk_Ms mX4_holds [.ref 39, .int p3, .int (S2 5 0)] S2 (fun x8 S9 => ((¬ x8 = 0 → tk_Gs mX7_film none 42 [.ref 0, .int p1, .int p2, .int p3, .int x1, .int 0] [] S9 (tk_okQ mX7_film Q)) ∧ (x8 = 0 → (tk_okQ mX7_film Q) (-13) S9))))) ∧ (p1 = 2 → (tk_Ms mX4_holds [.ref 41, .int p3, .int (S2 5 0)] S2 (fun x11 S12 => ((¬ x11 = 0 → tk_Gs mX7_film none 42 [.ref 0, .int p1, .int p2, .int p3, .int x1, .int 0] [] S12 (tk_okQ mX7_film Q)) ∧ (x11 = 0 → (tk_okQ mX7_film Q) (-13) S12))))) ∧ (p1 = 3 → (tk_Ms mX4_holds [.ref 43, .int p3, .int (S2 5 0)] S2 (fun x14 S15 => ((¬ x14 = 0 → tk_Gs mX7_film none 42 [.ref 0, .int p1, .int p2, .int p3, .int x1, .int 0] [] S15 (tk_okQ mX7_film Q)) ∧ (x14 = 0 → (tk_okQ mX7_film Q) (-13) S15))))))) ∧ (¬ x1 = 0 → (tk_okQ mX7_film Q) x1 S2))))) : tk_Ms mX7_film [.ref 0, .int p1, .int p2, .int p3] S Q := by
  refine tk_Ms.of (ls := [.ref 0, .int p1, .int p2, .int p3, .null, .null]) (by decide) (by first | exact Or.inl rfl | exact Or.inr (Or.inl rfl) | exact Or.inr (Or.inr rfl)) (Nat.le_of_ble_eq_true rfl) rfl ?_
  refine g_aload_n dX7_film_0 rfl ?_
  refine g_iload_n dX7_film_1 rfl ?_
  refine g_iload_n dX7_film_2 rfl ?_
  refine s_V2i dX7_film_3 vm_X7_refusalOf ml_X7_211 rfl rfl (by decide) (Nat.le_of_ble_eq_true rfl) rfl (tk_Ms.mono t (fun x1 S2 t => ?_))
  refine g_istore (ls' := [.ref 0, .int p1, .int p2, .int p3, .int x1, .null]) dX7_film_6 rfl (by decide) rfl ?_
  refine g_iload dX7_film_8 rfl ?_
  refine g_if_eq (tgt := 16) dX7_film_10 (by decide) (fun c3 => ?_) (fun c3 => ?_)
  · have t := t.1 c3
    refine g_aload_n dX7_film_16 rfl ?_
    refine g_getR (n := 13) dX7_film_17 fl_X7_73 rfl (by decide) (by decide) rfl rfl ?_
    refine g_iload_n dX7_film_20 rfl ?_
    refine g_sheets dX7_film_21 t.1 (fun c4 => ?_) (fun c4 => ?_) (fun c4 => ?_) (fun c4 => ?_)
    · have t := t.2.1 c4
      refine g_iload_n dX7_film_22 rfl ?_
      refine g_aload_n dX7_film_23 rfl ?_
      refine g_getR (n := 13) dX7_film_24 fl_X7_19 rfl (by decide) (by decide) rfl rfl ?_
      refine g_getI (n := 6) dX7_film_27 fl_X7_149 rfl (by decide) (by decide) rfl ?_
      refine s_V2i dX7_film_30 vm_X4_holds ml_X7_214 rfl rfl (by decide) (Nat.le_of_ble_eq_true rfl) rfl (tk_Ms.mono t (fun x5 S6 t => ?_))
      refine g_if_ne (tgt := 39) dX7_film_33 (by decide) (fun c7 => ?_) (fun c7 => ?_)
      · have t := t.1 c7
        refine g_iconst (v := 0) dX7_film_39 (by decide) ?_
        refine g_istore (ls' := [.ref 0, .int p1, .int p2, .int p3, .int x1, .int 0]) dX7_film_40 rfl (by decide) rfl ?_
        exact t
      · have t := t.2 c7
        refine g_bipush (v := (-13)) dX7_film_36 (by decide) ?_
        exact g_iret (st := []) dX7_film_38 (fun e => by cases e) ⟨_, rfl, t⟩
    · have t := t.2.2.1 c4
      refine g_iload_n dX7_film_22 rfl ?_
      refine g_aload_n dX7_film_23 rfl ?_
      refine g_getR (n := 13) dX7_film_24 fl_X7_19 rfl (by decide) (by decide) rfl rfl ?_
      refine g_getI (n := 6) dX7_film_27 fl_X7_149 rfl (by decide) (by decide) rfl ?_
      refine s_V2i dX7_film_30 vm_X4_holds ml_X7_214 rfl rfl (by decide) (Nat.le_of_ble_eq_true rfl) rfl (tk_Ms.mono t (fun x8 S9 t => ?_))
      refine g_if_ne (tgt := 39) dX7_film_33 (by decide) (fun c10 => ?_) (fun c10 => ?_)
      · have t := t.1 c10
        refine g_iconst (v := 0) dX7_film_39 (by decide) ?_
        refine g_istore (ls' := [.ref 0, .int p1, .int p2, .int p3, .int x1, .int 0]) dX7_film_40 rfl (by decide) rfl ?_
        exact t
      · have t := t.2 c10
        refine g_bipush (v := (-13)) dX7_film_36 (by decide) ?_
        exact g_iret (st := []) dX7_film_38 (fun e => by cases e) ⟨_, rfl, t⟩
    · have t := t.2.2.2.1 c4
      refine g_iload_n dX7_film_22 rfl ?_
      refine g_aload_n dX7_film_23 rfl ?_
      refine g_getR (n := 13) dX7_film_24 fl_X7_19 rfl (by decide) (by decide) rfl rfl ?_
      refine g_getI (n := 6) dX7_film_27 fl_X7_149 rfl (by decide) (by decide) rfl ?_
      refine s_V2i dX7_film_30 vm_X4_holds ml_X7_214 rfl rfl (by decide) (Nat.le_of_ble_eq_true rfl) rfl (tk_Ms.mono t (fun x11 S12 t => ?_))
      refine g_if_ne (tgt := 39) dX7_film_33 (by decide) (fun c13 => ?_) (fun c13 => ?_)
      · have t := t.1 c13
        refine g_iconst (v := 0) dX7_film_39 (by decide) ?_
        refine g_istore (ls' := [.ref 0, .int p1, .int p2, .int p3, .int x1, .int 0]) dX7_film_40 rfl (by decide) rfl ?_
        exact t
      · have t := t.2 c13
        refine g_bipush (v := (-13)) dX7_film_36 (by decide) ?_
        exact g_iret (st := []) dX7_film_38 (fun e => by cases e) ⟨_, rfl, t⟩
    · have t := t.2.2.2.2 c4
      refine g_iload_n dX7_film_22 rfl ?_
      refine g_aload_n dX7_film_23 rfl ?_
      refine g_getR (n := 13) dX7_film_24 fl_X7_19 rfl (by decide) (by decide) rfl rfl ?_
      refine g_getI (n := 6) dX7_film_27 fl_X7_149 rfl (by decide) (by decide) rfl ?_
      refine s_V2i dX7_film_30 vm_X4_holds ml_X7_214 rfl rfl (by decide) (Nat.le_of_ble_eq_true rfl) rfl (tk_Ms.mono t (fun x14 S15 t => ?_))
      refine g_if_ne (tgt := 39) dX7_film_33 (by decide) (fun c16 => ?_) (fun c16 => ?_)
      · have t := t.1 c16
        refine g_iconst (v := 0) dX7_film_39 (by decide) ?_
        refine g_istore (ls' := [.ref 0, .int p1, .int p2, .int p3, .int x1, .int 0]) dX7_film_40 rfl (by decide) rfl ?_
        exact t
      · have t := t.2 c16
        refine g_bipush (v := (-13)) dX7_film_36 (by decide) ?_
        exact g_iret (st := []) dX7_film_38 (fun e => by cases e) ⟨_, rfl, t⟩
  · have t := t.2 c3
    refine g_iload dX7_film_13 rfl ?_
    exact g_iret (st := []) dX7_film_15 (fun e => by cases e) ⟨_, rfl, t⟩
theorem w_X7_film_42 {Q : Int32 → tS → Prop} {S : tS} (l1 : Int32) (l2 : Int32) (l3 : Int32) (l4 : Int32) (l5 : Int32)  (t : (((S 5 0) ≤ l5 → Q (S 5 0) S) ∧ (¬ (S 5 0) ≤ l5 → (vp_in l1 4 ∧ (l1 = 0 → (vp_in l5 8 ∧ (tk_Ms mX4_put [.ref 37, .int (l3 + l5), .int (S 9 l5.toNatClampNeg)] S (fun _ S4 => tk_Gs mX7_film none 42 [.ref 0, .int l1, .int l2, .int l3, .int l4, .int (l5 + 1)] [] S4 Q)))) ∧ (l1 = 1 → (vp_in l5 8 ∧ (tk_Ms mX4_put [.ref 39, .int (l3 + l5), .int (S 9 l5.toNatClampNeg)] S (fun _ S6 => tk_Gs mX7_film none 42 [.ref 0, .int l1, .int l2, .int l3, .int l4, .int (l5 + 1)] [] S6 Q)))) ∧ (l1 = 2 → (vp_in l5 8 ∧ (tk_Ms mX4_put [.ref 41, .int (l3 + l5), .int (S 9 l5.toNatClampNeg)] S (fun _ S8 => tk_Gs mX7_film none 42 [.ref 0, .int l1, .int l2, .int l3, .int l4, .int (l5 + 1)] [] S8 Q)))) ∧ (l1 = 3 → (vp_in l5 8 ∧ (tk_Ms mX4_put [.ref 43, .int (l3 + l5), .int (S 9 l5.toNatClampNeg)] S (fun _ S10 => tk_Gs mX7_film none 42 [.ref 0, .int l1, .int l2, .int l3, .int l4, .int (l5 + 1)] [] S10 Q)))))))) : tk_Gs mX7_film none 42 [.ref 0, .int l1, .int l2, .int l3, .int l4, .int l5] [] S Q := by
  show tk_G _ 0 0 _ _ _ _ (tkSH, S, tkRF) _
  refine g_iload dX7_film_42 rfl ?_
  refine g_aload_n dX7_film_44 rfl ?_
  refine g_getR (n := 13) dX7_film_45 fl_X7_19 rfl (by decide) (by decide) rfl rfl ?_
  refine g_getI (n := 6) dX7_film_48 fl_X7_149 rfl (by decide) (by decide) rfl ?_
  refine g_icmp_ge (tgt := 83) dX7_film_51 (by decide) (fun c1 => ?_) (fun c1 => ?_)
  · have t := t.1 c1
    refine g_aload_n dX7_film_83 rfl ?_
    refine g_getR (n := 13) dX7_film_84 fl_X7_19 rfl (by decide) (by decide) rfl rfl ?_
    refine g_getI (n := 6) dX7_film_87 fl_X7_149 rfl (by decide) (by decide) rfl ?_
    exact g_iret (st := []) dX7_film_90 (fun e => by cases e) ⟨_, rfl, t⟩
  · have t := t.2 c1
    refine g_aload_n dX7_film_54 rfl ?_
    refine g_getR (n := 13) dX7_film_55 fl_X7_73 rfl (by decide) (by decide) rfl rfl ?_
    refine g_iload_n dX7_film_58 rfl ?_
    refine g_sheets dX7_film_59 t.1 (fun c2 => ?_) (fun c2 => ?_) (fun c2 => ?_) (fun c2 => ?_)
    · have t := t.2.1 c2
      refine g_iload_n dX7_film_60 rfl ?_
      refine g_iload dX7_film_61 rfl ?_
      refine g_iadd dX7_film_63 ?_
      refine g_aload_n dX7_film_64 rfl ?_
      refine g_getR (n := 13) dX7_film_65 fl_X7_19 rfl (by decide) (by decide) rfl rfl ?_
      refine g_getR (n := 6) dX7_film_68 fl_X7_109 rfl (by decide) (by decide) rfl rfl ?_
      refine g_iload dX7_film_71 rfl ?_
      refine g_iald (n := 8) dX7_film_73 rfl t.1 ?_
      have t := t.2
      refine s_V2v dX7_film_74 vm_X4_put ml_X7_231 rfl rfl (by decide) (Nat.le_of_ble_eq_true rfl) rfl (tk_Ms.mono t (fun _ S4 t => ?_))
      refine g_iinc (v := l5 + 1) (ls' := [.ref 0, .int l1, .int l2, .int l3, .int l4, .int (l5 + 1)]) dX7_film_77 rfl rfl (by decide) rfl rfl ?_
      refine g_goto (tgt := 42) dX7_film_80 (by decide) ?_
      exact t
    · have t := t.2.2.1 c2
      refine g_iload_n dX7_film_60 rfl ?_
      refine g_iload dX7_film_61 rfl ?_
      refine g_iadd dX7_film_63 ?_
      refine g_aload_n dX7_film_64 rfl ?_
      refine g_getR (n := 13) dX7_film_65 fl_X7_19 rfl (by decide) (by decide) rfl rfl ?_
      refine g_getR (n := 6) dX7_film_68 fl_X7_109 rfl (by decide) (by decide) rfl rfl ?_
      refine g_iload dX7_film_71 rfl ?_
      refine g_iald (n := 8) dX7_film_73 rfl t.1 ?_
      have t := t.2
      refine s_V2v dX7_film_74 vm_X4_put ml_X7_231 rfl rfl (by decide) (Nat.le_of_ble_eq_true rfl) rfl (tk_Ms.mono t (fun _ S6 t => ?_))
      refine g_iinc (v := l5 + 1) (ls' := [.ref 0, .int l1, .int l2, .int l3, .int l4, .int (l5 + 1)]) dX7_film_77 rfl rfl (by decide) rfl rfl ?_
      refine g_goto (tgt := 42) dX7_film_80 (by decide) ?_
      exact t
    · have t := t.2.2.2.1 c2
      refine g_iload_n dX7_film_60 rfl ?_
      refine g_iload dX7_film_61 rfl ?_
      refine g_iadd dX7_film_63 ?_
      refine g_aload_n dX7_film_64 rfl ?_
      refine g_getR (n := 13) dX7_film_65 fl_X7_19 rfl (by decide) (by decide) rfl rfl ?_
      refine g_getR (n := 6) dX7_film_68 fl_X7_109 rfl (by decide) (by decide) rfl rfl ?_
      refine g_iload dX7_film_71 rfl ?_
      refine g_iald (n := 8) dX7_film_73 rfl t.1 ?_
      have t := t.2
      refine s_V2v dX7_film_74 vm_X4_put ml_X7_231 rfl rfl (by decide) (Nat.le_of_ble_eq_true rfl) rfl (tk_Ms.mono t (fun _ S8 t => ?_))
      refine g_iinc (v := l5 + 1) (ls' := [.ref 0, .int l1, .int l2, .int l3, .int l4, .int (l5 + 1)]) dX7_film_77 rfl rfl (by decide) rfl rfl ?_
      refine g_goto (tgt := 42) dX7_film_80 (by decide) ?_
      exact t
    · have t := t.2.2.2.2 c2
      refine g_iload_n dX7_film_60 rfl ?_
      refine g_iload dX7_film_61 rfl ?_
      refine g_iadd dX7_film_63 ?_
      refine g_aload_n dX7_film_64 rfl ?_
      refine g_getR (n := 13) dX7_film_65 fl_X7_19 rfl (by decide) (by decide) rfl rfl ?_
      refine g_getR (n := 6) dX7_film_68 fl_X7_109 rfl (by decide) (by decide) rfl rfl ?_
      refine g_iload dX7_film_71 rfl ?_
      refine g_iald (n := 8) dX7_film_73 rfl t.1 ?_
      have t := t.2
      refine s_V2v dX7_film_74 vm_X4_put ml_X7_231 rfl rfl (by decide) (Nat.le_of_ble_eq_true rfl) rfl (tk_Ms.mono t (fun _ S10 t => ?_))
      refine g_iinc (v := l5 + 1) (ls' := [.ref 0, .int l1, .int l2, .int l3, .int l4, .int (l5 + 1)]) dX7_film_77 rfl rfl (by decide) rfl rfl ?_
      refine g_goto (tgt := 42) dX7_film_80 (by decide) ?_
      exact t
theorem w_X7_sheet {Q : Int32 → tS → Prop} {S : tS} (p1 : Int32) (p2 : Int32) (p3 : Int32) (t : (tk_Ms mX7_isSheet [.int p1] S (fun x1 S2 => ((x1 = 0 → (tk_okQ mX7_sheet Q) (-1) S2) ∧ (¬ x1 = 0 → (tk_Ms mX7_isLane [.int p2] S2 (fun x4 S5 => ((x4 = 0 → (tk_okQ mX7_sheet Q) (-1) S5) ∧ (¬ x4 = 0 → ((p3 ≤ 24 → ((0 ≤ p3 → (vp_in p1 4 ∧ (p1 = 0 → (tk_Ms mX4_renew [.ref 37, .int p2, .int p3] S5 (fun _ S11 => (tk_okQ mX7_sheet Q) p3 S11))) ∧ (p1 = 1 → (tk_Ms mX4_renew [.ref 39, .int p2, .int p3] S5 (fun _ S13 => (tk_okQ mX7_sheet Q) p3 S13))) ∧ (p1 = 2 → (tk_Ms mX4_renew [.ref 41, .int p2, .int p3] S5 (fun _ S15 => (tk_okQ mX7_sheet Q) p3 S15))) ∧ (p1 = 3 → (tk_Ms mX4_renew [.ref 43, .int p2, .int p3] S5 (fun _ S17 => (tk_okQ mX7_sheet Q) p3 S17))))) ∧ (¬ 0 ≤ p3 → (tk_okQ mX7_sheet Q) (-14) S5))) ∧ (¬ p3 ≤ 24 → (tk_okQ mX7_sheet Q) (-1) S5))))))))))) : tk_Ms mX7_sheet [.ref 0, .int p1, .int p2, .int p3] S Q := by
  refine tk_Ms.of (ls := [.ref 0, .int p1, .int p2, .int p3]) (by decide) (by first | exact Or.inl rfl | exact Or.inr (Or.inl rfl) | exact Or.inr (Or.inr rfl)) (Nat.le_of_ble_eq_true rfl) rfl ?_
  refine g_iload_n dX7_sheet_0 rfl ?_
  refine s_S1i dX7_sheet_1 sm_X7_isSheet ml_X7_235 rfl (by decide) (Nat.le_of_ble_eq_true rfl) rfl (tk_Ms.mono t (fun x1 S2 t => ?_))
  refine g_if_eq (tgt := 20) dX7_sheet_4 (by decide) (fun c3 => ?_) (fun c3 => ?_)
  · have t := t.1 c3
    refine g_iconst (v := (-1)) dX7_sheet_20 (by decide) ?_
    exact g_iret (st := []) dX7_sheet_21 (fun e => by cases e) ⟨_, rfl, t⟩
  · have t := t.2 c3
    refine g_iload_n dX7_sheet_7 rfl ?_
    refine s_S1i dX7_sheet_8 sm_X7_isLane ml_X7_238 rfl (by decide) (Nat.le_of_ble_eq_true rfl) rfl (tk_Ms.mono t (fun x4 S5 t => ?_))
    refine g_if_eq (tgt := 20) dX7_sheet_11 (by decide) (fun c6 => ?_) (fun c6 => ?_)
    · have t := t.1 c6
      refine g_iconst (v := (-1)) dX7_sheet_20 (by decide) ?_
      exact g_iret (st := []) dX7_sheet_21 (fun e => by cases e) ⟨_, rfl, t⟩
    · have t := t.2 c6
      refine g_iload_n dX7_sheet_14 rfl ?_
      refine g_bipush (v := 24) dX7_sheet_15 (by decide) ?_
      refine g_icmp_le (tgt := 22) dX7_sheet_17 (by decide) (fun c7 => ?_) (fun c7 => ?_)
      · have t := t.1 c7
        refine g_iload_n dX7_sheet_22 rfl ?_
        refine g_if_ge (tgt := 29) dX7_sheet_23 (by decide) (fun c8 => ?_) (fun c8 => ?_)
        · have t := t.1 c8
          refine g_aload_n dX7_sheet_29 rfl ?_
          refine g_getR (n := 13) dX7_sheet_30 fl_X7_73 rfl (by decide) (by decide) rfl rfl ?_
          refine g_iload_n dX7_sheet_33 rfl ?_
          refine g_sheets dX7_sheet_34 t.1 (fun c9 => ?_) (fun c9 => ?_) (fun c9 => ?_) (fun c9 => ?_)
          · have t := t.2.1 c9
            refine g_iload_n dX7_sheet_35 rfl ?_
            refine g_iload_n dX7_sheet_36 rfl ?_
            refine s_V2v dX7_sheet_37 vm_X4_renew ml_X7_241 rfl rfl (by decide) (Nat.le_of_ble_eq_true rfl) rfl (tk_Ms.mono t (fun _ S11 t => ?_))
            refine g_iload_n dX7_sheet_40 rfl ?_
            exact g_iret (st := []) dX7_sheet_41 (fun e => by cases e) ⟨_, rfl, t⟩
          · have t := t.2.2.1 c9
            refine g_iload_n dX7_sheet_35 rfl ?_
            refine g_iload_n dX7_sheet_36 rfl ?_
            refine s_V2v dX7_sheet_37 vm_X4_renew ml_X7_241 rfl rfl (by decide) (Nat.le_of_ble_eq_true rfl) rfl (tk_Ms.mono t (fun _ S13 t => ?_))
            refine g_iload_n dX7_sheet_40 rfl ?_
            exact g_iret (st := []) dX7_sheet_41 (fun e => by cases e) ⟨_, rfl, t⟩
          · have t := t.2.2.2.1 c9
            refine g_iload_n dX7_sheet_35 rfl ?_
            refine g_iload_n dX7_sheet_36 rfl ?_
            refine s_V2v dX7_sheet_37 vm_X4_renew ml_X7_241 rfl rfl (by decide) (Nat.le_of_ble_eq_true rfl) rfl (tk_Ms.mono t (fun _ S15 t => ?_))
            refine g_iload_n dX7_sheet_40 rfl ?_
            exact g_iret (st := []) dX7_sheet_41 (fun e => by cases e) ⟨_, rfl, t⟩
          · have t := t.2.2.2.2 c9
            refine g_iload_n dX7_sheet_35 rfl ?_
            refine g_iload_n dX7_sheet_36 rfl ?_
            refine s_V2v dX7_sheet_37 vm_X4_renew ml_X7_241 rfl rfl (by decide) (Nat.le_of_ble_eq_true rfl) rfl (tk_Ms.mono t (fun _ S17 t => ?_))
            refine g_iload_n dX7_sheet_40 rfl ?_
            exact g_iret (st := []) dX7_sheet_41 (fun e => by cases e) ⟨_, rfl, t⟩
        · have t := t.2 c8
          refine g_bipush (v := (-14)) dX7_sheet_26 (by decide) ?_
          exact g_iret (st := []) dX7_sheet_28 (fun e => by cases e) ⟨_, rfl, t⟩
      · have t := t.2 c7
        refine g_iconst (v := (-1)) dX7_sheet_20 (by decide) ?_
        exact g_iret (st := []) dX7_sheet_21 (fun e => by cases e) ⟨_, rfl, t⟩
theorem w_X7_drop {Q : Int32 → tS → Prop} {S : tS} (p1 : Int32) (t : (tk_Ms mX7_isSheet [.int p1] S (fun x1 S2 => ((¬ x1 = 0 → (vp_in p1 4 ∧ (p1 = 0 → ((¬ (S2 37 1) = (-1) → (tk_okQ mX7_drop Q) (S2 37 1) (tk_up S2 37 1 (-1))) ∧ ((S2 37 1) = (-1) → (tk_okQ mX7_drop Q) (-11) S2))) ∧ (p1 = 1 → ((¬ (S2 39 1) = (-1) → (tk_okQ mX7_drop Q) (S2 39 1) (tk_up S2 39 1 (-1))) ∧ ((S2 39 1) = (-1) → (tk_okQ mX7_drop Q) (-11) S2))) ∧ (p1 = 2 → ((¬ (S2 41 1) = (-1) → (tk_okQ mX7_drop Q) (S2 41 1) (tk_up S2 41 1 (-1))) ∧ ((S2 41 1) = (-1) → (tk_okQ mX7_drop Q) (-11) S2))) ∧ (p1 = 3 → ((¬ (S2 43 1) = (-1) → (tk_okQ mX7_drop Q) (S2 43 1) (tk_up S2 43 1 (-1))) ∧ ((S2 43 1) = (-1) → (tk_okQ mX7_drop Q) (-11) S2))))) ∧ (x1 = 0 → (tk_okQ mX7_drop Q) (-1) S2))))) : tk_Ms mX7_drop [.ref 0, .int p1] S Q := by
  refine tk_Ms.of (ls := [.ref 0, .int p1, .null]) (by decide) (by first | exact Or.inl rfl | exact Or.inr (Or.inl rfl) | exact Or.inr (Or.inr rfl)) (Nat.le_of_ble_eq_true rfl) rfl ?_
  refine g_iload_n dX7_drop_0 rfl ?_
  refine s_S1i dX7_drop_1 sm_X7_isSheet ml_X7_235 rfl (by decide) (Nat.le_of_ble_eq_true rfl) rfl (tk_Ms.mono t (fun x1 S2 t => ?_))
  refine g_if_ne (tgt := 9) dX7_drop_4 (by decide) (fun c3 => ?_) (fun c3 => ?_)
  · have t := t.1 c3
    refine g_aload_n dX7_drop_9 rfl ?_
    refine g_getR (n := 13) dX7_drop_10 fl_X7_73 rfl (by decide) (by decide) rfl rfl ?_
    refine g_iload_n dX7_drop_13 rfl ?_
    refine g_sheets dX7_drop_14 t.1 (fun c4 => ?_) (fun c4 => ?_) (fun c4 => ?_) (fun c4 => ?_)
    · have t := t.2.1 c4
      refine g_getI (n := 3) dX7_drop_15 fl_X7_244 rfl (by decide) (by decide) rfl ?_
      refine g_istore_n (ls' := [.ref 0, .int p1, .int (S2 37 1)]) dX7_drop_18 rfl (by decide) rfl ?_
      refine g_iload_n dX7_drop_19 rfl ?_
      refine g_iconst (v := (-1)) dX7_drop_20 (by decide) ?_
      refine g_icmp_ne (tgt := 27) dX7_drop_21 (by decide) (fun c5 => ?_) (fun c5 => ?_)
      · have t := t.1 c5
        refine g_aload_n dX7_drop_27 rfl ?_
        refine g_getR (n := 13) dX7_drop_28 fl_X7_73 rfl (by decide) (by decide) rfl rfl ?_
        refine g_iload_n dX7_drop_31 rfl ?_
        refine g_sheetE0 dX7_drop_32 c4 ?_
        refine g_iconst (v := (-1)) dX7_drop_33 (by decide) ?_
        refine g_putI (n := 3) dX7_drop_34 fl_X7_244 rfl (by decide) (by decide) rfl rfl rfl ?_
        refine g_iload_n dX7_drop_37 rfl ?_
        exact g_iret (st := []) dX7_drop_38 (fun e => by cases e) ⟨_, rfl, t⟩
      · have t := t.2 c5
        refine g_bipush (v := (-11)) dX7_drop_24 (by decide) ?_
        exact g_iret (st := []) dX7_drop_26 (fun e => by cases e) ⟨_, rfl, t⟩
    · have t := t.2.2.1 c4
      refine g_getI (n := 3) dX7_drop_15 fl_X7_244 rfl (by decide) (by decide) rfl ?_
      refine g_istore_n (ls' := [.ref 0, .int p1, .int (S2 39 1)]) dX7_drop_18 rfl (by decide) rfl ?_
      refine g_iload_n dX7_drop_19 rfl ?_
      refine g_iconst (v := (-1)) dX7_drop_20 (by decide) ?_
      refine g_icmp_ne (tgt := 27) dX7_drop_21 (by decide) (fun c6 => ?_) (fun c6 => ?_)
      · have t := t.1 c6
        refine g_aload_n dX7_drop_27 rfl ?_
        refine g_getR (n := 13) dX7_drop_28 fl_X7_73 rfl (by decide) (by decide) rfl rfl ?_
        refine g_iload_n dX7_drop_31 rfl ?_
        refine g_sheetE1 dX7_drop_32 c4 ?_
        refine g_iconst (v := (-1)) dX7_drop_33 (by decide) ?_
        refine g_putI (n := 3) dX7_drop_34 fl_X7_244 rfl (by decide) (by decide) rfl rfl rfl ?_
        refine g_iload_n dX7_drop_37 rfl ?_
        exact g_iret (st := []) dX7_drop_38 (fun e => by cases e) ⟨_, rfl, t⟩
      · have t := t.2 c6
        refine g_bipush (v := (-11)) dX7_drop_24 (by decide) ?_
        exact g_iret (st := []) dX7_drop_26 (fun e => by cases e) ⟨_, rfl, t⟩
    · have t := t.2.2.2.1 c4
      refine g_getI (n := 3) dX7_drop_15 fl_X7_244 rfl (by decide) (by decide) rfl ?_
      refine g_istore_n (ls' := [.ref 0, .int p1, .int (S2 41 1)]) dX7_drop_18 rfl (by decide) rfl ?_
      refine g_iload_n dX7_drop_19 rfl ?_
      refine g_iconst (v := (-1)) dX7_drop_20 (by decide) ?_
      refine g_icmp_ne (tgt := 27) dX7_drop_21 (by decide) (fun c7 => ?_) (fun c7 => ?_)
      · have t := t.1 c7
        refine g_aload_n dX7_drop_27 rfl ?_
        refine g_getR (n := 13) dX7_drop_28 fl_X7_73 rfl (by decide) (by decide) rfl rfl ?_
        refine g_iload_n dX7_drop_31 rfl ?_
        refine g_sheetE2 dX7_drop_32 c4 ?_
        refine g_iconst (v := (-1)) dX7_drop_33 (by decide) ?_
        refine g_putI (n := 3) dX7_drop_34 fl_X7_244 rfl (by decide) (by decide) rfl rfl rfl ?_
        refine g_iload_n dX7_drop_37 rfl ?_
        exact g_iret (st := []) dX7_drop_38 (fun e => by cases e) ⟨_, rfl, t⟩
      · have t := t.2 c7
        refine g_bipush (v := (-11)) dX7_drop_24 (by decide) ?_
        exact g_iret (st := []) dX7_drop_26 (fun e => by cases e) ⟨_, rfl, t⟩
    · have t := t.2.2.2.2 c4
      refine g_getI (n := 3) dX7_drop_15 fl_X7_244 rfl (by decide) (by decide) rfl ?_
      refine g_istore_n (ls' := [.ref 0, .int p1, .int (S2 43 1)]) dX7_drop_18 rfl (by decide) rfl ?_
      refine g_iload_n dX7_drop_19 rfl ?_
      refine g_iconst (v := (-1)) dX7_drop_20 (by decide) ?_
      refine g_icmp_ne (tgt := 27) dX7_drop_21 (by decide) (fun c8 => ?_) (fun c8 => ?_)
      · have t := t.1 c8
        refine g_aload_n dX7_drop_27 rfl ?_
        refine g_getR (n := 13) dX7_drop_28 fl_X7_73 rfl (by decide) (by decide) rfl rfl ?_
        refine g_iload_n dX7_drop_31 rfl ?_
        refine g_sheetE3 dX7_drop_32 c4 ?_
        refine g_iconst (v := (-1)) dX7_drop_33 (by decide) ?_
        refine g_putI (n := 3) dX7_drop_34 fl_X7_244 rfl (by decide) (by decide) rfl rfl rfl ?_
        refine g_iload_n dX7_drop_37 rfl ?_
        exact g_iret (st := []) dX7_drop_38 (fun e => by cases e) ⟨_, rfl, t⟩
      · have t := t.2 c8
        refine g_bipush (v := (-11)) dX7_drop_24 (by decide) ?_
        exact g_iret (st := []) dX7_drop_26 (fun e => by cases e) ⟨_, rfl, t⟩
  · have t := t.2 c3
    refine g_iconst (v := (-1)) dX7_drop_7 (by decide) ?_
    exact g_iret (st := []) dX7_drop_8 (fun e => by cases e) ⟨_, rfl, t⟩
theorem w_X7_item {Q : Int32 → tS → Prop} {S : tS} (p1 : Int32) (p2 : Int32) (p3 : Int32) (p4 : Int32) (t : (tk_Ms mX7_refusalOf [.ref 0, .int p1, .int p2] S (fun x1 S2 => ((x1 = 0 → (vp_in p1 4 ∧ (p1 = 0 → (tk_Ms mX4_holds [.ref 37, .int p3, .int 1] S2 (fun x5 S6 => ((¬ x5 = 0 → (tk_Ms mX4_put [.ref 37, .int p3, .int p4] S6 (fun _ S9 => (tk_okQ mX7_item Q) 1 S9))) ∧ (x5 = 0 → (tk_okQ mX7_item Q) (-13) S6))))) ∧ (p1 = 1 → (tk_Ms mX4_holds [.ref 39, .int p3, .int 1] S2 (fun x10 S11 => ((¬ x10 = 0 → (tk_Ms mX4_put [.ref 39, .int p3, .int p4] S11 (fun _ S14 => (tk_okQ mX7_item Q) 1 S14))) ∧ (x10 = 0 → (tk_okQ mX7_item Q) (-13) S11))))) ∧ (p1 = 2 → (tk_Ms mX4_holds [.ref 41, .int p3, .int 1] S2 (fun x15 S16 => ((¬ x15 = 0 → (tk_Ms mX4_put [.ref 41, .int p3, .int p4] S16 (fun _ S19 => (tk_okQ mX7_item Q) 1 S19))) ∧ (x15 = 0 → (tk_okQ mX7_item Q) (-13) S16))))) ∧ (p1 = 3 → (tk_Ms mX4_holds [.ref 43, .int p3, .int 1] S2 (fun x20 S21 => ((¬ x20 = 0 → (tk_Ms mX4_put [.ref 43, .int p3, .int p4] S21 (fun _ S24 => (tk_okQ mX7_item Q) 1 S24))) ∧ (x20 = 0 → (tk_okQ mX7_item Q) (-13) S21))))))) ∧ (¬ x1 = 0 → (tk_okQ mX7_item Q) x1 S2))))) : tk_Ms mX7_item [.ref 0, .int p1, .int p2, .int p3, .int p4] S Q := by
  refine tk_Ms.of (ls := [.ref 0, .int p1, .int p2, .int p3, .int p4, .null]) (by decide) (by first | exact Or.inl rfl | exact Or.inr (Or.inl rfl) | exact Or.inr (Or.inr rfl)) (Nat.le_of_ble_eq_true rfl) rfl ?_
  refine g_aload_n dX7_item_0 rfl ?_
  refine g_iload_n dX7_item_1 rfl ?_
  refine g_iload_n dX7_item_2 rfl ?_
  refine s_V2i dX7_item_3 vm_X7_refusalOf ml_X7_211 rfl rfl (by decide) (Nat.le_of_ble_eq_true rfl) rfl (tk_Ms.mono t (fun x1 S2 t => ?_))
  refine g_istore (ls' := [.ref 0, .int p1, .int p2, .int p3, .int p4, .int x1]) dX7_item_6 rfl (by decide) rfl ?_
  refine g_iload dX7_item_8 rfl ?_
  refine g_if_eq (tgt := 16) dX7_item_10 (by decide) (fun c3 => ?_) (fun c3 => ?_)
  · have t := t.1 c3
    refine g_aload_n dX7_item_16 rfl ?_
    refine g_getR (n := 13) dX7_item_17 fl_X7_73 rfl (by decide) (by decide) rfl rfl ?_
    refine g_iload_n dX7_item_20 rfl ?_
    refine g_sheets dX7_item_21 t.1 (fun c4 => ?_) (fun c4 => ?_) (fun c4 => ?_) (fun c4 => ?_)
    · have t := t.2.1 c4
      refine g_iload_n dX7_item_22 rfl ?_
      refine g_iconst (v := 1) dX7_item_23 (by decide) ?_
      refine s_V2i dX7_item_24 vm_X4_holds ml_X7_214 rfl rfl (by decide) (Nat.le_of_ble_eq_true rfl) rfl (tk_Ms.mono t (fun x5 S6 t => ?_))
      refine g_if_ne (tgt := 33) dX7_item_27 (by decide) (fun c7 => ?_) (fun c7 => ?_)
      · have t := t.1 c7
        refine g_aload_n dX7_item_33 rfl ?_
        refine g_getR (n := 13) dX7_item_34 fl_X7_73 rfl (by decide) (by decide) rfl rfl ?_
        refine g_iload_n dX7_item_37 rfl ?_
        refine g_sheetE0 dX7_item_38 c4 ?_
        refine g_iload_n dX7_item_39 rfl ?_
        refine g_iload dX7_item_40 rfl ?_
        refine s_V2v dX7_item_42 vm_X4_put ml_X7_231 rfl rfl (by decide) (Nat.le_of_ble_eq_true rfl) rfl (tk_Ms.mono t (fun _ S9 t => ?_))
        refine g_iconst (v := 1) dX7_item_45 (by decide) ?_
        exact g_iret (st := []) dX7_item_46 (fun e => by cases e) ⟨_, rfl, t⟩
      · have t := t.2 c7
        refine g_bipush (v := (-13)) dX7_item_30 (by decide) ?_
        exact g_iret (st := []) dX7_item_32 (fun e => by cases e) ⟨_, rfl, t⟩
    · have t := t.2.2.1 c4
      refine g_iload_n dX7_item_22 rfl ?_
      refine g_iconst (v := 1) dX7_item_23 (by decide) ?_
      refine s_V2i dX7_item_24 vm_X4_holds ml_X7_214 rfl rfl (by decide) (Nat.le_of_ble_eq_true rfl) rfl (tk_Ms.mono t (fun x10 S11 t => ?_))
      refine g_if_ne (tgt := 33) dX7_item_27 (by decide) (fun c12 => ?_) (fun c12 => ?_)
      · have t := t.1 c12
        refine g_aload_n dX7_item_33 rfl ?_
        refine g_getR (n := 13) dX7_item_34 fl_X7_73 rfl (by decide) (by decide) rfl rfl ?_
        refine g_iload_n dX7_item_37 rfl ?_
        refine g_sheetE1 dX7_item_38 c4 ?_
        refine g_iload_n dX7_item_39 rfl ?_
        refine g_iload dX7_item_40 rfl ?_
        refine s_V2v dX7_item_42 vm_X4_put ml_X7_231 rfl rfl (by decide) (Nat.le_of_ble_eq_true rfl) rfl (tk_Ms.mono t (fun _ S14 t => ?_))
        refine g_iconst (v := 1) dX7_item_45 (by decide) ?_
        exact g_iret (st := []) dX7_item_46 (fun e => by cases e) ⟨_, rfl, t⟩
      · have t := t.2 c12
        refine g_bipush (v := (-13)) dX7_item_30 (by decide) ?_
        exact g_iret (st := []) dX7_item_32 (fun e => by cases e) ⟨_, rfl, t⟩
    · have t := t.2.2.2.1 c4
      refine g_iload_n dX7_item_22 rfl ?_
      refine g_iconst (v := 1) dX7_item_23 (by decide) ?_
      refine s_V2i dX7_item_24 vm_X4_holds ml_X7_214 rfl rfl (by decide) (Nat.le_of_ble_eq_true rfl) rfl (tk_Ms.mono t (fun x15 S16 t => ?_))
      refine g_if_ne (tgt := 33) dX7_item_27 (by decide) (fun c17 => ?_) (fun c17 => ?_)
      · have t := t.1 c17
        refine g_aload_n dX7_item_33 rfl ?_
        refine g_getR (n := 13) dX7_item_34 fl_X7_73 rfl (by decide) (by decide) rfl rfl ?_
        refine g_iload_n dX7_item_37 rfl ?_
        refine g_sheetE2 dX7_item_38 c4 ?_
        refine g_iload_n dX7_item_39 rfl ?_
        refine g_iload dX7_item_40 rfl ?_
        refine s_V2v dX7_item_42 vm_X4_put ml_X7_231 rfl rfl (by decide) (Nat.le_of_ble_eq_true rfl) rfl (tk_Ms.mono t (fun _ S19 t => ?_))
        refine g_iconst (v := 1) dX7_item_45 (by decide) ?_
        exact g_iret (st := []) dX7_item_46 (fun e => by cases e) ⟨_, rfl, t⟩
      · have t := t.2 c17
        refine g_bipush (v := (-13)) dX7_item_30 (by decide) ?_
        exact g_iret (st := []) dX7_item_32 (fun e => by cases e) ⟨_, rfl, t⟩
    · have t := t.2.2.2.2 c4
      refine g_iload_n dX7_item_22 rfl ?_
      refine g_iconst (v := 1) dX7_item_23 (by decide) ?_
      refine s_V2i dX7_item_24 vm_X4_holds ml_X7_214 rfl rfl (by decide) (Nat.le_of_ble_eq_true rfl) rfl (tk_Ms.mono t (fun x20 S21 t => ?_))
      refine g_if_ne (tgt := 33) dX7_item_27 (by decide) (fun c22 => ?_) (fun c22 => ?_)
      · have t := t.1 c22
        refine g_aload_n dX7_item_33 rfl ?_
        refine g_getR (n := 13) dX7_item_34 fl_X7_73 rfl (by decide) (by decide) rfl rfl ?_
        refine g_iload_n dX7_item_37 rfl ?_
        refine g_sheetE3 dX7_item_38 c4 ?_
        refine g_iload_n dX7_item_39 rfl ?_
        refine g_iload dX7_item_40 rfl ?_
        refine s_V2v dX7_item_42 vm_X4_put ml_X7_231 rfl rfl (by decide) (Nat.le_of_ble_eq_true rfl) rfl (tk_Ms.mono t (fun _ S24 t => ?_))
        refine g_iconst (v := 1) dX7_item_45 (by decide) ?_
        exact g_iret (st := []) dX7_item_46 (fun e => by cases e) ⟨_, rfl, t⟩
      · have t := t.2 c22
        refine g_bipush (v := (-13)) dX7_item_30 (by decide) ?_
        exact g_iret (st := []) dX7_item_32 (fun e => by cases e) ⟨_, rfl, t⟩
  · have t := t.2 c3
    refine g_iload dX7_item_13 rfl ?_
    exact g_iret (st := []) dX7_item_15 (fun e => by cases e) ⟨_, rfl, t⟩
theorem w_X7_copy {Q : Int32 → tS → Prop} {S : tS} (p1 : Int32) (p2 : Int32) (p3 : Int32) (p4 : Int32) (p5 : Int32) (t : (tk_Ms mX7_isSheet [.int p1] S (fun x1 S2 => ((x1 = 0 → (tk_okQ mX7_copy Q) (-1) S2) ∧ (¬ x1 = 0 → (tk_Ms mX7_isSheet [.int p3] S2 (fun x4 S5 => ((¬ x4 = 0 → (vp_in p1 4 ∧ (p1 = 0 → (vp_in p3 4 ∧ (p3 = 0 → (((S5 37 1) = (-1) → (tk_okQ mX7_copy Q) (-11) S5) ∧ (¬ (S5 37 1) = (-1) → ((¬ (S5 37 1) = (-1) → (((S5 37 0) = (S5 37 0) → (tk_Ms mX4_holds [.ref 37, .int p2, .int p5] S5 (fun x12 S13 => ((x12 = 0 → (tk_okQ mX7_copy Q) (-13) S13) ∧ (¬ x12 = 0 → (tk_Ms mX4_holds [.ref 37, .int p4, .int p5] S13 (fun x15 S16 => ((¬ x15 = 0 → (¬ (p2 : Int32) < 0 ∧ ¬ (p4 : Int32) < 0 ∧ ¬ (p5 : Int32) < 0 ∧ (p2 : Int32).toNatClampNeg + (p5 : Int32).toNatClampNeg ≤ 24 ∧ (p4 : Int32).toNatClampNeg + (p5 : Int32).toNatClampNeg ≤ 24 ∧ (tk_okQ mX7_copy Q) p5 (tk_upR S16 38 (va_cpy (S16 38) (S16 38) (p2 : Int32).toNatClampNeg (p4 : Int32).toNatClampNeg (p5 : Int32).toNatClampNeg)))) ∧ (x15 = 0 → (tk_okQ mX7_copy Q) (-13) S16))))))))) ∧ (¬ (S5 37 0) = (S5 37 0) → (tk_okQ mX7_copy Q) (-12) S5))) ∧ ((S5 37 1) = (-1) → (tk_okQ mX7_copy Q) (-11) S5))))) ∧ (p3 = 1 → (((S5 37 1) = (-1) → (tk_okQ mX7_copy Q) (-11) S5) ∧ (¬ (S5 37 1) = (-1) → ((¬ (S5 39 1) = (-1) → (((S5 37 0) = (S5 39 0) → (tk_Ms mX4_holds [.ref 37, .int p2, .int p5] S5 (fun x21 S22 => ((x21 = 0 → (tk_okQ mX7_copy Q) (-13) S22) ∧ (¬ x21 = 0 → (tk_Ms mX4_holds [.ref 39, .int p4, .int p5] S22 (fun x24 S25 => ((¬ x24 = 0 → (¬ (p2 : Int32) < 0 ∧ ¬ (p4 : Int32) < 0 ∧ ¬ (p5 : Int32) < 0 ∧ (p2 : Int32).toNatClampNeg + (p5 : Int32).toNatClampNeg ≤ 24 ∧ (p4 : Int32).toNatClampNeg + (p5 : Int32).toNatClampNeg ≤ 24 ∧ (tk_okQ mX7_copy Q) p5 (tk_upR S25 40 (va_cpy (S25 38) (S25 40) (p2 : Int32).toNatClampNeg (p4 : Int32).toNatClampNeg (p5 : Int32).toNatClampNeg)))) ∧ (x24 = 0 → (tk_okQ mX7_copy Q) (-13) S25))))))))) ∧ (¬ (S5 37 0) = (S5 39 0) → (tk_okQ mX7_copy Q) (-12) S5))) ∧ ((S5 39 1) = (-1) → (tk_okQ mX7_copy Q) (-11) S5))))) ∧ (p3 = 2 → (((S5 37 1) = (-1) → (tk_okQ mX7_copy Q) (-11) S5) ∧ (¬ (S5 37 1) = (-1) → ((¬ (S5 41 1) = (-1) → (((S5 37 0) = (S5 41 0) → (tk_Ms mX4_holds [.ref 37, .int p2, .int p5] S5 (fun x30 S31 => ((x30 = 0 → (tk_okQ mX7_copy Q) (-13) S31) ∧ (¬ x30 = 0 → (tk_Ms mX4_holds [.ref 41, .int p4, .int p5] S31 (fun x33 S34 => ((¬ x33 = 0 → (¬ (p2 : Int32) < 0 ∧ ¬ (p4 : Int32) < 0 ∧ ¬ (p5 : Int32) < 0 ∧ (p2 : Int32).toNatClampNeg + (p5 : Int32).toNatClampNeg ≤ 24 ∧ (p4 : Int32).toNatClampNeg + (p5 : Int32).toNatClampNeg ≤ 24 ∧ (tk_okQ mX7_copy Q) p5 (tk_upR S34 42 (va_cpy (S34 38) (S34 42) (p2 : Int32).toNatClampNeg (p4 : Int32).toNatClampNeg (p5 : Int32).toNatClampNeg)))) ∧ (x33 = 0 → (tk_okQ mX7_copy Q) (-13) S34))))))))) ∧ (¬ (S5 37 0) = (S5 41 0) → (tk_okQ mX7_copy Q) (-12) S5))) ∧ ((S5 41 1) = (-1) → (tk_okQ mX7_copy Q) (-11) S5))))) ∧ (p3 = 3 → (((S5 37 1) = (-1) → (tk_okQ mX7_copy Q) (-11) S5) ∧ (¬ (S5 37 1) = (-1) → ((¬ (S5 43 1) = (-1) → (((S5 37 0) = (S5 43 0) → (tk_Ms mX4_holds [.ref 37, .int p2, .int p5] S5 (fun x39 S40 => ((x39 = 0 → (tk_okQ mX7_copy Q) (-13) S40) ∧ (¬ x39 = 0 → (tk_Ms mX4_holds [.ref 43, .int p4, .int p5] S40 (fun x42 S43 => ((¬ x42 = 0 → (¬ (p2 : Int32) < 0 ∧ ¬ (p4 : Int32) < 0 ∧ ¬ (p5 : Int32) < 0 ∧ (p2 : Int32).toNatClampNeg + (p5 : Int32).toNatClampNeg ≤ 24 ∧ (p4 : Int32).toNatClampNeg + (p5 : Int32).toNatClampNeg ≤ 24 ∧ (tk_okQ mX7_copy Q) p5 (tk_upR S43 44 (va_cpy (S43 38) (S43 44) (p2 : Int32).toNatClampNeg (p4 : Int32).toNatClampNeg (p5 : Int32).toNatClampNeg)))) ∧ (x42 = 0 → (tk_okQ mX7_copy Q) (-13) S43))))))))) ∧ (¬ (S5 37 0) = (S5 43 0) → (tk_okQ mX7_copy Q) (-12) S5))) ∧ ((S5 43 1) = (-1) → (tk_okQ mX7_copy Q) (-11) S5))))))) ∧ (p1 = 1 → (vp_in p3 4 ∧ (p3 = 0 → (((S5 39 1) = (-1) → (tk_okQ mX7_copy Q) (-11) S5) ∧ (¬ (S5 39 1) = (-1) → ((¬ (S5 37 1) = (-1) → (((S5 39 0) = (S5 37 0) → (tk_Ms mX4_holds [.ref 39, .int p2, .int p5] S5 (fun x49 S50 => ((x49 = 0 → (tk_okQ mX7_copy Q) (-13) S50) ∧ (¬ x49 = 0 → (tk_Ms mX4_holds [.ref 37, .int p4, .int p5] S50 (fun x52 S53 => ((¬ x52 = 0 → (¬ (p2 : Int32) < 0 ∧ ¬ (p4 : Int32) < 0 ∧ ¬ (p5 : Int32) < 0 ∧ (p2 : Int32).toNatClampNeg + (p5 : Int32).toNatClampNeg ≤ 24 ∧ (p4 : Int32).toNatClampNeg + (p5 : Int32).toNatClampNeg ≤ 24 ∧ (tk_okQ mX7_copy Q) p5 (tk_upR S53 38 (va_cpy (S53 40) (S53 38) (p2 : Int32).toNatClampNeg (p4 : Int32).toNatClampNeg (p5 : Int32).toNatClampNeg)))) ∧ (x52 = 0 → (tk_okQ mX7_copy Q) (-13) S53))))))))) ∧ (¬ (S5 39 0) = (S5 37 0) → (tk_okQ mX7_copy Q) (-12) S5))) ∧ ((S5 37 1) = (-1) → (tk_okQ mX7_copy Q) (-11) S5))))) ∧ (p3 = 1 → (((S5 39 1) = (-1) → (tk_okQ mX7_copy Q) (-11) S5) ∧ (¬ (S5 39 1) = (-1) → ((¬ (S5 39 1) = (-1) → (((S5 39 0) = (S5 39 0) → (tk_Ms mX4_holds [.ref 39, .int p2, .int p5] S5 (fun x58 S59 => ((x58 = 0 → (tk_okQ mX7_copy Q) (-13) S59) ∧ (¬ x58 = 0 → (tk_Ms mX4_holds [.ref 39, .int p4, .int p5] S59 (fun x61 S62 => ((¬ x61 = 0 → (¬ (p2 : Int32) < 0 ∧ ¬ (p4 : Int32) < 0 ∧ ¬ (p5 : Int32) < 0 ∧ (p2 : Int32).toNatClampNeg + (p5 : Int32).toNatClampNeg ≤ 24 ∧ (p4 : Int32).toNatClampNeg + (p5 : Int32).toNatClampNeg ≤ 24 ∧ (tk_okQ mX7_copy Q) p5 (tk_upR S62 40 (va_cpy (S62 40) (S62 40) (p2 : Int32).toNatClampNeg (p4 : Int32).toNatClampNeg (p5 : Int32).toNatClampNeg)))) ∧ (x61 = 0 → (tk_okQ mX7_copy Q) (-13) S62))))))))) ∧ (¬ (S5 39 0) = (S5 39 0) → (tk_okQ mX7_copy Q) (-12) S5))) ∧ ((S5 39 1) = (-1) → (tk_okQ mX7_copy Q) (-11) S5))))) ∧ (p3 = 2 → (((S5 39 1) = (-1) → (tk_okQ mX7_copy Q) (-11) S5) ∧ (¬ (S5 39 1) = (-1) → ((¬ (S5 41 1) = (-1) → (((S5 39 0) = (S5 41 0) → (tk_Ms mX4_holds [.ref 39, .int p2, .int p5] S5 (fun x67 S68 => ((x67 = 0 → (tk_okQ mX7_copy Q) (-13) S68) ∧ (¬ x67 = 0 → (tk_Ms mX4_holds [.ref 41, .int p4, .int p5] S68 (fun x70 S71 => ((¬ x70 = 0 → (¬ (p2 : Int32) < 0 ∧ ¬ (p4 : Int32) < 0 ∧ ¬ (p5 : Int32) < 0 ∧ (p2 : Int32).toNatClampNeg + (p5 : Int32).toNatClampNeg ≤ 24 ∧ (p4 : Int32).toNatClampNeg + (p5 : Int32).toNatClampNeg ≤ 24 ∧ (tk_okQ mX7_copy Q) p5 (tk_upR S71 42 (va_cpy (S71 40) (S71 42) (p2 : Int32).toNatClampNeg (p4 : Int32).toNatClampNeg (p5 : Int32).toNatClampNeg)))) ∧ (x70 = 0 → (tk_okQ mX7_copy Q) (-13) S71))))))))) ∧ (¬ (S5 39 0) = (S5 41 0) → (tk_okQ mX7_copy Q) (-12) S5))) ∧ ((S5 41 1) = (-1) → (tk_okQ mX7_copy Q) (-11) S5))))) ∧ (p3 = 3 → (((S5 39 1) = (-1) → (tk_okQ mX7_copy Q) (-11) S5) ∧ (¬ (S5 39 1) = (-1) → ((¬ (S5 43 1) = (-1) → (((S5 39 0) = (S5 43 0) → (tk_Ms mX4_holds [.ref 39, .int p2, .int p5] S5 (fun x76 S77 => ((x76 = 0 → (tk_okQ mX7_copy Q) (-13) S77) ∧ (¬ x76 = 0 → (tk_Ms mX4_holds [.ref 43, .int p4, .int p5] S77 (fun x79 S80 => ((¬ x79 = 0 → (¬ (p2 : Int32) < 0 ∧ ¬ (p4 : Int32) < 0 ∧ ¬ (p5 : Int32) < 0 ∧ (p2 : Int32).toNatClampNeg + (p5 : Int32).toNatClampNeg ≤ 24 ∧ (p4 : Int32).toNatClampNeg + (p5 : Int32).toNatClampNeg ≤ 24 ∧ (tk_okQ mX7_copy Q) p5 (tk_upR S80 44 (va_cpy (S80 40) (S80 44) (p2 : Int32).toNatClampNeg (p4 : Int32).toNatClampNeg (p5 : Int32).toNatClampNeg)))) ∧ (x79 = 0 → (tk_okQ mX7_copy Q) (-13) S80))))))))) ∧ (¬ (S5 39 0) = (S5 43 0) → (tk_okQ mX7_copy Q) (-12) S5))) ∧ ((S5 43 1) = (-1) → (tk_okQ mX7_copy Q) (-11) S5))))))) ∧ (p1 = 2 → (vp_in p3 4 ∧ (p3 = 0 → (((S5 41 1) = (-1) → (tk_okQ mX7_copy Q) (-11) S5) ∧ (¬ (S5 41 1) = (-1) → ((¬ (S5 37 1) = (-1) → (((S5 41 0) = (S5 37 0) → (tk_Ms mX4_holds [.ref 41, .int p2, .int p5] S5 (fun x86 S87 => ((x86 = 0 → (tk_okQ mX7_copy Q) (-13) S87) ∧ (¬ x86 = 0 → (tk_Ms mX4_holds [.ref 37, .int p4, .int p5] S87 (fun x89 S90 => ((¬ x89 = 0 → (¬ (p2 : Int32) < 0 ∧ ¬ (p4 : Int32) < 0 ∧ ¬ (p5 : Int32) < 0 ∧ (p2 : Int32).toNatClampNeg + (p5 : Int32).toNatClampNeg ≤ 24 ∧ (p4 : Int32).toNatClampNeg + (p5 : Int32).toNatClampNeg ≤ 24 ∧ (tk_okQ mX7_copy Q) p5 (tk_upR S90 38 (va_cpy (S90 42) (S90 38) (p2 : Int32).toNatClampNeg (p4 : Int32).toNatClampNeg (p5 : Int32).toNatClampNeg)))) ∧ (x89 = 0 → (tk_okQ mX7_copy Q) (-13) S90))))))))) ∧ (¬ (S5 41 0) = (S5 37 0) → (tk_okQ mX7_copy Q) (-12) S5))) ∧ ((S5 37 1) = (-1) → (tk_okQ mX7_copy Q) (-11) S5))))) ∧ (p3 = 1 → (((S5 41 1) = (-1) → (tk_okQ mX7_copy Q) (-11) S5) ∧ (¬ (S5 41 1) = (-1) → ((¬ (S5 39 1) = (-1) → (((S5 41 0) = (S5 39 0) → (tk_Ms mX4_holds [.ref 41, .int p2, .int p5] S5 (fun x95 S96 => ((x95 = 0 → (tk_okQ mX7_copy Q) (-13) S96) ∧ (¬ x95 = 0 → (tk_Ms mX4_holds [.ref 39, .int p4, .int p5] S96 (fun x98 S99 => ((¬ x98 = 0 → (¬ (p2 : Int32) < 0 ∧ ¬ (p4 : Int32) < 0 ∧ ¬ (p5 : Int32) < 0 ∧ (p2 : Int32).toNatClampNeg + (p5 : Int32).toNatClampNeg ≤ 24 ∧ (p4 : Int32).toNatClampNeg + (p5 : Int32).toNatClampNeg ≤ 24 ∧ (tk_okQ mX7_copy Q) p5 (tk_upR S99 40 (va_cpy (S99 42) (S99 40) (p2 : Int32).toNatClampNeg (p4 : Int32).toNatClampNeg (p5 : Int32).toNatClampNeg)))) ∧ (x98 = 0 → (tk_okQ mX7_copy Q) (-13) S99))))))))) ∧ (¬ (S5 41 0) = (S5 39 0) → (tk_okQ mX7_copy Q) (-12) S5))) ∧ ((S5 39 1) = (-1) → (tk_okQ mX7_copy Q) (-11) S5))))) ∧ (p3 = 2 → (((S5 41 1) = (-1) → (tk_okQ mX7_copy Q) (-11) S5) ∧ (¬ (S5 41 1) = (-1) → ((¬ (S5 41 1) = (-1) → (((S5 41 0) = (S5 41 0) → (tk_Ms mX4_holds [.ref 41, .int p2, .int p5] S5 (fun x104 S105 => ((x104 = 0 → (tk_okQ mX7_copy Q) (-13) S105) ∧ (¬ x104 = 0 → (tk_Ms mX4_holds [.ref 41, .int p4, .int p5] S105 (fun x107 S108 => ((¬ x107 = 0 → (¬ (p2 : Int32) < 0 ∧ ¬ (p4 : Int32) < 0 ∧ ¬ (p5 : Int32) < 0 ∧ (p2 : Int32).toNatClampNeg + (p5 : Int32).toNatClampNeg ≤ 24 ∧ (p4 : Int32).toNatClampNeg + (p5 : Int32).toNatClampNeg ≤ 24 ∧ (tk_okQ mX7_copy Q) p5 (tk_upR S108 42 (va_cpy (S108 42) (S108 42) (p2 : Int32).toNatClampNeg (p4 : Int32).toNatClampNeg (p5 : Int32).toNatClampNeg)))) ∧ (x107 = 0 → (tk_okQ mX7_copy Q) (-13) S108))))))))) ∧ (¬ (S5 41 0) = (S5 41 0) → (tk_okQ mX7_copy Q) (-12) S5))) ∧ ((S5 41 1) = (-1) → (tk_okQ mX7_copy Q) (-11) S5))))) ∧ (p3 = 3 → (((S5 41 1) = (-1) → (tk_okQ mX7_copy Q) (-11) S5) ∧ (¬ (S5 41 1) = (-1) → ((¬ (S5 43 1) = (-1) → (((S5 41 0) = (S5 43 0) → (tk_Ms mX4_holds [.ref 41, .int p2, .int p5] S5 (fun x113 S114 => ((x113 = 0 → (tk_okQ mX7_copy Q) (-13) S114) ∧ (¬ x113 = 0 → (tk_Ms mX4_holds [.ref 43, .int p4, .int p5] S114 (fun x116 S117 => ((¬ x116 = 0 → (¬ (p2 : Int32) < 0 ∧ ¬ (p4 : Int32) < 0 ∧ ¬ (p5 : Int32) < 0 ∧ (p2 : Int32).toNatClampNeg + (p5 : Int32).toNatClampNeg ≤ 24 ∧ (p4 : Int32).toNatClampNeg + (p5 : Int32).toNatClampNeg ≤ 24 ∧ (tk_okQ mX7_copy Q) p5 (tk_upR S117 44 (va_cpy (S117 42) (S117 44) (p2 : Int32).toNatClampNeg (p4 : Int32).toNatClampNeg (p5 : Int32).toNatClampNeg)))) ∧ (x116 = 0 → (tk_okQ mX7_copy Q) (-13) S117))))))))) ∧ (¬ (S5 41 0) = (S5 43 0) → (tk_okQ mX7_copy Q) (-12) S5))) ∧ ((S5 43 1) = (-1) → (tk_okQ mX7_copy Q) (-11) S5))))))) ∧ (p1 = 3 → (vp_in p3 4 ∧ (p3 = 0 → (((S5 43 1) = (-1) → (tk_okQ mX7_copy Q) (-11) S5) ∧ (¬ (S5 43 1) = (-1) → ((¬ (S5 37 1) = (-1) → (((S5 43 0) = (S5 37 0) → (tk_Ms mX4_holds [.ref 43, .int p2, .int p5] S5 (fun x123 S124 => ((x123 = 0 → (tk_okQ mX7_copy Q) (-13) S124) ∧ (¬ x123 = 0 → (tk_Ms mX4_holds [.ref 37, .int p4, .int p5] S124 (fun x126 S127 => ((¬ x126 = 0 → (¬ (p2 : Int32) < 0 ∧ ¬ (p4 : Int32) < 0 ∧ ¬ (p5 : Int32) < 0 ∧ (p2 : Int32).toNatClampNeg + (p5 : Int32).toNatClampNeg ≤ 24 ∧ (p4 : Int32).toNatClampNeg + (p5 : Int32).toNatClampNeg ≤ 24 ∧ (tk_okQ mX7_copy Q) p5 (tk_upR S127 38 (va_cpy (S127 44) (S127 38) (p2 : Int32).toNatClampNeg (p4 : Int32).toNatClampNeg (p5 : Int32).toNatClampNeg)))) ∧ (x126 = 0 → (tk_okQ mX7_copy Q) (-13) S127))))))))) ∧ (¬ (S5 43 0) = (S5 37 0) → (tk_okQ mX7_copy Q) (-12) S5))) ∧ ((S5 37 1) = (-1) → (tk_okQ mX7_copy Q) (-11) S5))))) ∧ (p3 = 1 → (((S5 43 1) = (-1) → (tk_okQ mX7_copy Q) (-11) S5) ∧ (¬ (S5 43 1) = (-1) → ((¬ (S5 39 1) = (-1) → (((S5 43 0) = (S5 39 0) → (tk_Ms mX4_holds [.ref 43, .int p2, .int p5] S5 (fun x132 S133 => ((x132 = 0 → (tk_okQ mX7_copy Q) (-13) S133) ∧ (¬ x132 = 0 → (tk_Ms mX4_holds [.ref 39, .int p4, .int p5] S133 (fun x135 S136 => ((¬ x135 = 0 → (¬ (p2 : Int32) < 0 ∧ ¬ (p4 : Int32) < 0 ∧ ¬ (p5 : Int32) < 0 ∧ (p2 : Int32).toNatClampNeg + (p5 : Int32).toNatClampNeg ≤ 24 ∧ (p4 : Int32).toNatClampNeg + (p5 : Int32).toNatClampNeg ≤ 24 ∧ (tk_okQ mX7_copy Q) p5 (tk_upR S136 40 (va_cpy (S136 44) (S136 40) (p2 : Int32).toNatClampNeg (p4 : Int32).toNatClampNeg (p5 : Int32).toNatClampNeg)))) ∧ (x135 = 0 → (tk_okQ mX7_copy Q) (-13) S136))))))))) ∧ (¬ (S5 43 0) = (S5 39 0) → (tk_okQ mX7_copy Q) (-12) S5))) ∧ ((S5 39 1) = (-1) → (tk_okQ mX7_copy Q) (-11) S5))))) ∧ (p3 = 2 → (((S5 43 1) = (-1) → (tk_okQ mX7_copy Q) (-11) S5) ∧ (¬ (S5 43 1) = (-1) → ((¬ (S5 41 1) = (-1) → (((S5 43 0) = (S5 41 0) → (tk_Ms mX4_holds [.ref 43, .int p2, .int p5] S5 (fun x141 S142 => ((x141 = 0 → (tk_okQ mX7_copy Q) (-13) S142) ∧ (¬ x141 = 0 → (tk_Ms mX4_holds [.ref 41, .int p4, .int p5] S142 (fun x144 S145 => ((¬ x144 = 0 → (¬ (p2 : Int32) < 0 ∧ ¬ (p4 : Int32) < 0 ∧ ¬ (p5 : Int32) < 0 ∧ (p2 : Int32).toNatClampNeg + (p5 : Int32).toNatClampNeg ≤ 24 ∧ (p4 : Int32).toNatClampNeg + (p5 : Int32).toNatClampNeg ≤ 24 ∧ (tk_okQ mX7_copy Q) p5 (tk_upR S145 42 (va_cpy (S145 44) (S145 42) (p2 : Int32).toNatClampNeg (p4 : Int32).toNatClampNeg (p5 : Int32).toNatClampNeg)))) ∧ (x144 = 0 → (tk_okQ mX7_copy Q) (-13) S145))))))))) ∧ (¬ (S5 43 0) = (S5 41 0) → (tk_okQ mX7_copy Q) (-12) S5))) ∧ ((S5 41 1) = (-1) → (tk_okQ mX7_copy Q) (-11) S5))))) ∧ (p3 = 3 → (((S5 43 1) = (-1) → (tk_okQ mX7_copy Q) (-11) S5) ∧ (¬ (S5 43 1) = (-1) → ((¬ (S5 43 1) = (-1) → (((S5 43 0) = (S5 43 0) → (tk_Ms mX4_holds [.ref 43, .int p2, .int p5] S5 (fun x150 S151 => ((x150 = 0 → (tk_okQ mX7_copy Q) (-13) S151) ∧ (¬ x150 = 0 → (tk_Ms mX4_holds [.ref 43, .int p4, .int p5] S151 (fun x153 S154 => ((¬ x153 = 0 → (¬ (p2 : Int32) < 0 ∧ ¬ (p4 : Int32) < 0 ∧ ¬ (p5 : Int32) < 0 ∧ (p2 : Int32).toNatClampNeg + (p5 : Int32).toNatClampNeg ≤ 24 ∧ (p4 : Int32).toNatClampNeg + (p5 : Int32).toNatClampNeg ≤ 24 ∧ (tk_okQ mX7_copy Q) p5 (tk_upR S154 44 (va_cpy (S154 44) (S154 44) (p2 : Int32).toNatClampNeg (p4 : Int32).toNatClampNeg (p5 : Int32).toNatClampNeg)))) ∧ (x153 = 0 → (tk_okQ mX7_copy Q) (-13) S154))))))))) ∧ (¬ (S5 43 0) = (S5 43 0) → (tk_okQ mX7_copy Q) (-12) S5))) ∧ ((S5 43 1) = (-1) → (tk_okQ mX7_copy Q) (-11) S5))))))))) ∧ (x4 = 0 → (tk_okQ mX7_copy Q) (-1) S5))))))))) : tk_Ms mX7_copy [.ref 0, .int p1, .int p2, .int p3, .int p4, .int p5] S Q := by
  refine tk_Ms.of (ls := [.ref 0, .int p1, .int p2, .int p3, .int p4, .int p5, .null, .null]) (by decide) (by first | exact Or.inl rfl | exact Or.inr (Or.inl rfl) | exact Or.inr (Or.inr rfl)) (Nat.le_of_ble_eq_true rfl) rfl ?_
  refine g_iload_n dX7_copy_0 rfl ?_
  refine s_S1i dX7_copy_1 sm_X7_isSheet ml_X7_235 rfl (by decide) (Nat.le_of_ble_eq_true rfl) rfl (tk_Ms.mono t (fun x1 S2 t => ?_))
  refine g_if_eq (tgt := 14) dX7_copy_4 (by decide) (fun c3 => ?_) (fun c3 => ?_)
  · have t := t.1 c3
    refine g_iconst (v := (-1)) dX7_copy_14 (by decide) ?_
    exact g_iret (st := []) dX7_copy_15 (fun e => by cases e) ⟨_, rfl, t⟩
  · have t := t.2 c3
    refine g_iload_n dX7_copy_7 rfl ?_
    refine s_S1i dX7_copy_8 sm_X7_isSheet ml_X7_235 rfl (by decide) (Nat.le_of_ble_eq_true rfl) rfl (tk_Ms.mono t (fun x4 S5 t => ?_))
    refine g_if_ne (tgt := 16) dX7_copy_11 (by decide) (fun c6 => ?_) (fun c6 => ?_)
    · have t := t.1 c6
      refine g_aload_n dX7_copy_16 rfl ?_
      refine g_getR (n := 13) dX7_copy_17 fl_X7_73 rfl (by decide) (by decide) rfl rfl ?_
      refine g_iload_n dX7_copy_20 rfl ?_
      refine g_sheets dX7_copy_21 t.1 (fun c7 => ?_) (fun c7 => ?_) (fun c7 => ?_) (fun c7 => ?_)
      · have t := t.2.1 c7
        refine g_astore (ls' := [.ref 0, .int p1, .int p2, .int p3, .int p4, .int p5, .ref 37, .null]) dX7_copy_22 rfl (by decide) rfl ?_
        refine g_aload_n dX7_copy_24 rfl ?_
        refine g_getR (n := 13) dX7_copy_25 fl_X7_73 rfl (by decide) (by decide) rfl rfl ?_
        refine g_iload_n dX7_copy_28 rfl ?_
        refine g_sheets dX7_copy_29 t.1 (fun c8 => ?_) (fun c8 => ?_) (fun c8 => ?_) (fun c8 => ?_)
        · have t := t.2.1 c8
          refine g_astore (ls' := [.ref 0, .int p1, .int p2, .int p3, .int p4, .int p5, .ref 37, .ref 37]) dX7_copy_30 rfl (by decide) rfl ?_
          refine g_aload dX7_copy_32 rfl ?_
          refine g_getI (n := 3) dX7_copy_34 fl_X7_244 rfl (by decide) (by decide) rfl ?_
          refine g_iconst (v := (-1)) dX7_copy_37 (by decide) ?_
          refine g_icmp_eq (tgt := 50) dX7_copy_38 (by decide) (fun c9 => ?_) (fun c9 => ?_)
          · have t := t.1 c9
            refine g_bipush (v := (-11)) dX7_copy_50 (by decide) ?_
            exact g_iret (st := []) dX7_copy_52 (fun e => by cases e) ⟨_, rfl, t⟩
          · have t := t.2 c9
            refine g_aload dX7_copy_41 rfl ?_
            refine g_getI (n := 3) dX7_copy_43 fl_X7_244 rfl (by decide) (by decide) rfl ?_
            refine g_iconst (v := (-1)) dX7_copy_46 (by decide) ?_
            refine g_icmp_ne (tgt := 53) dX7_copy_47 (by decide) (fun c10 => ?_) (fun c10 => ?_)
            · have t := t.1 c10
              refine g_aload dX7_copy_53 rfl ?_
              refine g_getI (n := 3) dX7_copy_55 fl_X7_245 rfl (by decide) (by decide) rfl ?_
              refine g_aload dX7_copy_58 rfl ?_
              refine g_getI (n := 3) dX7_copy_60 fl_X7_245 rfl (by decide) (by decide) rfl ?_
              refine g_icmp_eq (tgt := 69) dX7_copy_63 (by decide) (fun c11 => ?_) (fun c11 => ?_)
              · have t := t.1 c11
                refine g_aload dX7_copy_69 rfl ?_
                refine g_iload_n dX7_copy_71 rfl ?_
                refine g_iload dX7_copy_72 rfl ?_
                refine s_V2i dX7_copy_74 vm_X4_holds ml_X7_214 rfl rfl (by decide) (Nat.le_of_ble_eq_true rfl) rfl (tk_Ms.mono t (fun x12 S13 t => ?_))
                refine g_if_eq (tgt := 92) dX7_copy_77 (by decide) (fun c14 => ?_) (fun c14 => ?_)
                · have t := t.1 c14
                  refine g_bipush (v := (-13)) dX7_copy_92 (by decide) ?_
                  exact g_iret (st := []) dX7_copy_94 (fun e => by cases e) ⟨_, rfl, t⟩
                · have t := t.2 c14
                  refine g_aload dX7_copy_80 rfl ?_
                  refine g_iload dX7_copy_82 rfl ?_
                  refine g_iload dX7_copy_84 rfl ?_
                  refine s_V2i dX7_copy_86 vm_X4_holds ml_X7_214 rfl rfl (by decide) (Nat.le_of_ble_eq_true rfl) rfl (tk_Ms.mono t (fun x15 S16 t => ?_))
                  refine g_if_ne (tgt := 95) dX7_copy_89 (by decide) (fun c17 => ?_) (fun c17 => ?_)
                  · have t := t.1 c17
                    refine g_aload dX7_copy_95 rfl ?_
                    refine g_getR (n := 3) dX7_copy_97 fl_X7_248 rfl (by decide) (by decide) rfl rfl ?_
                    refine g_iload_n dX7_copy_100 rfl ?_
                    refine g_aload dX7_copy_101 rfl ?_
                    refine g_getR (n := 3) dX7_copy_103 fl_X7_248 rfl (by decide) (by decide) rfl rfl ?_
                    refine g_iload dX7_copy_106 rfl ?_
                    refine g_iload dX7_copy_108 rfl ?_
                    refine g_acopy (n0 := 24) (n1 := 24) dX7_copy_110 ml_X7_251 (by decide) (Nat.le_of_ble_eq_true rfl) rfl rfl t.1 t.2.1 t.2.2.1 t.2.2.2.1 t.2.2.2.2.1 ?_
                    have t := t.2.2.2.2.2
                    refine g_iload dX7_copy_113 rfl ?_
                    exact g_iret (st := []) dX7_copy_115 (fun e => by cases e) ⟨_, rfl, t⟩
                  · have t := t.2 c17
                    refine g_bipush (v := (-13)) dX7_copy_92 (by decide) ?_
                    exact g_iret (st := []) dX7_copy_94 (fun e => by cases e) ⟨_, rfl, t⟩
              · have t := t.2 c11
                refine g_bipush (v := (-12)) dX7_copy_66 (by decide) ?_
                exact g_iret (st := []) dX7_copy_68 (fun e => by cases e) ⟨_, rfl, t⟩
            · have t := t.2 c10
              refine g_bipush (v := (-11)) dX7_copy_50 (by decide) ?_
              exact g_iret (st := []) dX7_copy_52 (fun e => by cases e) ⟨_, rfl, t⟩
        · have t := t.2.2.1 c8
          refine g_astore (ls' := [.ref 0, .int p1, .int p2, .int p3, .int p4, .int p5, .ref 37, .ref 39]) dX7_copy_30 rfl (by decide) rfl ?_
          refine g_aload dX7_copy_32 rfl ?_
          refine g_getI (n := 3) dX7_copy_34 fl_X7_244 rfl (by decide) (by decide) rfl ?_
          refine g_iconst (v := (-1)) dX7_copy_37 (by decide) ?_
          refine g_icmp_eq (tgt := 50) dX7_copy_38 (by decide) (fun c18 => ?_) (fun c18 => ?_)
          · have t := t.1 c18
            refine g_bipush (v := (-11)) dX7_copy_50 (by decide) ?_
            exact g_iret (st := []) dX7_copy_52 (fun e => by cases e) ⟨_, rfl, t⟩
          · have t := t.2 c18
            refine g_aload dX7_copy_41 rfl ?_
            refine g_getI (n := 3) dX7_copy_43 fl_X7_244 rfl (by decide) (by decide) rfl ?_
            refine g_iconst (v := (-1)) dX7_copy_46 (by decide) ?_
            refine g_icmp_ne (tgt := 53) dX7_copy_47 (by decide) (fun c19 => ?_) (fun c19 => ?_)
            · have t := t.1 c19
              refine g_aload dX7_copy_53 rfl ?_
              refine g_getI (n := 3) dX7_copy_55 fl_X7_245 rfl (by decide) (by decide) rfl ?_
              refine g_aload dX7_copy_58 rfl ?_
              refine g_getI (n := 3) dX7_copy_60 fl_X7_245 rfl (by decide) (by decide) rfl ?_
              refine g_icmp_eq (tgt := 69) dX7_copy_63 (by decide) (fun c20 => ?_) (fun c20 => ?_)
              · have t := t.1 c20
                refine g_aload dX7_copy_69 rfl ?_
                refine g_iload_n dX7_copy_71 rfl ?_
                refine g_iload dX7_copy_72 rfl ?_
                refine s_V2i dX7_copy_74 vm_X4_holds ml_X7_214 rfl rfl (by decide) (Nat.le_of_ble_eq_true rfl) rfl (tk_Ms.mono t (fun x21 S22 t => ?_))
                refine g_if_eq (tgt := 92) dX7_copy_77 (by decide) (fun c23 => ?_) (fun c23 => ?_)
                · have t := t.1 c23
                  refine g_bipush (v := (-13)) dX7_copy_92 (by decide) ?_
                  exact g_iret (st := []) dX7_copy_94 (fun e => by cases e) ⟨_, rfl, t⟩
                · have t := t.2 c23
                  refine g_aload dX7_copy_80 rfl ?_
                  refine g_iload dX7_copy_82 rfl ?_
                  refine g_iload dX7_copy_84 rfl ?_
                  refine s_V2i dX7_copy_86 vm_X4_holds ml_X7_214 rfl rfl (by decide) (Nat.le_of_ble_eq_true rfl) rfl (tk_Ms.mono t (fun x24 S25 t => ?_))
                  refine g_if_ne (tgt := 95) dX7_copy_89 (by decide) (fun c26 => ?_) (fun c26 => ?_)
                  · have t := t.1 c26
                    refine g_aload dX7_copy_95 rfl ?_
                    refine g_getR (n := 3) dX7_copy_97 fl_X7_248 rfl (by decide) (by decide) rfl rfl ?_
                    refine g_iload_n dX7_copy_100 rfl ?_
                    refine g_aload dX7_copy_101 rfl ?_
                    refine g_getR (n := 3) dX7_copy_103 fl_X7_248 rfl (by decide) (by decide) rfl rfl ?_
                    refine g_iload dX7_copy_106 rfl ?_
                    refine g_iload dX7_copy_108 rfl ?_
                    refine g_acopy (n0 := 24) (n1 := 24) dX7_copy_110 ml_X7_251 (by decide) (Nat.le_of_ble_eq_true rfl) rfl rfl t.1 t.2.1 t.2.2.1 t.2.2.2.1 t.2.2.2.2.1 ?_
                    have t := t.2.2.2.2.2
                    refine g_iload dX7_copy_113 rfl ?_
                    exact g_iret (st := []) dX7_copy_115 (fun e => by cases e) ⟨_, rfl, t⟩
                  · have t := t.2 c26
                    refine g_bipush (v := (-13)) dX7_copy_92 (by decide) ?_
                    exact g_iret (st := []) dX7_copy_94 (fun e => by cases e) ⟨_, rfl, t⟩
              · have t := t.2 c20
                refine g_bipush (v := (-12)) dX7_copy_66 (by decide) ?_
                exact g_iret (st := []) dX7_copy_68 (fun e => by cases e) ⟨_, rfl, t⟩
            · have t := t.2 c19
              refine g_bipush (v := (-11)) dX7_copy_50 (by decide) ?_
              exact g_iret (st := []) dX7_copy_52 (fun e => by cases e) ⟨_, rfl, t⟩
        · have t := t.2.2.2.1 c8
          refine g_astore (ls' := [.ref 0, .int p1, .int p2, .int p3, .int p4, .int p5, .ref 37, .ref 41]) dX7_copy_30 rfl (by decide) rfl ?_
          refine g_aload dX7_copy_32 rfl ?_
          refine g_getI (n := 3) dX7_copy_34 fl_X7_244 rfl (by decide) (by decide) rfl ?_
          refine g_iconst (v := (-1)) dX7_copy_37 (by decide) ?_
          refine g_icmp_eq (tgt := 50) dX7_copy_38 (by decide) (fun c27 => ?_) (fun c27 => ?_)
          · have t := t.1 c27
            refine g_bipush (v := (-11)) dX7_copy_50 (by decide) ?_
            exact g_iret (st := []) dX7_copy_52 (fun e => by cases e) ⟨_, rfl, t⟩
          · have t := t.2 c27
            refine g_aload dX7_copy_41 rfl ?_
            refine g_getI (n := 3) dX7_copy_43 fl_X7_244 rfl (by decide) (by decide) rfl ?_
            refine g_iconst (v := (-1)) dX7_copy_46 (by decide) ?_
            refine g_icmp_ne (tgt := 53) dX7_copy_47 (by decide) (fun c28 => ?_) (fun c28 => ?_)
            · have t := t.1 c28
              refine g_aload dX7_copy_53 rfl ?_
              refine g_getI (n := 3) dX7_copy_55 fl_X7_245 rfl (by decide) (by decide) rfl ?_
              refine g_aload dX7_copy_58 rfl ?_
              refine g_getI (n := 3) dX7_copy_60 fl_X7_245 rfl (by decide) (by decide) rfl ?_
              refine g_icmp_eq (tgt := 69) dX7_copy_63 (by decide) (fun c29 => ?_) (fun c29 => ?_)
              · have t := t.1 c29
                refine g_aload dX7_copy_69 rfl ?_
                refine g_iload_n dX7_copy_71 rfl ?_
                refine g_iload dX7_copy_72 rfl ?_
                refine s_V2i dX7_copy_74 vm_X4_holds ml_X7_214 rfl rfl (by decide) (Nat.le_of_ble_eq_true rfl) rfl (tk_Ms.mono t (fun x30 S31 t => ?_))
                refine g_if_eq (tgt := 92) dX7_copy_77 (by decide) (fun c32 => ?_) (fun c32 => ?_)
                · have t := t.1 c32
                  refine g_bipush (v := (-13)) dX7_copy_92 (by decide) ?_
                  exact g_iret (st := []) dX7_copy_94 (fun e => by cases e) ⟨_, rfl, t⟩
                · have t := t.2 c32
                  refine g_aload dX7_copy_80 rfl ?_
                  refine g_iload dX7_copy_82 rfl ?_
                  refine g_iload dX7_copy_84 rfl ?_
                  refine s_V2i dX7_copy_86 vm_X4_holds ml_X7_214 rfl rfl (by decide) (Nat.le_of_ble_eq_true rfl) rfl (tk_Ms.mono t (fun x33 S34 t => ?_))
                  refine g_if_ne (tgt := 95) dX7_copy_89 (by decide) (fun c35 => ?_) (fun c35 => ?_)
                  · have t := t.1 c35
                    refine g_aload dX7_copy_95 rfl ?_
                    refine g_getR (n := 3) dX7_copy_97 fl_X7_248 rfl (by decide) (by decide) rfl rfl ?_
                    refine g_iload_n dX7_copy_100 rfl ?_
                    refine g_aload dX7_copy_101 rfl ?_
                    refine g_getR (n := 3) dX7_copy_103 fl_X7_248 rfl (by decide) (by decide) rfl rfl ?_
                    refine g_iload dX7_copy_106 rfl ?_
                    refine g_iload dX7_copy_108 rfl ?_
                    refine g_acopy (n0 := 24) (n1 := 24) dX7_copy_110 ml_X7_251 (by decide) (Nat.le_of_ble_eq_true rfl) rfl rfl t.1 t.2.1 t.2.2.1 t.2.2.2.1 t.2.2.2.2.1 ?_
                    have t := t.2.2.2.2.2
                    refine g_iload dX7_copy_113 rfl ?_
                    exact g_iret (st := []) dX7_copy_115 (fun e => by cases e) ⟨_, rfl, t⟩
                  · have t := t.2 c35
                    refine g_bipush (v := (-13)) dX7_copy_92 (by decide) ?_
                    exact g_iret (st := []) dX7_copy_94 (fun e => by cases e) ⟨_, rfl, t⟩
              · have t := t.2 c29
                refine g_bipush (v := (-12)) dX7_copy_66 (by decide) ?_
                exact g_iret (st := []) dX7_copy_68 (fun e => by cases e) ⟨_, rfl, t⟩
            · have t := t.2 c28
              refine g_bipush (v := (-11)) dX7_copy_50 (by decide) ?_
              exact g_iret (st := []) dX7_copy_52 (fun e => by cases e) ⟨_, rfl, t⟩
        · have t := t.2.2.2.2 c8
          refine g_astore (ls' := [.ref 0, .int p1, .int p2, .int p3, .int p4, .int p5, .ref 37, .ref 43]) dX7_copy_30 rfl (by decide) rfl ?_
          refine g_aload dX7_copy_32 rfl ?_
          refine g_getI (n := 3) dX7_copy_34 fl_X7_244 rfl (by decide) (by decide) rfl ?_
          refine g_iconst (v := (-1)) dX7_copy_37 (by decide) ?_
          refine g_icmp_eq (tgt := 50) dX7_copy_38 (by decide) (fun c36 => ?_) (fun c36 => ?_)
          · have t := t.1 c36
            refine g_bipush (v := (-11)) dX7_copy_50 (by decide) ?_
            exact g_iret (st := []) dX7_copy_52 (fun e => by cases e) ⟨_, rfl, t⟩
          · have t := t.2 c36
            refine g_aload dX7_copy_41 rfl ?_
            refine g_getI (n := 3) dX7_copy_43 fl_X7_244 rfl (by decide) (by decide) rfl ?_
            refine g_iconst (v := (-1)) dX7_copy_46 (by decide) ?_
            refine g_icmp_ne (tgt := 53) dX7_copy_47 (by decide) (fun c37 => ?_) (fun c37 => ?_)
            · have t := t.1 c37
              refine g_aload dX7_copy_53 rfl ?_
              refine g_getI (n := 3) dX7_copy_55 fl_X7_245 rfl (by decide) (by decide) rfl ?_
              refine g_aload dX7_copy_58 rfl ?_
              refine g_getI (n := 3) dX7_copy_60 fl_X7_245 rfl (by decide) (by decide) rfl ?_
              refine g_icmp_eq (tgt := 69) dX7_copy_63 (by decide) (fun c38 => ?_) (fun c38 => ?_)
              · have t := t.1 c38
                refine g_aload dX7_copy_69 rfl ?_
                refine g_iload_n dX7_copy_71 rfl ?_
                refine g_iload dX7_copy_72 rfl ?_
                refine s_V2i dX7_copy_74 vm_X4_holds ml_X7_214 rfl rfl (by decide) (Nat.le_of_ble_eq_true rfl) rfl (tk_Ms.mono t (fun x39 S40 t => ?_))
                refine g_if_eq (tgt := 92) dX7_copy_77 (by decide) (fun c41 => ?_) (fun c41 => ?_)
                · have t := t.1 c41
                  refine g_bipush (v := (-13)) dX7_copy_92 (by decide) ?_
                  exact g_iret (st := []) dX7_copy_94 (fun e => by cases e) ⟨_, rfl, t⟩
                · have t := t.2 c41
                  refine g_aload dX7_copy_80 rfl ?_
                  refine g_iload dX7_copy_82 rfl ?_
                  refine g_iload dX7_copy_84 rfl ?_
                  refine s_V2i dX7_copy_86 vm_X4_holds ml_X7_214 rfl rfl (by decide) (Nat.le_of_ble_eq_true rfl) rfl (tk_Ms.mono t (fun x42 S43 t => ?_))
                  refine g_if_ne (tgt := 95) dX7_copy_89 (by decide) (fun c44 => ?_) (fun c44 => ?_)
                  · have t := t.1 c44
                    refine g_aload dX7_copy_95 rfl ?_
                    refine g_getR (n := 3) dX7_copy_97 fl_X7_248 rfl (by decide) (by decide) rfl rfl ?_
                    refine g_iload_n dX7_copy_100 rfl ?_
                    refine g_aload dX7_copy_101 rfl ?_
                    refine g_getR (n := 3) dX7_copy_103 fl_X7_248 rfl (by decide) (by decide) rfl rfl ?_
                    refine g_iload dX7_copy_106 rfl ?_
                    refine g_iload dX7_copy_108 rfl ?_
                    refine g_acopy (n0 := 24) (n1 := 24) dX7_copy_110 ml_X7_251 (by decide) (Nat.le_of_ble_eq_true rfl) rfl rfl t.1 t.2.1 t.2.2.1 t.2.2.2.1 t.2.2.2.2.1 ?_
                    have t := t.2.2.2.2.2
                    refine g_iload dX7_copy_113 rfl ?_
                    exact g_iret (st := []) dX7_copy_115 (fun e => by cases e) ⟨_, rfl, t⟩
                  · have t := t.2 c44
                    refine g_bipush (v := (-13)) dX7_copy_92 (by decide) ?_
                    exact g_iret (st := []) dX7_copy_94 (fun e => by cases e) ⟨_, rfl, t⟩
              · have t := t.2 c38
                refine g_bipush (v := (-12)) dX7_copy_66 (by decide) ?_
                exact g_iret (st := []) dX7_copy_68 (fun e => by cases e) ⟨_, rfl, t⟩
            · have t := t.2 c37
              refine g_bipush (v := (-11)) dX7_copy_50 (by decide) ?_
              exact g_iret (st := []) dX7_copy_52 (fun e => by cases e) ⟨_, rfl, t⟩
      · have t := t.2.2.1 c7
        refine g_astore (ls' := [.ref 0, .int p1, .int p2, .int p3, .int p4, .int p5, .ref 39, .null]) dX7_copy_22 rfl (by decide) rfl ?_
        refine g_aload_n dX7_copy_24 rfl ?_
        refine g_getR (n := 13) dX7_copy_25 fl_X7_73 rfl (by decide) (by decide) rfl rfl ?_
        refine g_iload_n dX7_copy_28 rfl ?_
        refine g_sheets dX7_copy_29 t.1 (fun c45 => ?_) (fun c45 => ?_) (fun c45 => ?_) (fun c45 => ?_)
        · have t := t.2.1 c45
          refine g_astore (ls' := [.ref 0, .int p1, .int p2, .int p3, .int p4, .int p5, .ref 39, .ref 37]) dX7_copy_30 rfl (by decide) rfl ?_
          refine g_aload dX7_copy_32 rfl ?_
          refine g_getI (n := 3) dX7_copy_34 fl_X7_244 rfl (by decide) (by decide) rfl ?_
          refine g_iconst (v := (-1)) dX7_copy_37 (by decide) ?_
          refine g_icmp_eq (tgt := 50) dX7_copy_38 (by decide) (fun c46 => ?_) (fun c46 => ?_)
          · have t := t.1 c46
            refine g_bipush (v := (-11)) dX7_copy_50 (by decide) ?_
            exact g_iret (st := []) dX7_copy_52 (fun e => by cases e) ⟨_, rfl, t⟩
          · have t := t.2 c46
            refine g_aload dX7_copy_41 rfl ?_
            refine g_getI (n := 3) dX7_copy_43 fl_X7_244 rfl (by decide) (by decide) rfl ?_
            refine g_iconst (v := (-1)) dX7_copy_46 (by decide) ?_
            refine g_icmp_ne (tgt := 53) dX7_copy_47 (by decide) (fun c47 => ?_) (fun c47 => ?_)
            · have t := t.1 c47
              refine g_aload dX7_copy_53 rfl ?_
              refine g_getI (n := 3) dX7_copy_55 fl_X7_245 rfl (by decide) (by decide) rfl ?_
              refine g_aload dX7_copy_58 rfl ?_
              refine g_getI (n := 3) dX7_copy_60 fl_X7_245 rfl (by decide) (by decide) rfl ?_
              refine g_icmp_eq (tgt := 69) dX7_copy_63 (by decide) (fun c48 => ?_) (fun c48 => ?_)
              · have t := t.1 c48
                refine g_aload dX7_copy_69 rfl ?_
                refine g_iload_n dX7_copy_71 rfl ?_
                refine g_iload dX7_copy_72 rfl ?_
                refine s_V2i dX7_copy_74 vm_X4_holds ml_X7_214 rfl rfl (by decide) (Nat.le_of_ble_eq_true rfl) rfl (tk_Ms.mono t (fun x49 S50 t => ?_))
                refine g_if_eq (tgt := 92) dX7_copy_77 (by decide) (fun c51 => ?_) (fun c51 => ?_)
                · have t := t.1 c51
                  refine g_bipush (v := (-13)) dX7_copy_92 (by decide) ?_
                  exact g_iret (st := []) dX7_copy_94 (fun e => by cases e) ⟨_, rfl, t⟩
                · have t := t.2 c51
                  refine g_aload dX7_copy_80 rfl ?_
                  refine g_iload dX7_copy_82 rfl ?_
                  refine g_iload dX7_copy_84 rfl ?_
                  refine s_V2i dX7_copy_86 vm_X4_holds ml_X7_214 rfl rfl (by decide) (Nat.le_of_ble_eq_true rfl) rfl (tk_Ms.mono t (fun x52 S53 t => ?_))
                  refine g_if_ne (tgt := 95) dX7_copy_89 (by decide) (fun c54 => ?_) (fun c54 => ?_)
                  · have t := t.1 c54
                    refine g_aload dX7_copy_95 rfl ?_
                    refine g_getR (n := 3) dX7_copy_97 fl_X7_248 rfl (by decide) (by decide) rfl rfl ?_
                    refine g_iload_n dX7_copy_100 rfl ?_
                    refine g_aload dX7_copy_101 rfl ?_
                    refine g_getR (n := 3) dX7_copy_103 fl_X7_248 rfl (by decide) (by decide) rfl rfl ?_
                    refine g_iload dX7_copy_106 rfl ?_
                    refine g_iload dX7_copy_108 rfl ?_
                    refine g_acopy (n0 := 24) (n1 := 24) dX7_copy_110 ml_X7_251 (by decide) (Nat.le_of_ble_eq_true rfl) rfl rfl t.1 t.2.1 t.2.2.1 t.2.2.2.1 t.2.2.2.2.1 ?_
                    have t := t.2.2.2.2.2
                    refine g_iload dX7_copy_113 rfl ?_
                    exact g_iret (st := []) dX7_copy_115 (fun e => by cases e) ⟨_, rfl, t⟩
                  · have t := t.2 c54
                    refine g_bipush (v := (-13)) dX7_copy_92 (by decide) ?_
                    exact g_iret (st := []) dX7_copy_94 (fun e => by cases e) ⟨_, rfl, t⟩
              · have t := t.2 c48
                refine g_bipush (v := (-12)) dX7_copy_66 (by decide) ?_
                exact g_iret (st := []) dX7_copy_68 (fun e => by cases e) ⟨_, rfl, t⟩
            · have t := t.2 c47
              refine g_bipush (v := (-11)) dX7_copy_50 (by decide) ?_
              exact g_iret (st := []) dX7_copy_52 (fun e => by cases e) ⟨_, rfl, t⟩
        · have t := t.2.2.1 c45
          refine g_astore (ls' := [.ref 0, .int p1, .int p2, .int p3, .int p4, .int p5, .ref 39, .ref 39]) dX7_copy_30 rfl (by decide) rfl ?_
          refine g_aload dX7_copy_32 rfl ?_
          refine g_getI (n := 3) dX7_copy_34 fl_X7_244 rfl (by decide) (by decide) rfl ?_
          refine g_iconst (v := (-1)) dX7_copy_37 (by decide) ?_
          refine g_icmp_eq (tgt := 50) dX7_copy_38 (by decide) (fun c55 => ?_) (fun c55 => ?_)
          · have t := t.1 c55
            refine g_bipush (v := (-11)) dX7_copy_50 (by decide) ?_
            exact g_iret (st := []) dX7_copy_52 (fun e => by cases e) ⟨_, rfl, t⟩
          · have t := t.2 c55
            refine g_aload dX7_copy_41 rfl ?_
            refine g_getI (n := 3) dX7_copy_43 fl_X7_244 rfl (by decide) (by decide) rfl ?_
            refine g_iconst (v := (-1)) dX7_copy_46 (by decide) ?_
            refine g_icmp_ne (tgt := 53) dX7_copy_47 (by decide) (fun c56 => ?_) (fun c56 => ?_)
            · have t := t.1 c56
              refine g_aload dX7_copy_53 rfl ?_
              refine g_getI (n := 3) dX7_copy_55 fl_X7_245 rfl (by decide) (by decide) rfl ?_
              refine g_aload dX7_copy_58 rfl ?_
              refine g_getI (n := 3) dX7_copy_60 fl_X7_245 rfl (by decide) (by decide) rfl ?_
              refine g_icmp_eq (tgt := 69) dX7_copy_63 (by decide) (fun c57 => ?_) (fun c57 => ?_)
              · have t := t.1 c57
                refine g_aload dX7_copy_69 rfl ?_
                refine g_iload_n dX7_copy_71 rfl ?_
                refine g_iload dX7_copy_72 rfl ?_
                refine s_V2i dX7_copy_74 vm_X4_holds ml_X7_214 rfl rfl (by decide) (Nat.le_of_ble_eq_true rfl) rfl (tk_Ms.mono t (fun x58 S59 t => ?_))
                refine g_if_eq (tgt := 92) dX7_copy_77 (by decide) (fun c60 => ?_) (fun c60 => ?_)
                · have t := t.1 c60
                  refine g_bipush (v := (-13)) dX7_copy_92 (by decide) ?_
                  exact g_iret (st := []) dX7_copy_94 (fun e => by cases e) ⟨_, rfl, t⟩
                · have t := t.2 c60
                  refine g_aload dX7_copy_80 rfl ?_
                  refine g_iload dX7_copy_82 rfl ?_
                  refine g_iload dX7_copy_84 rfl ?_
                  refine s_V2i dX7_copy_86 vm_X4_holds ml_X7_214 rfl rfl (by decide) (Nat.le_of_ble_eq_true rfl) rfl (tk_Ms.mono t (fun x61 S62 t => ?_))
                  refine g_if_ne (tgt := 95) dX7_copy_89 (by decide) (fun c63 => ?_) (fun c63 => ?_)
                  · have t := t.1 c63
                    refine g_aload dX7_copy_95 rfl ?_
                    refine g_getR (n := 3) dX7_copy_97 fl_X7_248 rfl (by decide) (by decide) rfl rfl ?_
                    refine g_iload_n dX7_copy_100 rfl ?_
                    refine g_aload dX7_copy_101 rfl ?_
                    refine g_getR (n := 3) dX7_copy_103 fl_X7_248 rfl (by decide) (by decide) rfl rfl ?_
                    refine g_iload dX7_copy_106 rfl ?_
                    refine g_iload dX7_copy_108 rfl ?_
                    refine g_acopy (n0 := 24) (n1 := 24) dX7_copy_110 ml_X7_251 (by decide) (Nat.le_of_ble_eq_true rfl) rfl rfl t.1 t.2.1 t.2.2.1 t.2.2.2.1 t.2.2.2.2.1 ?_
                    have t := t.2.2.2.2.2
                    refine g_iload dX7_copy_113 rfl ?_
                    exact g_iret (st := []) dX7_copy_115 (fun e => by cases e) ⟨_, rfl, t⟩
                  · have t := t.2 c63
                    refine g_bipush (v := (-13)) dX7_copy_92 (by decide) ?_
                    exact g_iret (st := []) dX7_copy_94 (fun e => by cases e) ⟨_, rfl, t⟩
              · have t := t.2 c57
                refine g_bipush (v := (-12)) dX7_copy_66 (by decide) ?_
                exact g_iret (st := []) dX7_copy_68 (fun e => by cases e) ⟨_, rfl, t⟩
            · have t := t.2 c56
              refine g_bipush (v := (-11)) dX7_copy_50 (by decide) ?_
              exact g_iret (st := []) dX7_copy_52 (fun e => by cases e) ⟨_, rfl, t⟩
        · have t := t.2.2.2.1 c45
          refine g_astore (ls' := [.ref 0, .int p1, .int p2, .int p3, .int p4, .int p5, .ref 39, .ref 41]) dX7_copy_30 rfl (by decide) rfl ?_
          refine g_aload dX7_copy_32 rfl ?_
          refine g_getI (n := 3) dX7_copy_34 fl_X7_244 rfl (by decide) (by decide) rfl ?_
          refine g_iconst (v := (-1)) dX7_copy_37 (by decide) ?_
          refine g_icmp_eq (tgt := 50) dX7_copy_38 (by decide) (fun c64 => ?_) (fun c64 => ?_)
          · have t := t.1 c64
            refine g_bipush (v := (-11)) dX7_copy_50 (by decide) ?_
            exact g_iret (st := []) dX7_copy_52 (fun e => by cases e) ⟨_, rfl, t⟩
          · have t := t.2 c64
            refine g_aload dX7_copy_41 rfl ?_
            refine g_getI (n := 3) dX7_copy_43 fl_X7_244 rfl (by decide) (by decide) rfl ?_
            refine g_iconst (v := (-1)) dX7_copy_46 (by decide) ?_
            refine g_icmp_ne (tgt := 53) dX7_copy_47 (by decide) (fun c65 => ?_) (fun c65 => ?_)
            · have t := t.1 c65
              refine g_aload dX7_copy_53 rfl ?_
              refine g_getI (n := 3) dX7_copy_55 fl_X7_245 rfl (by decide) (by decide) rfl ?_
              refine g_aload dX7_copy_58 rfl ?_
              refine g_getI (n := 3) dX7_copy_60 fl_X7_245 rfl (by decide) (by decide) rfl ?_
              refine g_icmp_eq (tgt := 69) dX7_copy_63 (by decide) (fun c66 => ?_) (fun c66 => ?_)
              · have t := t.1 c66
                refine g_aload dX7_copy_69 rfl ?_
                refine g_iload_n dX7_copy_71 rfl ?_
                refine g_iload dX7_copy_72 rfl ?_
                refine s_V2i dX7_copy_74 vm_X4_holds ml_X7_214 rfl rfl (by decide) (Nat.le_of_ble_eq_true rfl) rfl (tk_Ms.mono t (fun x67 S68 t => ?_))
                refine g_if_eq (tgt := 92) dX7_copy_77 (by decide) (fun c69 => ?_) (fun c69 => ?_)
                · have t := t.1 c69
                  refine g_bipush (v := (-13)) dX7_copy_92 (by decide) ?_
                  exact g_iret (st := []) dX7_copy_94 (fun e => by cases e) ⟨_, rfl, t⟩
                · have t := t.2 c69
                  refine g_aload dX7_copy_80 rfl ?_
                  refine g_iload dX7_copy_82 rfl ?_
                  refine g_iload dX7_copy_84 rfl ?_
                  refine s_V2i dX7_copy_86 vm_X4_holds ml_X7_214 rfl rfl (by decide) (Nat.le_of_ble_eq_true rfl) rfl (tk_Ms.mono t (fun x70 S71 t => ?_))
                  refine g_if_ne (tgt := 95) dX7_copy_89 (by decide) (fun c72 => ?_) (fun c72 => ?_)
                  · have t := t.1 c72
                    refine g_aload dX7_copy_95 rfl ?_
                    refine g_getR (n := 3) dX7_copy_97 fl_X7_248 rfl (by decide) (by decide) rfl rfl ?_
                    refine g_iload_n dX7_copy_100 rfl ?_
                    refine g_aload dX7_copy_101 rfl ?_
                    refine g_getR (n := 3) dX7_copy_103 fl_X7_248 rfl (by decide) (by decide) rfl rfl ?_
                    refine g_iload dX7_copy_106 rfl ?_
                    refine g_iload dX7_copy_108 rfl ?_
                    refine g_acopy (n0 := 24) (n1 := 24) dX7_copy_110 ml_X7_251 (by decide) (Nat.le_of_ble_eq_true rfl) rfl rfl t.1 t.2.1 t.2.2.1 t.2.2.2.1 t.2.2.2.2.1 ?_
                    have t := t.2.2.2.2.2
                    refine g_iload dX7_copy_113 rfl ?_
                    exact g_iret (st := []) dX7_copy_115 (fun e => by cases e) ⟨_, rfl, t⟩
                  · have t := t.2 c72
                    refine g_bipush (v := (-13)) dX7_copy_92 (by decide) ?_
                    exact g_iret (st := []) dX7_copy_94 (fun e => by cases e) ⟨_, rfl, t⟩
              · have t := t.2 c66
                refine g_bipush (v := (-12)) dX7_copy_66 (by decide) ?_
                exact g_iret (st := []) dX7_copy_68 (fun e => by cases e) ⟨_, rfl, t⟩
            · have t := t.2 c65
              refine g_bipush (v := (-11)) dX7_copy_50 (by decide) ?_
              exact g_iret (st := []) dX7_copy_52 (fun e => by cases e) ⟨_, rfl, t⟩
        · have t := t.2.2.2.2 c45
          refine g_astore (ls' := [.ref 0, .int p1, .int p2, .int p3, .int p4, .int p5, .ref 39, .ref 43]) dX7_copy_30 rfl (by decide) rfl ?_
          refine g_aload dX7_copy_32 rfl ?_
          refine g_getI (n := 3) dX7_copy_34 fl_X7_244 rfl (by decide) (by decide) rfl ?_
          refine g_iconst (v := (-1)) dX7_copy_37 (by decide) ?_
          refine g_icmp_eq (tgt := 50) dX7_copy_38 (by decide) (fun c73 => ?_) (fun c73 => ?_)
          · have t := t.1 c73
            refine g_bipush (v := (-11)) dX7_copy_50 (by decide) ?_
            exact g_iret (st := []) dX7_copy_52 (fun e => by cases e) ⟨_, rfl, t⟩
          · have t := t.2 c73
            refine g_aload dX7_copy_41 rfl ?_
            refine g_getI (n := 3) dX7_copy_43 fl_X7_244 rfl (by decide) (by decide) rfl ?_
            refine g_iconst (v := (-1)) dX7_copy_46 (by decide) ?_
            refine g_icmp_ne (tgt := 53) dX7_copy_47 (by decide) (fun c74 => ?_) (fun c74 => ?_)
            · have t := t.1 c74
              refine g_aload dX7_copy_53 rfl ?_
              refine g_getI (n := 3) dX7_copy_55 fl_X7_245 rfl (by decide) (by decide) rfl ?_
              refine g_aload dX7_copy_58 rfl ?_
              refine g_getI (n := 3) dX7_copy_60 fl_X7_245 rfl (by decide) (by decide) rfl ?_
              refine g_icmp_eq (tgt := 69) dX7_copy_63 (by decide) (fun c75 => ?_) (fun c75 => ?_)
              · have t := t.1 c75
                refine g_aload dX7_copy_69 rfl ?_
                refine g_iload_n dX7_copy_71 rfl ?_
                refine g_iload dX7_copy_72 rfl ?_
                refine s_V2i dX7_copy_74 vm_X4_holds ml_X7_214 rfl rfl (by decide) (Nat.le_of_ble_eq_true rfl) rfl (tk_Ms.mono t (fun x76 S77 t => ?_))
                refine g_if_eq (tgt := 92) dX7_copy_77 (by decide) (fun c78 => ?_) (fun c78 => ?_)
                · have t := t.1 c78
                  refine g_bipush (v := (-13)) dX7_copy_92 (by decide) ?_
                  exact g_iret (st := []) dX7_copy_94 (fun e => by cases e) ⟨_, rfl, t⟩
                · have t := t.2 c78
                  refine g_aload dX7_copy_80 rfl ?_
                  refine g_iload dX7_copy_82 rfl ?_
                  refine g_iload dX7_copy_84 rfl ?_
                  refine s_V2i dX7_copy_86 vm_X4_holds ml_X7_214 rfl rfl (by decide) (Nat.le_of_ble_eq_true rfl) rfl (tk_Ms.mono t (fun x79 S80 t => ?_))
                  refine g_if_ne (tgt := 95) dX7_copy_89 (by decide) (fun c81 => ?_) (fun c81 => ?_)
                  · have t := t.1 c81
                    refine g_aload dX7_copy_95 rfl ?_
                    refine g_getR (n := 3) dX7_copy_97 fl_X7_248 rfl (by decide) (by decide) rfl rfl ?_
                    refine g_iload_n dX7_copy_100 rfl ?_
                    refine g_aload dX7_copy_101 rfl ?_
                    refine g_getR (n := 3) dX7_copy_103 fl_X7_248 rfl (by decide) (by decide) rfl rfl ?_
                    refine g_iload dX7_copy_106 rfl ?_
                    refine g_iload dX7_copy_108 rfl ?_
                    refine g_acopy (n0 := 24) (n1 := 24) dX7_copy_110 ml_X7_251 (by decide) (Nat.le_of_ble_eq_true rfl) rfl rfl t.1 t.2.1 t.2.2.1 t.2.2.2.1 t.2.2.2.2.1 ?_
                    have t := t.2.2.2.2.2
                    refine g_iload dX7_copy_113 rfl ?_
                    exact g_iret (st := []) dX7_copy_115 (fun e => by cases e) ⟨_, rfl, t⟩
                  · have t := t.2 c81
                    refine g_bipush (v := (-13)) dX7_copy_92 (by decide) ?_
                    exact g_iret (st := []) dX7_copy_94 (fun e => by cases e) ⟨_, rfl, t⟩
              · have t := t.2 c75
                refine g_bipush (v := (-12)) dX7_copy_66 (by decide) ?_
                exact g_iret (st := []) dX7_copy_68 (fun e => by cases e) ⟨_, rfl, t⟩
            · have t := t.2 c74
              refine g_bipush (v := (-11)) dX7_copy_50 (by decide) ?_
              exact g_iret (st := []) dX7_copy_52 (fun e => by cases e) ⟨_, rfl, t⟩
      · have t := t.2.2.2.1 c7
        refine g_astore (ls' := [.ref 0, .int p1, .int p2, .int p3, .int p4, .int p5, .ref 41, .null]) dX7_copy_22 rfl (by decide) rfl ?_
        refine g_aload_n dX7_copy_24 rfl ?_
        refine g_getR (n := 13) dX7_copy_25 fl_X7_73 rfl (by decide) (by decide) rfl rfl ?_
        refine g_iload_n dX7_copy_28 rfl ?_
        refine g_sheets dX7_copy_29 t.1 (fun c82 => ?_) (fun c82 => ?_) (fun c82 => ?_) (fun c82 => ?_)
        · have t := t.2.1 c82
          refine g_astore (ls' := [.ref 0, .int p1, .int p2, .int p3, .int p4, .int p5, .ref 41, .ref 37]) dX7_copy_30 rfl (by decide) rfl ?_
          refine g_aload dX7_copy_32 rfl ?_
          refine g_getI (n := 3) dX7_copy_34 fl_X7_244 rfl (by decide) (by decide) rfl ?_
          refine g_iconst (v := (-1)) dX7_copy_37 (by decide) ?_
          refine g_icmp_eq (tgt := 50) dX7_copy_38 (by decide) (fun c83 => ?_) (fun c83 => ?_)
          · have t := t.1 c83
            refine g_bipush (v := (-11)) dX7_copy_50 (by decide) ?_
            exact g_iret (st := []) dX7_copy_52 (fun e => by cases e) ⟨_, rfl, t⟩
          · have t := t.2 c83
            refine g_aload dX7_copy_41 rfl ?_
            refine g_getI (n := 3) dX7_copy_43 fl_X7_244 rfl (by decide) (by decide) rfl ?_
            refine g_iconst (v := (-1)) dX7_copy_46 (by decide) ?_
            refine g_icmp_ne (tgt := 53) dX7_copy_47 (by decide) (fun c84 => ?_) (fun c84 => ?_)
            · have t := t.1 c84
              refine g_aload dX7_copy_53 rfl ?_
              refine g_getI (n := 3) dX7_copy_55 fl_X7_245 rfl (by decide) (by decide) rfl ?_
              refine g_aload dX7_copy_58 rfl ?_
              refine g_getI (n := 3) dX7_copy_60 fl_X7_245 rfl (by decide) (by decide) rfl ?_
              refine g_icmp_eq (tgt := 69) dX7_copy_63 (by decide) (fun c85 => ?_) (fun c85 => ?_)
              · have t := t.1 c85
                refine g_aload dX7_copy_69 rfl ?_
                refine g_iload_n dX7_copy_71 rfl ?_
                refine g_iload dX7_copy_72 rfl ?_
                refine s_V2i dX7_copy_74 vm_X4_holds ml_X7_214 rfl rfl (by decide) (Nat.le_of_ble_eq_true rfl) rfl (tk_Ms.mono t (fun x86 S87 t => ?_))
                refine g_if_eq (tgt := 92) dX7_copy_77 (by decide) (fun c88 => ?_) (fun c88 => ?_)
                · have t := t.1 c88
                  refine g_bipush (v := (-13)) dX7_copy_92 (by decide) ?_
                  exact g_iret (st := []) dX7_copy_94 (fun e => by cases e) ⟨_, rfl, t⟩
                · have t := t.2 c88
                  refine g_aload dX7_copy_80 rfl ?_
                  refine g_iload dX7_copy_82 rfl ?_
                  refine g_iload dX7_copy_84 rfl ?_
                  refine s_V2i dX7_copy_86 vm_X4_holds ml_X7_214 rfl rfl (by decide) (Nat.le_of_ble_eq_true rfl) rfl (tk_Ms.mono t (fun x89 S90 t => ?_))
                  refine g_if_ne (tgt := 95) dX7_copy_89 (by decide) (fun c91 => ?_) (fun c91 => ?_)
                  · have t := t.1 c91
                    refine g_aload dX7_copy_95 rfl ?_
                    refine g_getR (n := 3) dX7_copy_97 fl_X7_248 rfl (by decide) (by decide) rfl rfl ?_
                    refine g_iload_n dX7_copy_100 rfl ?_
                    refine g_aload dX7_copy_101 rfl ?_
                    refine g_getR (n := 3) dX7_copy_103 fl_X7_248 rfl (by decide) (by decide) rfl rfl ?_
                    refine g_iload dX7_copy_106 rfl ?_
                    refine g_iload dX7_copy_108 rfl ?_
                    refine g_acopy (n0 := 24) (n1 := 24) dX7_copy_110 ml_X7_251 (by decide) (Nat.le_of_ble_eq_true rfl) rfl rfl t.1 t.2.1 t.2.2.1 t.2.2.2.1 t.2.2.2.2.1 ?_
                    have t := t.2.2.2.2.2
                    refine g_iload dX7_copy_113 rfl ?_
                    exact g_iret (st := []) dX7_copy_115 (fun e => by cases e) ⟨_, rfl, t⟩
                  · have t := t.2 c91
                    refine g_bipush (v := (-13)) dX7_copy_92 (by decide) ?_
                    exact g_iret (st := []) dX7_copy_94 (fun e => by cases e) ⟨_, rfl, t⟩
              · have t := t.2 c85
                refine g_bipush (v := (-12)) dX7_copy_66 (by decide) ?_
                exact g_iret (st := []) dX7_copy_68 (fun e => by cases e) ⟨_, rfl, t⟩
            · have t := t.2 c84
              refine g_bipush (v := (-11)) dX7_copy_50 (by decide) ?_
              exact g_iret (st := []) dX7_copy_52 (fun e => by cases e) ⟨_, rfl, t⟩
        · have t := t.2.2.1 c82
          refine g_astore (ls' := [.ref 0, .int p1, .int p2, .int p3, .int p4, .int p5, .ref 41, .ref 39]) dX7_copy_30 rfl (by decide) rfl ?_
          refine g_aload dX7_copy_32 rfl ?_
          refine g_getI (n := 3) dX7_copy_34 fl_X7_244 rfl (by decide) (by decide) rfl ?_
          refine g_iconst (v := (-1)) dX7_copy_37 (by decide) ?_
          refine g_icmp_eq (tgt := 50) dX7_copy_38 (by decide) (fun c92 => ?_) (fun c92 => ?_)
          · have t := t.1 c92
            refine g_bipush (v := (-11)) dX7_copy_50 (by decide) ?_
            exact g_iret (st := []) dX7_copy_52 (fun e => by cases e) ⟨_, rfl, t⟩
          · have t := t.2 c92
            refine g_aload dX7_copy_41 rfl ?_
            refine g_getI (n := 3) dX7_copy_43 fl_X7_244 rfl (by decide) (by decide) rfl ?_
            refine g_iconst (v := (-1)) dX7_copy_46 (by decide) ?_
            refine g_icmp_ne (tgt := 53) dX7_copy_47 (by decide) (fun c93 => ?_) (fun c93 => ?_)
            · have t := t.1 c93
              refine g_aload dX7_copy_53 rfl ?_
              refine g_getI (n := 3) dX7_copy_55 fl_X7_245 rfl (by decide) (by decide) rfl ?_
              refine g_aload dX7_copy_58 rfl ?_
              refine g_getI (n := 3) dX7_copy_60 fl_X7_245 rfl (by decide) (by decide) rfl ?_
              refine g_icmp_eq (tgt := 69) dX7_copy_63 (by decide) (fun c94 => ?_) (fun c94 => ?_)
              · have t := t.1 c94
                refine g_aload dX7_copy_69 rfl ?_
                refine g_iload_n dX7_copy_71 rfl ?_
                refine g_iload dX7_copy_72 rfl ?_
                refine s_V2i dX7_copy_74 vm_X4_holds ml_X7_214 rfl rfl (by decide) (Nat.le_of_ble_eq_true rfl) rfl (tk_Ms.mono t (fun x95 S96 t => ?_))
                refine g_if_eq (tgt := 92) dX7_copy_77 (by decide) (fun c97 => ?_) (fun c97 => ?_)
                · have t := t.1 c97
                  refine g_bipush (v := (-13)) dX7_copy_92 (by decide) ?_
                  exact g_iret (st := []) dX7_copy_94 (fun e => by cases e) ⟨_, rfl, t⟩
                · have t := t.2 c97
                  refine g_aload dX7_copy_80 rfl ?_
                  refine g_iload dX7_copy_82 rfl ?_
                  refine g_iload dX7_copy_84 rfl ?_
                  refine s_V2i dX7_copy_86 vm_X4_holds ml_X7_214 rfl rfl (by decide) (Nat.le_of_ble_eq_true rfl) rfl (tk_Ms.mono t (fun x98 S99 t => ?_))
                  refine g_if_ne (tgt := 95) dX7_copy_89 (by decide) (fun c100 => ?_) (fun c100 => ?_)
                  · have t := t.1 c100
                    refine g_aload dX7_copy_95 rfl ?_
                    refine g_getR (n := 3) dX7_copy_97 fl_X7_248 rfl (by decide) (by decide) rfl rfl ?_
                    refine g_iload_n dX7_copy_100 rfl ?_
                    refine g_aload dX7_copy_101 rfl ?_
                    refine g_getR (n := 3) dX7_copy_103 fl_X7_248 rfl (by decide) (by decide) rfl rfl ?_
                    refine g_iload dX7_copy_106 rfl ?_
                    refine g_iload dX7_copy_108 rfl ?_
                    refine g_acopy (n0 := 24) (n1 := 24) dX7_copy_110 ml_X7_251 (by decide) (Nat.le_of_ble_eq_true rfl) rfl rfl t.1 t.2.1 t.2.2.1 t.2.2.2.1 t.2.2.2.2.1 ?_
                    have t := t.2.2.2.2.2
                    refine g_iload dX7_copy_113 rfl ?_
                    exact g_iret (st := []) dX7_copy_115 (fun e => by cases e) ⟨_, rfl, t⟩
                  · have t := t.2 c100
                    refine g_bipush (v := (-13)) dX7_copy_92 (by decide) ?_
                    exact g_iret (st := []) dX7_copy_94 (fun e => by cases e) ⟨_, rfl, t⟩
              · have t := t.2 c94
                refine g_bipush (v := (-12)) dX7_copy_66 (by decide) ?_
                exact g_iret (st := []) dX7_copy_68 (fun e => by cases e) ⟨_, rfl, t⟩
            · have t := t.2 c93
              refine g_bipush (v := (-11)) dX7_copy_50 (by decide) ?_
              exact g_iret (st := []) dX7_copy_52 (fun e => by cases e) ⟨_, rfl, t⟩
        · have t := t.2.2.2.1 c82
          refine g_astore (ls' := [.ref 0, .int p1, .int p2, .int p3, .int p4, .int p5, .ref 41, .ref 41]) dX7_copy_30 rfl (by decide) rfl ?_
          refine g_aload dX7_copy_32 rfl ?_
          refine g_getI (n := 3) dX7_copy_34 fl_X7_244 rfl (by decide) (by decide) rfl ?_
          refine g_iconst (v := (-1)) dX7_copy_37 (by decide) ?_
          refine g_icmp_eq (tgt := 50) dX7_copy_38 (by decide) (fun c101 => ?_) (fun c101 => ?_)
          · have t := t.1 c101
            refine g_bipush (v := (-11)) dX7_copy_50 (by decide) ?_
            exact g_iret (st := []) dX7_copy_52 (fun e => by cases e) ⟨_, rfl, t⟩
          · have t := t.2 c101
            refine g_aload dX7_copy_41 rfl ?_
            refine g_getI (n := 3) dX7_copy_43 fl_X7_244 rfl (by decide) (by decide) rfl ?_
            refine g_iconst (v := (-1)) dX7_copy_46 (by decide) ?_
            refine g_icmp_ne (tgt := 53) dX7_copy_47 (by decide) (fun c102 => ?_) (fun c102 => ?_)
            · have t := t.1 c102
              refine g_aload dX7_copy_53 rfl ?_
              refine g_getI (n := 3) dX7_copy_55 fl_X7_245 rfl (by decide) (by decide) rfl ?_
              refine g_aload dX7_copy_58 rfl ?_
              refine g_getI (n := 3) dX7_copy_60 fl_X7_245 rfl (by decide) (by decide) rfl ?_
              refine g_icmp_eq (tgt := 69) dX7_copy_63 (by decide) (fun c103 => ?_) (fun c103 => ?_)
              · have t := t.1 c103
                refine g_aload dX7_copy_69 rfl ?_
                refine g_iload_n dX7_copy_71 rfl ?_
                refine g_iload dX7_copy_72 rfl ?_
                refine s_V2i dX7_copy_74 vm_X4_holds ml_X7_214 rfl rfl (by decide) (Nat.le_of_ble_eq_true rfl) rfl (tk_Ms.mono t (fun x104 S105 t => ?_))
                refine g_if_eq (tgt := 92) dX7_copy_77 (by decide) (fun c106 => ?_) (fun c106 => ?_)
                · have t := t.1 c106
                  refine g_bipush (v := (-13)) dX7_copy_92 (by decide) ?_
                  exact g_iret (st := []) dX7_copy_94 (fun e => by cases e) ⟨_, rfl, t⟩
                · have t := t.2 c106
                  refine g_aload dX7_copy_80 rfl ?_
                  refine g_iload dX7_copy_82 rfl ?_
                  refine g_iload dX7_copy_84 rfl ?_
                  refine s_V2i dX7_copy_86 vm_X4_holds ml_X7_214 rfl rfl (by decide) (Nat.le_of_ble_eq_true rfl) rfl (tk_Ms.mono t (fun x107 S108 t => ?_))
                  refine g_if_ne (tgt := 95) dX7_copy_89 (by decide) (fun c109 => ?_) (fun c109 => ?_)
                  · have t := t.1 c109
                    refine g_aload dX7_copy_95 rfl ?_
                    refine g_getR (n := 3) dX7_copy_97 fl_X7_248 rfl (by decide) (by decide) rfl rfl ?_
                    refine g_iload_n dX7_copy_100 rfl ?_
                    refine g_aload dX7_copy_101 rfl ?_
                    refine g_getR (n := 3) dX7_copy_103 fl_X7_248 rfl (by decide) (by decide) rfl rfl ?_
                    refine g_iload dX7_copy_106 rfl ?_
                    refine g_iload dX7_copy_108 rfl ?_
                    refine g_acopy (n0 := 24) (n1 := 24) dX7_copy_110 ml_X7_251 (by decide) (Nat.le_of_ble_eq_true rfl) rfl rfl t.1 t.2.1 t.2.2.1 t.2.2.2.1 t.2.2.2.2.1 ?_
                    have t := t.2.2.2.2.2
                    refine g_iload dX7_copy_113 rfl ?_
                    exact g_iret (st := []) dX7_copy_115 (fun e => by cases e) ⟨_, rfl, t⟩
                  · have t := t.2 c109
                    refine g_bipush (v := (-13)) dX7_copy_92 (by decide) ?_
                    exact g_iret (st := []) dX7_copy_94 (fun e => by cases e) ⟨_, rfl, t⟩
              · have t := t.2 c103
                refine g_bipush (v := (-12)) dX7_copy_66 (by decide) ?_
                exact g_iret (st := []) dX7_copy_68 (fun e => by cases e) ⟨_, rfl, t⟩
            · have t := t.2 c102
              refine g_bipush (v := (-11)) dX7_copy_50 (by decide) ?_
              exact g_iret (st := []) dX7_copy_52 (fun e => by cases e) ⟨_, rfl, t⟩
        · have t := t.2.2.2.2 c82
          refine g_astore (ls' := [.ref 0, .int p1, .int p2, .int p3, .int p4, .int p5, .ref 41, .ref 43]) dX7_copy_30 rfl (by decide) rfl ?_
          refine g_aload dX7_copy_32 rfl ?_
          refine g_getI (n := 3) dX7_copy_34 fl_X7_244 rfl (by decide) (by decide) rfl ?_
          refine g_iconst (v := (-1)) dX7_copy_37 (by decide) ?_
          refine g_icmp_eq (tgt := 50) dX7_copy_38 (by decide) (fun c110 => ?_) (fun c110 => ?_)
          · have t := t.1 c110
            refine g_bipush (v := (-11)) dX7_copy_50 (by decide) ?_
            exact g_iret (st := []) dX7_copy_52 (fun e => by cases e) ⟨_, rfl, t⟩
          · have t := t.2 c110
            refine g_aload dX7_copy_41 rfl ?_
            refine g_getI (n := 3) dX7_copy_43 fl_X7_244 rfl (by decide) (by decide) rfl ?_
            refine g_iconst (v := (-1)) dX7_copy_46 (by decide) ?_
            refine g_icmp_ne (tgt := 53) dX7_copy_47 (by decide) (fun c111 => ?_) (fun c111 => ?_)
            · have t := t.1 c111
              refine g_aload dX7_copy_53 rfl ?_
              refine g_getI (n := 3) dX7_copy_55 fl_X7_245 rfl (by decide) (by decide) rfl ?_
              refine g_aload dX7_copy_58 rfl ?_
              refine g_getI (n := 3) dX7_copy_60 fl_X7_245 rfl (by decide) (by decide) rfl ?_
              refine g_icmp_eq (tgt := 69) dX7_copy_63 (by decide) (fun c112 => ?_) (fun c112 => ?_)
              · have t := t.1 c112
                refine g_aload dX7_copy_69 rfl ?_
                refine g_iload_n dX7_copy_71 rfl ?_
                refine g_iload dX7_copy_72 rfl ?_
                refine s_V2i dX7_copy_74 vm_X4_holds ml_X7_214 rfl rfl (by decide) (Nat.le_of_ble_eq_true rfl) rfl (tk_Ms.mono t (fun x113 S114 t => ?_))
                refine g_if_eq (tgt := 92) dX7_copy_77 (by decide) (fun c115 => ?_) (fun c115 => ?_)
                · have t := t.1 c115
                  refine g_bipush (v := (-13)) dX7_copy_92 (by decide) ?_
                  exact g_iret (st := []) dX7_copy_94 (fun e => by cases e) ⟨_, rfl, t⟩
                · have t := t.2 c115
                  refine g_aload dX7_copy_80 rfl ?_
                  refine g_iload dX7_copy_82 rfl ?_
                  refine g_iload dX7_copy_84 rfl ?_
                  refine s_V2i dX7_copy_86 vm_X4_holds ml_X7_214 rfl rfl (by decide) (Nat.le_of_ble_eq_true rfl) rfl (tk_Ms.mono t (fun x116 S117 t => ?_))
                  refine g_if_ne (tgt := 95) dX7_copy_89 (by decide) (fun c118 => ?_) (fun c118 => ?_)
                  · have t := t.1 c118
                    refine g_aload dX7_copy_95 rfl ?_
                    refine g_getR (n := 3) dX7_copy_97 fl_X7_248 rfl (by decide) (by decide) rfl rfl ?_
                    refine g_iload_n dX7_copy_100 rfl ?_
                    refine g_aload dX7_copy_101 rfl ?_
                    refine g_getR (n := 3) dX7_copy_103 fl_X7_248 rfl (by decide) (by decide) rfl rfl ?_
                    refine g_iload dX7_copy_106 rfl ?_
                    refine g_iload dX7_copy_108 rfl ?_
                    refine g_acopy (n0 := 24) (n1 := 24) dX7_copy_110 ml_X7_251 (by decide) (Nat.le_of_ble_eq_true rfl) rfl rfl t.1 t.2.1 t.2.2.1 t.2.2.2.1 t.2.2.2.2.1 ?_
                    have t := t.2.2.2.2.2
                    refine g_iload dX7_copy_113 rfl ?_
                    exact g_iret (st := []) dX7_copy_115 (fun e => by cases e) ⟨_, rfl, t⟩
                  · have t := t.2 c118
                    refine g_bipush (v := (-13)) dX7_copy_92 (by decide) ?_
                    exact g_iret (st := []) dX7_copy_94 (fun e => by cases e) ⟨_, rfl, t⟩
              · have t := t.2 c112
                refine g_bipush (v := (-12)) dX7_copy_66 (by decide) ?_
                exact g_iret (st := []) dX7_copy_68 (fun e => by cases e) ⟨_, rfl, t⟩
            · have t := t.2 c111
              refine g_bipush (v := (-11)) dX7_copy_50 (by decide) ?_
              exact g_iret (st := []) dX7_copy_52 (fun e => by cases e) ⟨_, rfl, t⟩
      · have t := t.2.2.2.2 c7
        refine g_astore (ls' := [.ref 0, .int p1, .int p2, .int p3, .int p4, .int p5, .ref 43, .null]) dX7_copy_22 rfl (by decide) rfl ?_
        refine g_aload_n dX7_copy_24 rfl ?_
        refine g_getR (n := 13) dX7_copy_25 fl_X7_73 rfl (by decide) (by decide) rfl rfl ?_
        refine g_iload_n dX7_copy_28 rfl ?_
        refine g_sheets dX7_copy_29 t.1 (fun c119 => ?_) (fun c119 => ?_) (fun c119 => ?_) (fun c119 => ?_)
        · have t := t.2.1 c119
          refine g_astore (ls' := [.ref 0, .int p1, .int p2, .int p3, .int p4, .int p5, .ref 43, .ref 37]) dX7_copy_30 rfl (by decide) rfl ?_
          refine g_aload dX7_copy_32 rfl ?_
          refine g_getI (n := 3) dX7_copy_34 fl_X7_244 rfl (by decide) (by decide) rfl ?_
          refine g_iconst (v := (-1)) dX7_copy_37 (by decide) ?_
          refine g_icmp_eq (tgt := 50) dX7_copy_38 (by decide) (fun c120 => ?_) (fun c120 => ?_)
          · have t := t.1 c120
            refine g_bipush (v := (-11)) dX7_copy_50 (by decide) ?_
            exact g_iret (st := []) dX7_copy_52 (fun e => by cases e) ⟨_, rfl, t⟩
          · have t := t.2 c120
            refine g_aload dX7_copy_41 rfl ?_
            refine g_getI (n := 3) dX7_copy_43 fl_X7_244 rfl (by decide) (by decide) rfl ?_
            refine g_iconst (v := (-1)) dX7_copy_46 (by decide) ?_
            refine g_icmp_ne (tgt := 53) dX7_copy_47 (by decide) (fun c121 => ?_) (fun c121 => ?_)
            · have t := t.1 c121
              refine g_aload dX7_copy_53 rfl ?_
              refine g_getI (n := 3) dX7_copy_55 fl_X7_245 rfl (by decide) (by decide) rfl ?_
              refine g_aload dX7_copy_58 rfl ?_
              refine g_getI (n := 3) dX7_copy_60 fl_X7_245 rfl (by decide) (by decide) rfl ?_
              refine g_icmp_eq (tgt := 69) dX7_copy_63 (by decide) (fun c122 => ?_) (fun c122 => ?_)
              · have t := t.1 c122
                refine g_aload dX7_copy_69 rfl ?_
                refine g_iload_n dX7_copy_71 rfl ?_
                refine g_iload dX7_copy_72 rfl ?_
                refine s_V2i dX7_copy_74 vm_X4_holds ml_X7_214 rfl rfl (by decide) (Nat.le_of_ble_eq_true rfl) rfl (tk_Ms.mono t (fun x123 S124 t => ?_))
                refine g_if_eq (tgt := 92) dX7_copy_77 (by decide) (fun c125 => ?_) (fun c125 => ?_)
                · have t := t.1 c125
                  refine g_bipush (v := (-13)) dX7_copy_92 (by decide) ?_
                  exact g_iret (st := []) dX7_copy_94 (fun e => by cases e) ⟨_, rfl, t⟩
                · have t := t.2 c125
                  refine g_aload dX7_copy_80 rfl ?_
                  refine g_iload dX7_copy_82 rfl ?_
                  refine g_iload dX7_copy_84 rfl ?_
                  refine s_V2i dX7_copy_86 vm_X4_holds ml_X7_214 rfl rfl (by decide) (Nat.le_of_ble_eq_true rfl) rfl (tk_Ms.mono t (fun x126 S127 t => ?_))
                  refine g_if_ne (tgt := 95) dX7_copy_89 (by decide) (fun c128 => ?_) (fun c128 => ?_)
                  · have t := t.1 c128
                    refine g_aload dX7_copy_95 rfl ?_
                    refine g_getR (n := 3) dX7_copy_97 fl_X7_248 rfl (by decide) (by decide) rfl rfl ?_
                    refine g_iload_n dX7_copy_100 rfl ?_
                    refine g_aload dX7_copy_101 rfl ?_
                    refine g_getR (n := 3) dX7_copy_103 fl_X7_248 rfl (by decide) (by decide) rfl rfl ?_
                    refine g_iload dX7_copy_106 rfl ?_
                    refine g_iload dX7_copy_108 rfl ?_
                    refine g_acopy (n0 := 24) (n1 := 24) dX7_copy_110 ml_X7_251 (by decide) (Nat.le_of_ble_eq_true rfl) rfl rfl t.1 t.2.1 t.2.2.1 t.2.2.2.1 t.2.2.2.2.1 ?_
                    have t := t.2.2.2.2.2
                    refine g_iload dX7_copy_113 rfl ?_
                    exact g_iret (st := []) dX7_copy_115 (fun e => by cases e) ⟨_, rfl, t⟩
                  · have t := t.2 c128
                    refine g_bipush (v := (-13)) dX7_copy_92 (by decide) ?_
                    exact g_iret (st := []) dX7_copy_94 (fun e => by cases e) ⟨_, rfl, t⟩
              · have t := t.2 c122
                refine g_bipush (v := (-12)) dX7_copy_66 (by decide) ?_
                exact g_iret (st := []) dX7_copy_68 (fun e => by cases e) ⟨_, rfl, t⟩
            · have t := t.2 c121
              refine g_bipush (v := (-11)) dX7_copy_50 (by decide) ?_
              exact g_iret (st := []) dX7_copy_52 (fun e => by cases e) ⟨_, rfl, t⟩
        · have t := t.2.2.1 c119
          refine g_astore (ls' := [.ref 0, .int p1, .int p2, .int p3, .int p4, .int p5, .ref 43, .ref 39]) dX7_copy_30 rfl (by decide) rfl ?_
          refine g_aload dX7_copy_32 rfl ?_
          refine g_getI (n := 3) dX7_copy_34 fl_X7_244 rfl (by decide) (by decide) rfl ?_
          refine g_iconst (v := (-1)) dX7_copy_37 (by decide) ?_
          refine g_icmp_eq (tgt := 50) dX7_copy_38 (by decide) (fun c129 => ?_) (fun c129 => ?_)
          · have t := t.1 c129
            refine g_bipush (v := (-11)) dX7_copy_50 (by decide) ?_
            exact g_iret (st := []) dX7_copy_52 (fun e => by cases e) ⟨_, rfl, t⟩
          · have t := t.2 c129
            refine g_aload dX7_copy_41 rfl ?_
            refine g_getI (n := 3) dX7_copy_43 fl_X7_244 rfl (by decide) (by decide) rfl ?_
            refine g_iconst (v := (-1)) dX7_copy_46 (by decide) ?_
            refine g_icmp_ne (tgt := 53) dX7_copy_47 (by decide) (fun c130 => ?_) (fun c130 => ?_)
            · have t := t.1 c130
              refine g_aload dX7_copy_53 rfl ?_
              refine g_getI (n := 3) dX7_copy_55 fl_X7_245 rfl (by decide) (by decide) rfl ?_
              refine g_aload dX7_copy_58 rfl ?_
              refine g_getI (n := 3) dX7_copy_60 fl_X7_245 rfl (by decide) (by decide) rfl ?_
              refine g_icmp_eq (tgt := 69) dX7_copy_63 (by decide) (fun c131 => ?_) (fun c131 => ?_)
              · have t := t.1 c131
                refine g_aload dX7_copy_69 rfl ?_
                refine g_iload_n dX7_copy_71 rfl ?_
                refine g_iload dX7_copy_72 rfl ?_
                refine s_V2i dX7_copy_74 vm_X4_holds ml_X7_214 rfl rfl (by decide) (Nat.le_of_ble_eq_true rfl) rfl (tk_Ms.mono t (fun x132 S133 t => ?_))
                refine g_if_eq (tgt := 92) dX7_copy_77 (by decide) (fun c134 => ?_) (fun c134 => ?_)
                · have t := t.1 c134
                  refine g_bipush (v := (-13)) dX7_copy_92 (by decide) ?_
                  exact g_iret (st := []) dX7_copy_94 (fun e => by cases e) ⟨_, rfl, t⟩
                · have t := t.2 c134
                  refine g_aload dX7_copy_80 rfl ?_
                  refine g_iload dX7_copy_82 rfl ?_
                  refine g_iload dX7_copy_84 rfl ?_
                  refine s_V2i dX7_copy_86 vm_X4_holds ml_X7_214 rfl rfl (by decide) (Nat.le_of_ble_eq_true rfl) rfl (tk_Ms.mono t (fun x135 S136 t => ?_))
                  refine g_if_ne (tgt := 95) dX7_copy_89 (by decide) (fun c137 => ?_) (fun c137 => ?_)
                  · have t := t.1 c137
                    refine g_aload dX7_copy_95 rfl ?_
                    refine g_getR (n := 3) dX7_copy_97 fl_X7_248 rfl (by decide) (by decide) rfl rfl ?_
                    refine g_iload_n dX7_copy_100 rfl ?_
                    refine g_aload dX7_copy_101 rfl ?_
                    refine g_getR (n := 3) dX7_copy_103 fl_X7_248 rfl (by decide) (by decide) rfl rfl ?_
                    refine g_iload dX7_copy_106 rfl ?_
                    refine g_iload dX7_copy_108 rfl ?_
                    refine g_acopy (n0 := 24) (n1 := 24) dX7_copy_110 ml_X7_251 (by decide) (Nat.le_of_ble_eq_true rfl) rfl rfl t.1 t.2.1 t.2.2.1 t.2.2.2.1 t.2.2.2.2.1 ?_
                    have t := t.2.2.2.2.2
                    refine g_iload dX7_copy_113 rfl ?_
                    exact g_iret (st := []) dX7_copy_115 (fun e => by cases e) ⟨_, rfl, t⟩
                  · have t := t.2 c137
                    refine g_bipush (v := (-13)) dX7_copy_92 (by decide) ?_
                    exact g_iret (st := []) dX7_copy_94 (fun e => by cases e) ⟨_, rfl, t⟩
              · have t := t.2 c131
                refine g_bipush (v := (-12)) dX7_copy_66 (by decide) ?_
                exact g_iret (st := []) dX7_copy_68 (fun e => by cases e) ⟨_, rfl, t⟩
            · have t := t.2 c130
              refine g_bipush (v := (-11)) dX7_copy_50 (by decide) ?_
              exact g_iret (st := []) dX7_copy_52 (fun e => by cases e) ⟨_, rfl, t⟩
        · have t := t.2.2.2.1 c119
          refine g_astore (ls' := [.ref 0, .int p1, .int p2, .int p3, .int p4, .int p5, .ref 43, .ref 41]) dX7_copy_30 rfl (by decide) rfl ?_
          refine g_aload dX7_copy_32 rfl ?_
          refine g_getI (n := 3) dX7_copy_34 fl_X7_244 rfl (by decide) (by decide) rfl ?_
          refine g_iconst (v := (-1)) dX7_copy_37 (by decide) ?_
          refine g_icmp_eq (tgt := 50) dX7_copy_38 (by decide) (fun c138 => ?_) (fun c138 => ?_)
          · have t := t.1 c138
            refine g_bipush (v := (-11)) dX7_copy_50 (by decide) ?_
            exact g_iret (st := []) dX7_copy_52 (fun e => by cases e) ⟨_, rfl, t⟩
          · have t := t.2 c138
            refine g_aload dX7_copy_41 rfl ?_
            refine g_getI (n := 3) dX7_copy_43 fl_X7_244 rfl (by decide) (by decide) rfl ?_
            refine g_iconst (v := (-1)) dX7_copy_46 (by decide) ?_
            refine g_icmp_ne (tgt := 53) dX7_copy_47 (by decide) (fun c139 => ?_) (fun c139 => ?_)
            · have t := t.1 c139
              refine g_aload dX7_copy_53 rfl ?_
              refine g_getI (n := 3) dX7_copy_55 fl_X7_245 rfl (by decide) (by decide) rfl ?_
              refine g_aload dX7_copy_58 rfl ?_
              refine g_getI (n := 3) dX7_copy_60 fl_X7_245 rfl (by decide) (by decide) rfl ?_
              refine g_icmp_eq (tgt := 69) dX7_copy_63 (by decide) (fun c140 => ?_) (fun c140 => ?_)
              · have t := t.1 c140
                refine g_aload dX7_copy_69 rfl ?_
                refine g_iload_n dX7_copy_71 rfl ?_
                refine g_iload dX7_copy_72 rfl ?_
                refine s_V2i dX7_copy_74 vm_X4_holds ml_X7_214 rfl rfl (by decide) (Nat.le_of_ble_eq_true rfl) rfl (tk_Ms.mono t (fun x141 S142 t => ?_))
                refine g_if_eq (tgt := 92) dX7_copy_77 (by decide) (fun c143 => ?_) (fun c143 => ?_)
                · have t := t.1 c143
                  refine g_bipush (v := (-13)) dX7_copy_92 (by decide) ?_
                  exact g_iret (st := []) dX7_copy_94 (fun e => by cases e) ⟨_, rfl, t⟩
                · have t := t.2 c143
                  refine g_aload dX7_copy_80 rfl ?_
                  refine g_iload dX7_copy_82 rfl ?_
                  refine g_iload dX7_copy_84 rfl ?_
                  refine s_V2i dX7_copy_86 vm_X4_holds ml_X7_214 rfl rfl (by decide) (Nat.le_of_ble_eq_true rfl) rfl (tk_Ms.mono t (fun x144 S145 t => ?_))
                  refine g_if_ne (tgt := 95) dX7_copy_89 (by decide) (fun c146 => ?_) (fun c146 => ?_)
                  · have t := t.1 c146
                    refine g_aload dX7_copy_95 rfl ?_
                    refine g_getR (n := 3) dX7_copy_97 fl_X7_248 rfl (by decide) (by decide) rfl rfl ?_
                    refine g_iload_n dX7_copy_100 rfl ?_
                    refine g_aload dX7_copy_101 rfl ?_
                    refine g_getR (n := 3) dX7_copy_103 fl_X7_248 rfl (by decide) (by decide) rfl rfl ?_
                    refine g_iload dX7_copy_106 rfl ?_
                    refine g_iload dX7_copy_108 rfl ?_
                    refine g_acopy (n0 := 24) (n1 := 24) dX7_copy_110 ml_X7_251 (by decide) (Nat.le_of_ble_eq_true rfl) rfl rfl t.1 t.2.1 t.2.2.1 t.2.2.2.1 t.2.2.2.2.1 ?_
                    have t := t.2.2.2.2.2
                    refine g_iload dX7_copy_113 rfl ?_
                    exact g_iret (st := []) dX7_copy_115 (fun e => by cases e) ⟨_, rfl, t⟩
                  · have t := t.2 c146
                    refine g_bipush (v := (-13)) dX7_copy_92 (by decide) ?_
                    exact g_iret (st := []) dX7_copy_94 (fun e => by cases e) ⟨_, rfl, t⟩
              · have t := t.2 c140
                refine g_bipush (v := (-12)) dX7_copy_66 (by decide) ?_
                exact g_iret (st := []) dX7_copy_68 (fun e => by cases e) ⟨_, rfl, t⟩
            · have t := t.2 c139
              refine g_bipush (v := (-11)) dX7_copy_50 (by decide) ?_
              exact g_iret (st := []) dX7_copy_52 (fun e => by cases e) ⟨_, rfl, t⟩
        · have t := t.2.2.2.2 c119
          refine g_astore (ls' := [.ref 0, .int p1, .int p2, .int p3, .int p4, .int p5, .ref 43, .ref 43]) dX7_copy_30 rfl (by decide) rfl ?_
          refine g_aload dX7_copy_32 rfl ?_
          refine g_getI (n := 3) dX7_copy_34 fl_X7_244 rfl (by decide) (by decide) rfl ?_
          refine g_iconst (v := (-1)) dX7_copy_37 (by decide) ?_
          refine g_icmp_eq (tgt := 50) dX7_copy_38 (by decide) (fun c147 => ?_) (fun c147 => ?_)
          · have t := t.1 c147
            refine g_bipush (v := (-11)) dX7_copy_50 (by decide) ?_
            exact g_iret (st := []) dX7_copy_52 (fun e => by cases e) ⟨_, rfl, t⟩
          · have t := t.2 c147
            refine g_aload dX7_copy_41 rfl ?_
            refine g_getI (n := 3) dX7_copy_43 fl_X7_244 rfl (by decide) (by decide) rfl ?_
            refine g_iconst (v := (-1)) dX7_copy_46 (by decide) ?_
            refine g_icmp_ne (tgt := 53) dX7_copy_47 (by decide) (fun c148 => ?_) (fun c148 => ?_)
            · have t := t.1 c148
              refine g_aload dX7_copy_53 rfl ?_
              refine g_getI (n := 3) dX7_copy_55 fl_X7_245 rfl (by decide) (by decide) rfl ?_
              refine g_aload dX7_copy_58 rfl ?_
              refine g_getI (n := 3) dX7_copy_60 fl_X7_245 rfl (by decide) (by decide) rfl ?_
              refine g_icmp_eq (tgt := 69) dX7_copy_63 (by decide) (fun c149 => ?_) (fun c149 => ?_)
              · have t := t.1 c149
                refine g_aload dX7_copy_69 rfl ?_
                refine g_iload_n dX7_copy_71 rfl ?_
                refine g_iload dX7_copy_72 rfl ?_
                refine s_V2i dX7_copy_74 vm_X4_holds ml_X7_214 rfl rfl (by decide) (Nat.le_of_ble_eq_true rfl) rfl (tk_Ms.mono t (fun x150 S151 t => ?_))
                refine g_if_eq (tgt := 92) dX7_copy_77 (by decide) (fun c152 => ?_) (fun c152 => ?_)
                · have t := t.1 c152
                  refine g_bipush (v := (-13)) dX7_copy_92 (by decide) ?_
                  exact g_iret (st := []) dX7_copy_94 (fun e => by cases e) ⟨_, rfl, t⟩
                · have t := t.2 c152
                  refine g_aload dX7_copy_80 rfl ?_
                  refine g_iload dX7_copy_82 rfl ?_
                  refine g_iload dX7_copy_84 rfl ?_
                  refine s_V2i dX7_copy_86 vm_X4_holds ml_X7_214 rfl rfl (by decide) (Nat.le_of_ble_eq_true rfl) rfl (tk_Ms.mono t (fun x153 S154 t => ?_))
                  refine g_if_ne (tgt := 95) dX7_copy_89 (by decide) (fun c155 => ?_) (fun c155 => ?_)
                  · have t := t.1 c155
                    refine g_aload dX7_copy_95 rfl ?_
                    refine g_getR (n := 3) dX7_copy_97 fl_X7_248 rfl (by decide) (by decide) rfl rfl ?_
                    refine g_iload_n dX7_copy_100 rfl ?_
                    refine g_aload dX7_copy_101 rfl ?_
                    refine g_getR (n := 3) dX7_copy_103 fl_X7_248 rfl (by decide) (by decide) rfl rfl ?_
                    refine g_iload dX7_copy_106 rfl ?_
                    refine g_iload dX7_copy_108 rfl ?_
                    refine g_acopy (n0 := 24) (n1 := 24) dX7_copy_110 ml_X7_251 (by decide) (Nat.le_of_ble_eq_true rfl) rfl rfl t.1 t.2.1 t.2.2.1 t.2.2.2.1 t.2.2.2.2.1 ?_
                    have t := t.2.2.2.2.2
                    refine g_iload dX7_copy_113 rfl ?_
                    exact g_iret (st := []) dX7_copy_115 (fun e => by cases e) ⟨_, rfl, t⟩
                  · have t := t.2 c155
                    refine g_bipush (v := (-13)) dX7_copy_92 (by decide) ?_
                    exact g_iret (st := []) dX7_copy_94 (fun e => by cases e) ⟨_, rfl, t⟩
              · have t := t.2 c149
                refine g_bipush (v := (-12)) dX7_copy_66 (by decide) ?_
                exact g_iret (st := []) dX7_copy_68 (fun e => by cases e) ⟨_, rfl, t⟩
            · have t := t.2 c148
              refine g_bipush (v := (-11)) dX7_copy_50 (by decide) ?_
              exact g_iret (st := []) dX7_copy_52 (fun e => by cases e) ⟨_, rfl, t⟩
    · have t := t.2 c6
      refine g_iconst (v := (-1)) dX7_copy_14 (by decide) ?_
      exact g_iret (st := []) dX7_copy_15 (fun e => by cases e) ⟨_, rfl, t⟩
theorem w_X7_isPlace {Q : Int32 → tS → Prop} {S : tS} (p1 : Int32) (t : ((p1 < 0 → (tk_okQ mX7_isPlace Q) 0 S) ∧ (¬ p1 < 0 → ((10 < p1 → (tk_okQ mX7_isPlace Q) 0 S) ∧ (¬ 10 < p1 → (tk_okQ mX7_isPlace Q) 1 S))))) : tk_Ms mX7_isPlace [.int p1] S Q := by
  refine tk_Ms.of (ls := [.int p1]) (by decide) (by first | exact Or.inl rfl | exact Or.inr (Or.inl rfl) | exact Or.inr (Or.inr rfl)) (Nat.le_of_ble_eq_true rfl) rfl ?_
  refine g_iload_n dX7_isPlace_0 rfl ?_
  refine g_if_lt (tgt := 14) dX7_isPlace_1 (by decide) (fun c1 => ?_) (fun c1 => ?_)
  · have t := t.1 c1
    refine g_iconst (v := 0) dX7_isPlace_14 (by decide) ?_
    exact g_iret (st := []) dX7_isPlace_15 (fun e => by cases e) ⟨_, rfl, t⟩
  · have t := t.2 c1
    refine g_iload_n dX7_isPlace_4 rfl ?_
    refine g_bipush (v := 10) dX7_isPlace_5 (by decide) ?_
    refine g_icmp_gt (tgt := 14) dX7_isPlace_7 (by decide) (fun c2 => ?_) (fun c2 => ?_)
    · have t := t.1 c2
      refine g_iconst (v := 0) dX7_isPlace_14 (by decide) ?_
      exact g_iret (st := []) dX7_isPlace_15 (fun e => by cases e) ⟨_, rfl, t⟩
    · have t := t.2 c2
      refine g_iconst (v := 1) dX7_isPlace_10 (by decide) ?_
      refine g_goto (tgt := 15) dX7_isPlace_11 (by decide) ?_
      exact g_iret (st := []) dX7_isPlace_15 (fun e => by cases e) ⟨_, rfl, t⟩
theorem w_X7_mayHaveDoor {Q : Int32 → tS → Prop} {S : tS} (p1 : Int32) (p2 : Int32) (t : ((p1 = p2 → (tk_okQ mX7_mayHaveDoor Q) 0 S) ∧ (¬ p1 = p2 → (((if 0 ≤ (p1 - p2) then (p1 - p2) else 0 - (p1 - p2)) = 10 → (tk_okQ mX7_mayHaveDoor Q) 0 S) ∧ (¬ (if 0 ≤ (p1 - p2) then (p1 - p2) else 0 - (p1 - p2)) = 10 → (tk_okQ mX7_mayHaveDoor Q) 1 S))))) : tk_Ms mX7_mayHaveDoor [.int p1, .int p2] S Q := by
  refine tk_Ms.of (ls := [.int p1, .int p2]) (by decide) (by first | exact Or.inl rfl | exact Or.inr (Or.inl rfl) | exact Or.inr (Or.inr rfl)) (Nat.le_of_ble_eq_true rfl) rfl ?_
  refine g_iload_n dX7_mayHaveDoor_0 rfl ?_
  refine g_iload_n dX7_mayHaveDoor_1 rfl ?_
  refine g_icmp_eq (tgt := 20) dX7_mayHaveDoor_2 (by decide) (fun c1 => ?_) (fun c1 => ?_)
  · have t := t.1 c1
    refine g_iconst (v := 0) dX7_mayHaveDoor_20 (by decide) ?_
    exact g_iret (st := []) dX7_mayHaveDoor_21 (fun e => by cases e) ⟨_, rfl, t⟩
  · have t := t.2 c1
    refine g_iload_n dX7_mayHaveDoor_5 rfl ?_
    refine g_iload_n dX7_mayHaveDoor_6 rfl ?_
    refine g_isub dX7_mayHaveDoor_7 ?_
    refine g_abs dX7_mayHaveDoor_8 ml_X7_257 (by decide) (Nat.le_of_ble_eq_true rfl) ?_
    refine g_bipush (v := 10) dX7_mayHaveDoor_11 (by decide) ?_
    refine g_icmp_eq (tgt := 20) dX7_mayHaveDoor_13 (by decide) (fun c2 => ?_) (fun c2 => ?_)
    · have t := t.1 c2
      refine g_iconst (v := 0) dX7_mayHaveDoor_20 (by decide) ?_
      exact g_iret (st := []) dX7_mayHaveDoor_21 (fun e => by cases e) ⟨_, rfl, t⟩
    · have t := t.2 c2
      refine g_iconst (v := 1) dX7_mayHaveDoor_16 (by decide) ?_
      refine g_goto (tgt := 21) dX7_mayHaveDoor_17 (by decide) ?_
      exact g_iret (st := []) dX7_mayHaveDoor_21 (fun e => by cases e) ⟨_, rfl, t⟩
theorem w_X7_isKind {Q : Int32 → tS → Prop} {S : tS} (p1 : Int32) (t : ((p1 < 0 → (tk_okQ mX7_isKind Q) 0 S) ∧ (¬ p1 < 0 → ((4 ≤ p1 → (tk_okQ mX7_isKind Q) 0 S) ∧ (¬ 4 ≤ p1 → (tk_okQ mX7_isKind Q) 1 S))))) : tk_Ms mX7_isKind [.int p1] S Q := by
  refine tk_Ms.of (ls := [.int p1]) (by decide) (by first | exact Or.inl rfl | exact Or.inr (Or.inl rfl) | exact Or.inr (Or.inr rfl)) (Nat.le_of_ble_eq_true rfl) rfl ?_
  refine g_iload_n dX7_isKind_0 rfl ?_
  refine g_if_lt (tgt := 13) dX7_isKind_1 (by decide) (fun c1 => ?_) (fun c1 => ?_)
  · have t := t.1 c1
    refine g_iconst (v := 0) dX7_isKind_13 (by decide) ?_
    exact g_iret (st := []) dX7_isKind_14 (fun e => by cases e) ⟨_, rfl, t⟩
  · have t := t.2 c1
    refine g_iload_n dX7_isKind_4 rfl ?_
    refine g_iconst (v := 4) dX7_isKind_5 (by decide) ?_
    refine g_icmp_ge (tgt := 13) dX7_isKind_6 (by decide) (fun c2 => ?_) (fun c2 => ?_)
    · have t := t.1 c2
      refine g_iconst (v := 0) dX7_isKind_13 (by decide) ?_
      exact g_iret (st := []) dX7_isKind_14 (fun e => by cases e) ⟨_, rfl, t⟩
    · have t := t.2 c2
      refine g_iconst (v := 1) dX7_isKind_9 (by decide) ?_
      refine g_goto (tgt := 14) dX7_isKind_10 (by decide) ?_
      exact g_iret (st := []) dX7_isKind_14 (fun e => by cases e) ⟨_, rfl, t⟩
theorem w_X7_isSister {Q : Int32 → tS → Prop} {S : tS} (p1 : Int32) (t : ((p1 < 0 → (tk_okQ mX7_isSister Q) 0 S) ∧ (¬ p1 < 0 → ((4 ≤ p1 → (tk_okQ mX7_isSister Q) 0 S) ∧ (¬ 4 ≤ p1 → (tk_okQ mX7_isSister Q) 1 S))))) : tk_Ms mX7_isSister [.int p1] S Q := by
  refine tk_Ms.of (ls := [.int p1]) (by decide) (by first | exact Or.inl rfl | exact Or.inr (Or.inl rfl) | exact Or.inr (Or.inr rfl)) (Nat.le_of_ble_eq_true rfl) rfl ?_
  refine g_iload_n dX7_isSister_0 rfl ?_
  refine g_if_lt (tgt := 13) dX7_isSister_1 (by decide) (fun c1 => ?_) (fun c1 => ?_)
  · have t := t.1 c1
    refine g_iconst (v := 0) dX7_isSister_13 (by decide) ?_
    exact g_iret (st := []) dX7_isSister_14 (fun e => by cases e) ⟨_, rfl, t⟩
  · have t := t.2 c1
    refine g_iload_n dX7_isSister_4 rfl ?_
    refine g_iconst (v := 4) dX7_isSister_5 (by decide) ?_
    refine g_icmp_ge (tgt := 13) dX7_isSister_6 (by decide) (fun c2 => ?_) (fun c2 => ?_)
    · have t := t.1 c2
      refine g_iconst (v := 0) dX7_isSister_13 (by decide) ?_
      exact g_iret (st := []) dX7_isSister_14 (fun e => by cases e) ⟨_, rfl, t⟩
    · have t := t.2 c2
      refine g_iconst (v := 1) dX7_isSister_9 (by decide) ?_
      refine g_goto (tgt := 14) dX7_isSister_10 (by decide) ?_
      exact g_iret (st := []) dX7_isSister_14 (fun e => by cases e) ⟨_, rfl, t⟩
theorem w_X7_isStay {Q : Int32 → tS → Prop} {S : tS} (p1 : Int32) (t : ((p1 < 0 → (tk_okQ mX7_isStay Q) 0 S) ∧ (¬ p1 < 0 → ((30 < p1 → (tk_okQ mX7_isStay Q) 0 S) ∧ (¬ 30 < p1 → (tk_okQ mX7_isStay Q) 1 S))))) : tk_Ms mX7_isStay [.int p1] S Q := by
  refine tk_Ms.of (ls := [.int p1]) (by decide) (by first | exact Or.inl rfl | exact Or.inr (Or.inl rfl) | exact Or.inr (Or.inr rfl)) (Nat.le_of_ble_eq_true rfl) rfl ?_
  refine g_iload_n dX7_isStay_0 rfl ?_
  refine g_if_lt (tgt := 14) dX7_isStay_1 (by decide) (fun c1 => ?_) (fun c1 => ?_)
  · have t := t.1 c1
    refine g_iconst (v := 0) dX7_isStay_14 (by decide) ?_
    exact g_iret (st := []) dX7_isStay_15 (fun e => by cases e) ⟨_, rfl, t⟩
  · have t := t.2 c1
    refine g_iload_n dX7_isStay_4 rfl ?_
    refine g_bipush (v := 30) dX7_isStay_5 (by decide) ?_
    refine g_icmp_gt (tgt := 14) dX7_isStay_7 (by decide) (fun c2 => ?_) (fun c2 => ?_)
    · have t := t.1 c2
      refine g_iconst (v := 0) dX7_isStay_14 (by decide) ?_
      exact g_iret (st := []) dX7_isStay_15 (fun e => by cases e) ⟨_, rfl, t⟩
    · have t := t.2 c2
      refine g_iconst (v := 1) dX7_isStay_10 (by decide) ?_
      refine g_goto (tgt := 15) dX7_isStay_11 (by decide) ?_
      exact g_iret (st := []) dX7_isStay_15 (fun e => by cases e) ⟨_, rfl, t⟩
theorem w_X7_isDayAhead {Q : Int32 → tS → Prop} {S : tS} (p1 : Int32) (t : ((p1 < (S 0 2) → (tk_okQ mX7_isDayAhead Q) 0 S) ∧ (¬ p1 < (S 0 2) → ((999 < p1 → (tk_okQ mX7_isDayAhead Q) 0 S) ∧ (¬ 999 < p1 → (tk_okQ mX7_isDayAhead Q) 1 S))))) : tk_Ms mX7_isDayAhead [.ref 0, .int p1] S Q := by
  refine tk_Ms.of (ls := [.ref 0, .int p1]) (by decide) (by first | exact Or.inl rfl | exact Or.inr (Or.inl rfl) | exact Or.inr (Or.inr rfl)) (Nat.le_of_ble_eq_true rfl) rfl ?_
  refine g_iload_n dX7_isDayAhead_0 rfl ?_
  refine g_aload_n dX7_isDayAhead_1 rfl ?_
  refine g_getI (n := 13) dX7_isDayAhead_2 fl_X7_23 rfl (by decide) (by decide) rfl ?_
  refine g_icmp_lt (tgt := 19) dX7_isDayAhead_5 (by decide) (fun c1 => ?_) (fun c1 => ?_)
  · have t := t.1 c1
    refine g_iconst (v := 0) dX7_isDayAhead_19 (by decide) ?_
    exact g_iret (st := []) dX7_isDayAhead_20 (fun e => by cases e) ⟨_, rfl, t⟩
  · have t := t.2 c1
    refine g_iload_n dX7_isDayAhead_8 rfl ?_
    refine g_sipush (v := 999) dX7_isDayAhead_9 (by decide) ?_
    refine g_icmp_gt (tgt := 19) dX7_isDayAhead_12 (by decide) (fun c2 => ?_) (fun c2 => ?_)
    · have t := t.1 c2
      refine g_iconst (v := 0) dX7_isDayAhead_19 (by decide) ?_
      exact g_iret (st := []) dX7_isDayAhead_20 (fun e => by cases e) ⟨_, rfl, t⟩
    · have t := t.2 c2
      refine g_iconst (v := 1) dX7_isDayAhead_15 (by decide) ?_
      refine g_goto (tgt := 20) dX7_isDayAhead_16 (by decide) ?_
      exact g_iret (st := []) dX7_isDayAhead_20 (fun e => by cases e) ⟨_, rfl, t⟩
theorem w_X7_isSheet {Q : Int32 → tS → Prop} {S : tS} (p1 : Int32) (t : ((p1 < 0 → (tk_okQ mX7_isSheet Q) 0 S) ∧ (¬ p1 < 0 → ((4 ≤ p1 → (tk_okQ mX7_isSheet Q) 0 S) ∧ (¬ 4 ≤ p1 → (tk_okQ mX7_isSheet Q) 1 S))))) : tk_Ms mX7_isSheet [.int p1] S Q := by
  refine tk_Ms.of (ls := [.int p1]) (by decide) (by first | exact Or.inl rfl | exact Or.inr (Or.inl rfl) | exact Or.inr (Or.inr rfl)) (Nat.le_of_ble_eq_true rfl) rfl ?_
  refine g_iload_n dX7_isSheet_0 rfl ?_
  refine g_if_lt (tgt := 13) dX7_isSheet_1 (by decide) (fun c1 => ?_) (fun c1 => ?_)
  · have t := t.1 c1
    refine g_iconst (v := 0) dX7_isSheet_13 (by decide) ?_
    exact g_iret (st := []) dX7_isSheet_14 (fun e => by cases e) ⟨_, rfl, t⟩
  · have t := t.2 c1
    refine g_iload_n dX7_isSheet_4 rfl ?_
    refine g_iconst (v := 4) dX7_isSheet_5 (by decide) ?_
    refine g_icmp_ge (tgt := 13) dX7_isSheet_6 (by decide) (fun c2 => ?_) (fun c2 => ?_)
    · have t := t.1 c2
      refine g_iconst (v := 0) dX7_isSheet_13 (by decide) ?_
      exact g_iret (st := []) dX7_isSheet_14 (fun e => by cases e) ⟨_, rfl, t⟩
    · have t := t.2 c2
      refine g_iconst (v := 1) dX7_isSheet_9 (by decide) ?_
      refine g_goto (tgt := 14) dX7_isSheet_10 (by decide) ?_
      exact g_iret (st := []) dX7_isSheet_14 (fun e => by cases e) ⟨_, rfl, t⟩
theorem w_X7_isLane {Q : Int32 → tS → Prop} {S : tS} (p1 : Int32) (t : ((p1 < 0 → (tk_okQ mX7_isLane Q) 0 S) ∧ (¬ p1 < 0 → ((3 ≤ p1 → (tk_okQ mX7_isLane Q) 0 S) ∧ (¬ 3 ≤ p1 → (tk_okQ mX7_isLane Q) 1 S))))) : tk_Ms mX7_isLane [.int p1] S Q := by
  refine tk_Ms.of (ls := [.int p1]) (by decide) (by first | exact Or.inl rfl | exact Or.inr (Or.inl rfl) | exact Or.inr (Or.inr rfl)) (Nat.le_of_ble_eq_true rfl) rfl ?_
  refine g_iload_n dX7_isLane_0 rfl ?_
  refine g_if_lt (tgt := 13) dX7_isLane_1 (by decide) (fun c1 => ?_) (fun c1 => ?_)
  · have t := t.1 c1
    refine g_iconst (v := 0) dX7_isLane_13 (by decide) ?_
    exact g_iret (st := []) dX7_isLane_14 (fun e => by cases e) ⟨_, rfl, t⟩
  · have t := t.2 c1
    refine g_iload_n dX7_isLane_4 rfl ?_
    refine g_iconst (v := 3) dX7_isLane_5 (by decide) ?_
    refine g_icmp_ge (tgt := 13) dX7_isLane_6 (by decide) (fun c2 => ?_) (fun c2 => ?_)
    · have t := t.1 c2
      refine g_iconst (v := 0) dX7_isLane_13 (by decide) ?_
      exact g_iret (st := []) dX7_isLane_14 (fun e => by cases e) ⟨_, rfl, t⟩
    · have t := t.2 c2
      refine g_iconst (v := 1) dX7_isLane_9 (by decide) ?_
      refine g_goto (tgt := 14) dX7_isLane_10 (by decide) ?_
      exact g_iret (st := []) dX7_isLane_14 (fun e => by cases e) ⟨_, rfl, t⟩
theorem w_X7_byteOf {Q : Int32 → tS → Prop} {S : tS} (p1 : Int64) (p2 : Int32) (t : (tk_okQ mX7_byteOf Q) (((p1 >>> (((8 * p2 : Int32)).toInt64 &&& 63)).toInt32) &&& 255) S) : tk_Ms mX7_byteOf [.long p1, .int p2] S Q := by
  refine tk_Ms.of (ls := [.long p1, .null, .int p2]) (by decide) (by first | exact Or.inl rfl | exact Or.inr (Or.inl rfl) | exact Or.inr (Or.inr rfl)) (Nat.le_of_ble_eq_true rfl) rfl ?_
  refine g_lload_n dX7_byteOf_0 rfl ?_
  refine g_bipush (v := 8) dX7_byteOf_1 (by decide) ?_
  refine g_iload_n dX7_byteOf_3 rfl ?_
  refine g_imul dX7_byteOf_4 ?_
  refine g_lshr dX7_byteOf_5 ?_
  refine g_l2i dX7_byteOf_6 ?_
  refine g_sipush (v := 255) dX7_byteOf_7 (by decide) ?_
  refine g_iand dX7_byteOf_10 ?_
  exact g_iret (st := []) dX7_byteOf_11 (fun e => by cases e) ⟨_, rfl, t⟩
theorem w_X7_refusalOf {Q : Int32 → tS → Prop} {S : tS} (p1 : Int32) (p2 : Int32) (t : (tk_Ms mX7_isSheet [.int p1] S (fun x1 S2 => ((x1 = 0 → (tk_okQ mX7_refusalOf Q) (-1) S2) ∧ (¬ x1 = 0 → (tk_Ms mX7_isLane [.int p2] S2 (fun x4 S5 => ((¬ x4 = 0 → (vp_in p1 4 ∧ (p1 = 0 → ((¬ (S5 37 1) = (-1) → ((¬ (S5 37 0) = p2 → (tk_okQ mX7_refusalOf Q) (-12) S5) ∧ ((S5 37 0) = p2 → (tk_okQ mX7_refusalOf Q) 0 S5))) ∧ ((S5 37 1) = (-1) → (tk_okQ mX7_refusalOf Q) (-11) S5))) ∧ (p1 = 1 → ((¬ (S5 39 1) = (-1) → ((¬ (S5 39 0) = p2 → (tk_okQ mX7_refusalOf Q) (-12) S5) ∧ ((S5 39 0) = p2 → (tk_okQ mX7_refusalOf Q) 0 S5))) ∧ ((S5 39 1) = (-1) → (tk_okQ mX7_refusalOf Q) (-11) S5))) ∧ (p1 = 2 → ((¬ (S5 41 1) = (-1) → ((¬ (S5 41 0) = p2 → (tk_okQ mX7_refusalOf Q) (-12) S5) ∧ ((S5 41 0) = p2 → (tk_okQ mX7_refusalOf Q) 0 S5))) ∧ ((S5 41 1) = (-1) → (tk_okQ mX7_refusalOf Q) (-11) S5))) ∧ (p1 = 3 → ((¬ (S5 43 1) = (-1) → ((¬ (S5 43 0) = p2 → (tk_okQ mX7_refusalOf Q) (-12) S5) ∧ ((S5 43 0) = p2 → (tk_okQ mX7_refusalOf Q) 0 S5))) ∧ ((S5 43 1) = (-1) → (tk_okQ mX7_refusalOf Q) (-11) S5))))) ∧ (x4 = 0 → (tk_okQ mX7_refusalOf Q) (-1) S5))))))))) : tk_Ms mX7_refusalOf [.ref 0, .int p1, .int p2] S Q := by
  refine tk_Ms.of (ls := [.ref 0, .int p1, .int p2]) (by decide) (by first | exact Or.inl rfl | exact Or.inr (Or.inl rfl) | exact Or.inr (Or.inr rfl)) (Nat.le_of_ble_eq_true rfl) rfl ?_
  refine g_iload_n dX7_refusalOf_0 rfl ?_
  refine s_S1i dX7_refusalOf_1 sm_X7_isSheet ml_X7_235 rfl (by decide) (Nat.le_of_ble_eq_true rfl) rfl (tk_Ms.mono t (fun x1 S2 t => ?_))
  refine g_if_eq (tgt := 14) dX7_refusalOf_4 (by decide) (fun c3 => ?_) (fun c3 => ?_)
  · have t := t.1 c3
    refine g_iconst (v := (-1)) dX7_refusalOf_14 (by decide) ?_
    exact g_iret (st := []) dX7_refusalOf_15 (fun e => by cases e) ⟨_, rfl, t⟩
  · have t := t.2 c3
    refine g_iload_n dX7_refusalOf_7 rfl ?_
    refine s_S1i dX7_refusalOf_8 sm_X7_isLane ml_X7_238 rfl (by decide) (Nat.le_of_ble_eq_true rfl) rfl (tk_Ms.mono t (fun x4 S5 t => ?_))
    refine g_if_ne (tgt := 16) dX7_refusalOf_11 (by decide) (fun c6 => ?_) (fun c6 => ?_)
    · have t := t.1 c6
      refine g_aload_n dX7_refusalOf_16 rfl ?_
      refine g_getR (n := 13) dX7_refusalOf_17 fl_X7_73 rfl (by decide) (by decide) rfl rfl ?_
      refine g_iload_n dX7_refusalOf_20 rfl ?_
      refine g_sheets dX7_refusalOf_21 t.1 (fun c7 => ?_) (fun c7 => ?_) (fun c7 => ?_) (fun c7 => ?_)
      · have t := t.2.1 c7
        refine g_getI (n := 3) dX7_refusalOf_22 fl_X7_244 rfl (by decide) (by decide) rfl ?_
        refine g_iconst (v := (-1)) dX7_refusalOf_25 (by decide) ?_
        refine g_icmp_ne (tgt := 32) dX7_refusalOf_26 (by decide) (fun c8 => ?_) (fun c8 => ?_)
        · have t := t.1 c8
          refine g_aload_n dX7_refusalOf_32 rfl ?_
          refine g_getR (n := 13) dX7_refusalOf_33 fl_X7_73 rfl (by decide) (by decide) rfl rfl ?_
          refine g_iload_n dX7_refusalOf_36 rfl ?_
          refine g_sheetE0 dX7_refusalOf_37 c7 ?_
          refine g_getI (n := 3) dX7_refusalOf_38 fl_X7_245 rfl (by decide) (by decide) rfl ?_
          refine g_iload_n dX7_refusalOf_41 rfl ?_
          refine g_icmp_ne (tgt := 49) dX7_refusalOf_42 (by decide) (fun c9 => ?_) (fun c9 => ?_)
          · have t := t.1 c9
            refine g_bipush (v := (-12)) dX7_refusalOf_49 (by decide) ?_
            exact g_iret (st := []) dX7_refusalOf_51 (fun e => by cases e) ⟨_, rfl, t⟩
          · have t := t.2 c9
            refine g_iconst (v := 0) dX7_refusalOf_45 (by decide) ?_
            refine g_goto (tgt := 51) dX7_refusalOf_46 (by decide) ?_
            exact g_iret (st := []) dX7_refusalOf_51 (fun e => by cases e) ⟨_, rfl, t⟩
        · have t := t.2 c8
          refine g_bipush (v := (-11)) dX7_refusalOf_29 (by decide) ?_
          exact g_iret (st := []) dX7_refusalOf_31 (fun e => by cases e) ⟨_, rfl, t⟩
      · have t := t.2.2.1 c7
        refine g_getI (n := 3) dX7_refusalOf_22 fl_X7_244 rfl (by decide) (by decide) rfl ?_
        refine g_iconst (v := (-1)) dX7_refusalOf_25 (by decide) ?_
        refine g_icmp_ne (tgt := 32) dX7_refusalOf_26 (by decide) (fun c10 => ?_) (fun c10 => ?_)
        · have t := t.1 c10
          refine g_aload_n dX7_refusalOf_32 rfl ?_
          refine g_getR (n := 13) dX7_refusalOf_33 fl_X7_73 rfl (by decide) (by decide) rfl rfl ?_
          refine g_iload_n dX7_refusalOf_36 rfl ?_
          refine g_sheetE1 dX7_refusalOf_37 c7 ?_
          refine g_getI (n := 3) dX7_refusalOf_38 fl_X7_245 rfl (by decide) (by decide) rfl ?_
          refine g_iload_n dX7_refusalOf_41 rfl ?_
          refine g_icmp_ne (tgt := 49) dX7_refusalOf_42 (by decide) (fun c11 => ?_) (fun c11 => ?_)
          · have t := t.1 c11
            refine g_bipush (v := (-12)) dX7_refusalOf_49 (by decide) ?_
            exact g_iret (st := []) dX7_refusalOf_51 (fun e => by cases e) ⟨_, rfl, t⟩
          · have t := t.2 c11
            refine g_iconst (v := 0) dX7_refusalOf_45 (by decide) ?_
            refine g_goto (tgt := 51) dX7_refusalOf_46 (by decide) ?_
            exact g_iret (st := []) dX7_refusalOf_51 (fun e => by cases e) ⟨_, rfl, t⟩
        · have t := t.2 c10
          refine g_bipush (v := (-11)) dX7_refusalOf_29 (by decide) ?_
          exact g_iret (st := []) dX7_refusalOf_31 (fun e => by cases e) ⟨_, rfl, t⟩
      · have t := t.2.2.2.1 c7
        refine g_getI (n := 3) dX7_refusalOf_22 fl_X7_244 rfl (by decide) (by decide) rfl ?_
        refine g_iconst (v := (-1)) dX7_refusalOf_25 (by decide) ?_
        refine g_icmp_ne (tgt := 32) dX7_refusalOf_26 (by decide) (fun c12 => ?_) (fun c12 => ?_)
        · have t := t.1 c12
          refine g_aload_n dX7_refusalOf_32 rfl ?_
          refine g_getR (n := 13) dX7_refusalOf_33 fl_X7_73 rfl (by decide) (by decide) rfl rfl ?_
          refine g_iload_n dX7_refusalOf_36 rfl ?_
          refine g_sheetE2 dX7_refusalOf_37 c7 ?_
          refine g_getI (n := 3) dX7_refusalOf_38 fl_X7_245 rfl (by decide) (by decide) rfl ?_
          refine g_iload_n dX7_refusalOf_41 rfl ?_
          refine g_icmp_ne (tgt := 49) dX7_refusalOf_42 (by decide) (fun c13 => ?_) (fun c13 => ?_)
          · have t := t.1 c13
            refine g_bipush (v := (-12)) dX7_refusalOf_49 (by decide) ?_
            exact g_iret (st := []) dX7_refusalOf_51 (fun e => by cases e) ⟨_, rfl, t⟩
          · have t := t.2 c13
            refine g_iconst (v := 0) dX7_refusalOf_45 (by decide) ?_
            refine g_goto (tgt := 51) dX7_refusalOf_46 (by decide) ?_
            exact g_iret (st := []) dX7_refusalOf_51 (fun e => by cases e) ⟨_, rfl, t⟩
        · have t := t.2 c12
          refine g_bipush (v := (-11)) dX7_refusalOf_29 (by decide) ?_
          exact g_iret (st := []) dX7_refusalOf_31 (fun e => by cases e) ⟨_, rfl, t⟩
      · have t := t.2.2.2.2 c7
        refine g_getI (n := 3) dX7_refusalOf_22 fl_X7_244 rfl (by decide) (by decide) rfl ?_
        refine g_iconst (v := (-1)) dX7_refusalOf_25 (by decide) ?_
        refine g_icmp_ne (tgt := 32) dX7_refusalOf_26 (by decide) (fun c14 => ?_) (fun c14 => ?_)
        · have t := t.1 c14
          refine g_aload_n dX7_refusalOf_32 rfl ?_
          refine g_getR (n := 13) dX7_refusalOf_33 fl_X7_73 rfl (by decide) (by decide) rfl rfl ?_
          refine g_iload_n dX7_refusalOf_36 rfl ?_
          refine g_sheetE3 dX7_refusalOf_37 c7 ?_
          refine g_getI (n := 3) dX7_refusalOf_38 fl_X7_245 rfl (by decide) (by decide) rfl ?_
          refine g_iload_n dX7_refusalOf_41 rfl ?_
          refine g_icmp_ne (tgt := 49) dX7_refusalOf_42 (by decide) (fun c15 => ?_) (fun c15 => ?_)
          · have t := t.1 c15
            refine g_bipush (v := (-12)) dX7_refusalOf_49 (by decide) ?_
            exact g_iret (st := []) dX7_refusalOf_51 (fun e => by cases e) ⟨_, rfl, t⟩
          · have t := t.2 c15
            refine g_iconst (v := 0) dX7_refusalOf_45 (by decide) ?_
            refine g_goto (tgt := 51) dX7_refusalOf_46 (by decide) ?_
            exact g_iret (st := []) dX7_refusalOf_51 (fun e => by cases e) ⟨_, rfl, t⟩
        · have t := t.2 c14
          refine g_bipush (v := (-11)) dX7_refusalOf_29 (by decide) ?_
          exact g_iret (st := []) dX7_refusalOf_31 (fun e => by cases e) ⟨_, rfl, t⟩
    · have t := t.2 c6
      refine g_iconst (v := (-1)) dX7_refusalOf_14 (by decide) ?_
      exact g_iret (st := []) dX7_refusalOf_15 (fun e => by cases e) ⟨_, rfl, t⟩
theorem w_X7_readHouse {Q : Int32 → tS → Prop} {S : tS}  (t : tk_Gs mX7_readHouse none 20 [.ref 0, .int 1, .int 1] [] (tk_up (tk_up S 21 1 0) 23 0 0) (tk_okQ mX7_readHouse Q)) : tk_Ms mX7_readHouse [.ref 0] S Q := by
  refine tk_Ms.of (ls := [.ref 0, .null, .null]) (by decide) (by first | exact Or.inl rfl | exact Or.inr (Or.inl rfl) | exact Or.inr (Or.inr rfl)) (Nat.le_of_ble_eq_true rfl) rfl ?_
  refine g_aload_n dX7_readHouse_0 rfl ?_
  refine g_getR (n := 13) dX7_readHouse_1 fl_X7_43 rfl (by decide) (by decide) rfl rfl ?_
  refine g_iconst (v := 0) dX7_readHouse_4 (by decide) ?_
  refine g_putI (n := 3) dX7_readHouse_5 fl_X7_262 rfl (by decide) (by decide) rfl rfl rfl ?_
  refine g_aload_n dX7_readHouse_8 rfl ?_
  refine g_getR (n := 13) dX7_readHouse_9 fl_X7_47 rfl (by decide) (by decide) rfl rfl ?_
  refine g_iconst (v := 0) dX7_readHouse_12 (by decide) ?_
  refine g_putI (n := 4) dX7_readHouse_13 fl_X7_146 rfl (by decide) (by decide) rfl rfl rfl ?_
  refine g_iconst (v := 1) dX7_readHouse_16 (by decide) ?_
  refine g_istore_n (ls' := [.ref 0, .int 1, .null]) dX7_readHouse_17 rfl (by decide) rfl ?_
  refine g_iconst (v := 1) dX7_readHouse_18 (by decide) ?_
  refine g_istore_n (ls' := [.ref 0, .int 1, .int 1]) dX7_readHouse_19 rfl (by decide) rfl ?_
  exact t
theorem w_X7_readHouse_20 {Q : Int32 → tS → Prop} {S : tS} (l1 : Int32) (l2 : Int32)  (t : ((l1 = 0 → (tk_Ms mX5_ahead [.ref 21] S (fun x2 S3 => ((x2 = (-1) → (tk_Ms mX2_becomeLike [.ref 1, .ref 23] S3 (fun _ S6 => Q (S6 1 0) S6))) ∧ (¬ x2 = (-1) → (tk_Ms mX5_fault [.ref 21] S3 (fun x7 S8 => Q x7 S8))))))) ∧ (¬ l1 = 0 → ((16 < l2 → (tk_Ms mX5_ahead [.ref 21] S (fun x10 S11 => ((x10 = (-1) → (tk_Ms mX2_becomeLike [.ref 1, .ref 23] S11 (fun _ S14 => Q (S14 1 0) S14))) ∧ (¬ x10 = (-1) → (tk_Ms mX5_fault [.ref 21] S11 (fun x15 S16 => Q x15 S16))))))) ∧ (¬ 16 < l2 → (tk_Ms mX7_readDoor [.ref 0] S (fun x17 S18 => ((¬ x17 = 0 → ((16 ≤ l2 → tk_Gs mX7_readHouse none 20 [.ref 0, .int 0, .int (l2 + 1)] [] S18 Q) ∧ (¬ 16 ≤ l2 → (tk_Ms mX5_take [.ref 21, .int 44] S18 (fun x21 S22 => ((x21 = 0 → tk_Gs mX7_readHouse none 20 [.ref 0, .int 0, .int (l2 + 1)] [] S22 Q) ∧ (¬ x21 = 0 → tk_Gs mX7_readHouse none 20 [.ref 0, .int 1, .int (l2 + 1)] [] S22 Q))))))) ∧ (x17 = 0 → (tk_Ms mX5_fault [.ref 21] S18 (fun x24 S25 => Q x24 S25))))))))))) : tk_Gs mX7_readHouse none 20 [.ref 0, .int l1, .int l2] [] S Q := by
  show tk_G _ 0 0 _ _ _ _ (tkSH, S, tkRF) _
  refine g_iload_n dX7_readHouse_20 rfl ?_
  refine g_if_eq (tgt := 75) dX7_readHouse_21 (by decide) (fun c1 => ?_) (fun c1 => ?_)
  · have t := t.1 c1
    refine g_aload_n dX7_readHouse_75 rfl ?_
    refine g_getR (n := 13) dX7_readHouse_76 fl_X7_43 rfl (by decide) (by decide) rfl rfl ?_
    refine s_V0i dX7_readHouse_79 vm_X5_ahead ml_X7_274 rfl rfl (by decide) (Nat.le_of_ble_eq_true rfl) rfl (tk_Ms.mono t (fun x2 S3 t => ?_))
    refine g_iconst (v := (-1)) dX7_readHouse_82 (by decide) ?_
    refine g_icmp_eq (tgt := 94) dX7_readHouse_83 (by decide) (fun c4 => ?_) (fun c4 => ?_)
    · have t := t.1 c4
      refine g_aload_n dX7_readHouse_94 rfl ?_
      refine g_getR (n := 13) dX7_readHouse_95 fl_X7_10 rfl (by decide) (by decide) rfl rfl ?_
      refine g_aload_n dX7_readHouse_98 rfl ?_
      refine g_getR (n := 13) dX7_readHouse_99 fl_X7_47 rfl (by decide) (by decide) rfl rfl ?_
      refine s_V1v dX7_readHouse_102 vm_X2_becomeLike ml_X7_204 rfl rfl (by decide) (Nat.le_of_ble_eq_true rfl) rfl (tk_Ms.mono t (fun _ S6 t => ?_))
      refine g_aload_n dX7_readHouse_105 rfl ?_
      refine g_getR (n := 13) dX7_readHouse_106 fl_X7_10 rfl (by decide) (by decide) rfl rfl ?_
      refine g_getI (n := 4) dX7_readHouse_109 fl_X7_146 rfl (by decide) (by decide) rfl ?_
      exact g_iret (st := []) dX7_readHouse_112 (fun e => by cases e) ⟨_, rfl, t⟩
    · have t := t.2 c4
      refine g_aload_n dX7_readHouse_86 rfl ?_
      refine g_getR (n := 13) dX7_readHouse_87 fl_X7_43 rfl (by decide) (by decide) rfl rfl ?_
      refine s_V0i dX7_readHouse_90 vm_X5_fault ml_X7_268 rfl rfl (by decide) (Nat.le_of_ble_eq_true rfl) rfl (tk_Ms.mono t (fun x7 S8 t => ?_))
      exact g_iret (st := []) dX7_readHouse_93 (fun e => by cases e) ⟨_, rfl, t⟩
  · have t := t.2 c1
    refine g_iload_n dX7_readHouse_24 rfl ?_
    refine g_bipush (v := 16) dX7_readHouse_25 (by decide) ?_
    refine g_icmp_gt (tgt := 75) dX7_readHouse_27 (by decide) (fun c9 => ?_) (fun c9 => ?_)
    · have t := t.1 c9
      refine g_aload_n dX7_readHouse_75 rfl ?_
      refine g_getR (n := 13) dX7_readHouse_76 fl_X7_43 rfl (by decide) (by decide) rfl rfl ?_
      refine s_V0i dX7_readHouse_79 vm_X5_ahead ml_X7_274 rfl rfl (by decide) (Nat.le_of_ble_eq_true rfl) rfl (tk_Ms.mono t (fun x10 S11 t => ?_))
      refine g_iconst (v := (-1)) dX7_readHouse_82 (by decide) ?_
      refine g_icmp_eq (tgt := 94) dX7_readHouse_83 (by decide) (fun c12 => ?_) (fun c12 => ?_)
      · have t := t.1 c12
        refine g_aload_n dX7_readHouse_94 rfl ?_
        refine g_getR (n := 13) dX7_readHouse_95 fl_X7_10 rfl (by decide) (by decide) rfl rfl ?_
        refine g_aload_n dX7_readHouse_98 rfl ?_
        refine g_getR (n := 13) dX7_readHouse_99 fl_X7_47 rfl (by decide) (by decide) rfl rfl ?_
        refine s_V1v dX7_readHouse_102 vm_X2_becomeLike ml_X7_204 rfl rfl (by decide) (Nat.le_of_ble_eq_true rfl) rfl (tk_Ms.mono t (fun _ S14 t => ?_))
        refine g_aload_n dX7_readHouse_105 rfl ?_
        refine g_getR (n := 13) dX7_readHouse_106 fl_X7_10 rfl (by decide) (by decide) rfl rfl ?_
        refine g_getI (n := 4) dX7_readHouse_109 fl_X7_146 rfl (by decide) (by decide) rfl ?_
        exact g_iret (st := []) dX7_readHouse_112 (fun e => by cases e) ⟨_, rfl, t⟩
      · have t := t.2 c12
        refine g_aload_n dX7_readHouse_86 rfl ?_
        refine g_getR (n := 13) dX7_readHouse_87 fl_X7_43 rfl (by decide) (by decide) rfl rfl ?_
        refine s_V0i dX7_readHouse_90 vm_X5_fault ml_X7_268 rfl rfl (by decide) (Nat.le_of_ble_eq_true rfl) rfl (tk_Ms.mono t (fun x15 S16 t => ?_))
        exact g_iret (st := []) dX7_readHouse_93 (fun e => by cases e) ⟨_, rfl, t⟩
    · have t := t.2 c9
      refine g_aload_n dX7_readHouse_30 rfl ?_
      refine s_V0i dX7_readHouse_31 vm_X7_readDoor ml_X7_264 rfl rfl (by decide) (Nat.le_of_ble_eq_true rfl) rfl (tk_Ms.mono t (fun x17 S18 t => ?_))
      refine g_if_ne (tgt := 45) dX7_readHouse_34 (by decide) (fun c19 => ?_) (fun c19 => ?_)
      · have t := t.1 c19
        refine g_iload_n dX7_readHouse_45 rfl ?_
        refine g_bipush (v := 16) dX7_readHouse_46 (by decide) ?_
        refine g_icmp_ge (tgt := 67) dX7_readHouse_48 (by decide) (fun c20 => ?_) (fun c20 => ?_)
        · have t := t.1 c20
          refine g_iconst (v := 0) dX7_readHouse_67 (by decide) ?_
          refine g_istore_n (ls' := [.ref 0, .int 0, .int l2]) dX7_readHouse_68 rfl (by decide) rfl ?_
          refine g_iinc (v := l2 + 1) (ls' := [.ref 0, .int 0, .int (l2 + 1)]) dX7_readHouse_69 rfl rfl (by decide) rfl rfl ?_
          refine g_goto (tgt := 20) dX7_readHouse_72 (by decide) ?_
          exact t
        · have t := t.2 c20
          refine g_aload_n dX7_readHouse_51 rfl ?_
          refine g_getR (n := 13) dX7_readHouse_52 fl_X7_43 rfl (by decide) (by decide) rfl rfl ?_
          refine g_bipush (v := 44) dX7_readHouse_55 (by decide) ?_
          refine s_V1i dX7_readHouse_57 vm_X5_take ml_X7_271 rfl rfl (by decide) (Nat.le_of_ble_eq_true rfl) rfl (tk_Ms.mono t (fun x21 S22 t => ?_))
          refine g_if_eq (tgt := 67) dX7_readHouse_60 (by decide) (fun c23 => ?_) (fun c23 => ?_)
          · have t := t.1 c23
            refine g_iconst (v := 0) dX7_readHouse_67 (by decide) ?_
            refine g_istore_n (ls' := [.ref 0, .int 0, .int l2]) dX7_readHouse_68 rfl (by decide) rfl ?_
            refine g_iinc (v := l2 + 1) (ls' := [.ref 0, .int 0, .int (l2 + 1)]) dX7_readHouse_69 rfl rfl (by decide) rfl rfl ?_
            refine g_goto (tgt := 20) dX7_readHouse_72 (by decide) ?_
            exact t
          · have t := t.2 c23
            refine g_iconst (v := 1) dX7_readHouse_63 (by decide) ?_
            refine g_goto (tgt := 68) dX7_readHouse_64 (by decide) ?_
            refine g_istore_n (ls' := [.ref 0, .int 1, .int l2]) dX7_readHouse_68 rfl (by decide) rfl ?_
            refine g_iinc (v := l2 + 1) (ls' := [.ref 0, .int 1, .int (l2 + 1)]) dX7_readHouse_69 rfl rfl (by decide) rfl rfl ?_
            refine g_goto (tgt := 20) dX7_readHouse_72 (by decide) ?_
            exact t
      · have t := t.2 c19
        refine g_aload_n dX7_readHouse_37 rfl ?_
        refine g_getR (n := 13) dX7_readHouse_38 fl_X7_43 rfl (by decide) (by decide) rfl rfl ?_
        refine s_V0i dX7_readHouse_41 vm_X5_fault ml_X7_268 rfl rfl (by decide) (Nat.le_of_ble_eq_true rfl) rfl (tk_Ms.mono t (fun x24 S25 t => ?_))
        exact g_iret (st := []) dX7_readHouse_44 (fun e => by cases e) ⟨_, rfl, t⟩
theorem w_X7_readDoor {Q : Int32 → tS → Prop} {S : tS}  (t : (tk_Ms mX5_placeAhead [.ref 21] S (fun x1 S2 => ((¬ x1 = (-1) → (tk_Ms mX5_take [.ref 21, .int 45] (tk_up S2 21 1 ((S2 21 1) + 1)) (fun x4 S5 => ((¬ x4 = 0 → (tk_Ms mX5_placeAhead [.ref 21] S5 (fun x7 S8 => ((x7 = (-1) → (tk_okQ mX7_readDoor Q) 0 S8) ∧ (¬ x7 = (-1) → (tk_Ms mX7_mayHaveDoor [.int x1, .int x7] S8 (fun x10 S11 => ((¬ x10 = 0 → (tk_Ms mX5_take [.ref 21, .int 108] (tk_up S11 21 1 ((S11 21 1) + 1)) (fun x13 S14 => ((x13 = 0 → (((8 : Int32) = (-1) → (tk_okQ mX7_readDoor Q) 0 S14) ∧ (¬ (8 : Int32) = (-1) → (tk_Ms mX2_add [.ref 23, .int x1, .int x7, .int 8] S14 (fun x17 S18 => ((x17 < 0 → (tk_okQ mX7_readDoor Q) 0 S18) ∧ (¬ x17 < 0 → (tk_okQ mX7_readDoor Q) 1 S18))))))) ∧ (¬ x13 = 0 → (tk_Ms mX5_digit [.ref 21, .int 8] S14 (fun x20 S21 => ((x20 = (-1) → (tk_okQ mX7_readDoor Q) 0 S21) ∧ (¬ x20 = (-1) → (tk_Ms mX2_add [.ref 23, .int x1, .int x7, .int x20] S21 (fun x23 S24 => ((x23 < 0 → (tk_okQ mX7_readDoor Q) 0 S24) ∧ (¬ x23 < 0 → (tk_okQ mX7_readDoor Q) 1 S24))))))))))))) ∧ (x10 = 0 → (tk_okQ mX7_readDoor Q) 0 S11))))))))) ∧ (x4 = 0 → (tk_okQ mX7_readDoor Q) 0 S5))))) ∧ (x1 = (-1) → (tk_okQ mX7_readDoor Q) 0 S2))))) : tk_Ms mX7_readDoor [.ref 0] S Q := by
  refine tk_Ms.of (ls := [.ref 0, .null, .null, .null]) (by decide) (by first | exact Or.inl rfl | exact Or.inr (Or.inl rfl) | exact Or.inr (Or.inr rfl)) (Nat.le_of_ble_eq_true rfl) rfl ?_
  refine g_aload_n dX7_readDoor_0 rfl ?_
  refine g_getR (n := 13) dX7_readDoor_1 fl_X7_43 rfl (by decide) (by decide) rfl rfl ?_
  refine s_V0i dX7_readDoor_4 vm_X5_placeAhead ml_X7_277 rfl rfl (by decide) (Nat.le_of_ble_eq_true rfl) rfl (tk_Ms.mono t (fun x1 S2 t => ?_))
  refine g_istore_n (ls' := [.ref 0, .int x1, .null, .null]) dX7_readDoor_7 rfl (by decide) rfl ?_
  refine g_iload_n dX7_readDoor_8 rfl ?_
  refine g_iconst (v := (-1)) dX7_readDoor_9 (by decide) ?_
  refine g_icmp_ne (tgt := 15) dX7_readDoor_10 (by decide) (fun c3 => ?_) (fun c3 => ?_)
  · have t := t.1 c3
    refine g_aload_n dX7_readDoor_15 rfl ?_
    refine g_getR (n := 13) dX7_readDoor_16 fl_X7_43 rfl (by decide) (by decide) rfl rfl ?_
    refine g_dup dX7_readDoor_19 rfl ?_
    refine g_getI (n := 3) dX7_readDoor_20 fl_X7_262 rfl (by decide) (by decide) rfl ?_
    refine g_iconst (v := 1) dX7_readDoor_23 (by decide) ?_
    refine g_iadd dX7_readDoor_24 ?_
    refine g_putI (n := 3) dX7_readDoor_25 fl_X7_262 rfl (by decide) (by decide) rfl rfl rfl ?_
    refine g_aload_n dX7_readDoor_28 rfl ?_
    refine g_getR (n := 13) dX7_readDoor_29 fl_X7_43 rfl (by decide) (by decide) rfl rfl ?_
    refine g_bipush (v := 45) dX7_readDoor_32 (by decide) ?_
    refine s_V1i dX7_readDoor_34 vm_X5_take ml_X7_271 rfl rfl (by decide) (Nat.le_of_ble_eq_true rfl) rfl (tk_Ms.mono t (fun x4 S5 t => ?_))
    refine g_if_ne (tgt := 42) dX7_readDoor_37 (by decide) (fun c6 => ?_) (fun c6 => ?_)
    · have t := t.1 c6
      refine g_aload_n dX7_readDoor_42 rfl ?_
      refine g_getR (n := 13) dX7_readDoor_43 fl_X7_43 rfl (by decide) (by decide) rfl rfl ?_
      refine s_V0i dX7_readDoor_46 vm_X5_placeAhead ml_X7_277 rfl rfl (by decide) (Nat.le_of_ble_eq_true rfl) rfl (tk_Ms.mono t (fun x7 S8 t => ?_))
      refine g_istore_n (ls' := [.ref 0, .int x1, .int x7, .null]) dX7_readDoor_49 rfl (by decide) rfl ?_
      refine g_iload_n dX7_readDoor_50 rfl ?_
      refine g_iconst (v := (-1)) dX7_readDoor_51 (by decide) ?_
      refine g_icmp_eq (tgt := 63) dX7_readDoor_52 (by decide) (fun c9 => ?_) (fun c9 => ?_)
      · have t := t.1 c9
        refine g_iconst (v := 0) dX7_readDoor_63 (by decide) ?_
        exact g_iret (st := []) dX7_readDoor_64 (fun e => by cases e) ⟨_, rfl, t⟩
      · have t := t.2 c9
        refine g_iload_n dX7_readDoor_55 rfl ?_
        refine g_iload_n dX7_readDoor_56 rfl ?_
        refine s_S2i dX7_readDoor_57 sm_X7_mayHaveDoor ml_X7_82 rfl (by decide) (Nat.le_of_ble_eq_true rfl) rfl (tk_Ms.mono t (fun x10 S11 t => ?_))
        refine g_if_ne (tgt := 65) dX7_readDoor_60 (by decide) (fun c12 => ?_) (fun c12 => ?_)
        · have t := t.1 c12
          refine g_aload_n dX7_readDoor_65 rfl ?_
          refine g_getR (n := 13) dX7_readDoor_66 fl_X7_43 rfl (by decide) (by decide) rfl rfl ?_
          refine g_dup dX7_readDoor_69 rfl ?_
          refine g_getI (n := 3) dX7_readDoor_70 fl_X7_262 rfl (by decide) (by decide) rfl ?_
          refine g_iconst (v := 1) dX7_readDoor_73 (by decide) ?_
          refine g_iadd dX7_readDoor_74 ?_
          refine g_putI (n := 3) dX7_readDoor_75 fl_X7_262 rfl (by decide) (by decide) rfl rfl rfl ?_
          refine g_bipush (v := 8) dX7_readDoor_78 (by decide) ?_
          refine g_istore_n (ls' := [.ref 0, .int x1, .int x7, .int 8]) dX7_readDoor_80 rfl (by decide) rfl ?_
          refine g_aload_n dX7_readDoor_81 rfl ?_
          refine g_getR (n := 13) dX7_readDoor_82 fl_X7_43 rfl (by decide) (by decide) rfl rfl ?_
          refine g_bipush (v := 108) dX7_readDoor_85 (by decide) ?_
          refine s_V1i dX7_readDoor_87 vm_X5_take ml_X7_271 rfl rfl (by decide) (Nat.le_of_ble_eq_true rfl) rfl (tk_Ms.mono t (fun x13 S14 t => ?_))
          refine g_if_eq (tgt := 103) dX7_readDoor_90 (by decide) (fun c15 => ?_) (fun c15 => ?_)
          · have t := t.1 c15
            refine g_iload_n dX7_readDoor_103 rfl ?_
            refine g_iconst (v := (-1)) dX7_readDoor_104 (by decide) ?_
            refine g_icmp_eq (tgt := 125) dX7_readDoor_105 (by decide) (fun c16 => ?_) (fun c16 => ?_)
            · have t := t.1 c16
              refine g_iconst (v := 0) dX7_readDoor_125 (by decide) ?_
              exact g_iret (st := []) dX7_readDoor_126 (fun e => by cases e) ⟨_, rfl, t⟩
            · have t := t.2 c16
              refine g_aload_n dX7_readDoor_108 rfl ?_
              refine g_getR (n := 13) dX7_readDoor_109 fl_X7_47 rfl (by decide) (by decide) rfl rfl ?_
              refine g_iload_n dX7_readDoor_112 rfl ?_
              refine g_iload_n dX7_readDoor_113 rfl ?_
              refine g_iload_n dX7_readDoor_114 rfl ?_
              refine s_V3i dX7_readDoor_115 vm_X2_add ml_X7_86 rfl rfl (by decide) (Nat.le_of_ble_eq_true rfl) rfl (tk_Ms.mono t (fun x17 S18 t => ?_))
              refine g_if_lt (tgt := 125) dX7_readDoor_118 (by decide) (fun c19 => ?_) (fun c19 => ?_)
              · have t := t.1 c19
                refine g_iconst (v := 0) dX7_readDoor_125 (by decide) ?_
                exact g_iret (st := []) dX7_readDoor_126 (fun e => by cases e) ⟨_, rfl, t⟩
              · have t := t.2 c19
                refine g_iconst (v := 1) dX7_readDoor_121 (by decide) ?_
                refine g_goto (tgt := 126) dX7_readDoor_122 (by decide) ?_
                exact g_iret (st := []) dX7_readDoor_126 (fun e => by cases e) ⟨_, rfl, t⟩
          · have t := t.2 c15
            refine g_aload_n dX7_readDoor_93 rfl ?_
            refine g_getR (n := 13) dX7_readDoor_94 fl_X7_43 rfl (by decide) (by decide) rfl rfl ?_
            refine g_bipush (v := 8) dX7_readDoor_97 (by decide) ?_
            refine s_V1i dX7_readDoor_99 vm_X5_digit ml_X7_280 rfl rfl (by decide) (Nat.le_of_ble_eq_true rfl) rfl (tk_Ms.mono t (fun x20 S21 t => ?_))
            refine g_istore_n (ls' := [.ref 0, .int x1, .int x7, .int x20]) dX7_readDoor_102 rfl (by decide) rfl ?_
            refine g_iload_n dX7_readDoor_103 rfl ?_
            refine g_iconst (v := (-1)) dX7_readDoor_104 (by decide) ?_
            refine g_icmp_eq (tgt := 125) dX7_readDoor_105 (by decide) (fun c22 => ?_) (fun c22 => ?_)
            · have t := t.1 c22
              refine g_iconst (v := 0) dX7_readDoor_125 (by decide) ?_
              exact g_iret (st := []) dX7_readDoor_126 (fun e => by cases e) ⟨_, rfl, t⟩
            · have t := t.2 c22
              refine g_aload_n dX7_readDoor_108 rfl ?_
              refine g_getR (n := 13) dX7_readDoor_109 fl_X7_47 rfl (by decide) (by decide) rfl rfl ?_
              refine g_iload_n dX7_readDoor_112 rfl ?_
              refine g_iload_n dX7_readDoor_113 rfl ?_
              refine g_iload_n dX7_readDoor_114 rfl ?_
              refine s_V3i dX7_readDoor_115 vm_X2_add ml_X7_86 rfl rfl (by decide) (Nat.le_of_ble_eq_true rfl) rfl (tk_Ms.mono t (fun x23 S24 t => ?_))
              refine g_if_lt (tgt := 125) dX7_readDoor_118 (by decide) (fun c25 => ?_) (fun c25 => ?_)
              · have t := t.1 c25
                refine g_iconst (v := 0) dX7_readDoor_125 (by decide) ?_
                exact g_iret (st := []) dX7_readDoor_126 (fun e => by cases e) ⟨_, rfl, t⟩
              · have t := t.2 c25
                refine g_iconst (v := 1) dX7_readDoor_121 (by decide) ?_
                refine g_goto (tgt := 126) dX7_readDoor_122 (by decide) ?_
                exact g_iret (st := []) dX7_readDoor_126 (fun e => by cases e) ⟨_, rfl, t⟩
        · have t := t.2 c12
          refine g_iconst (v := 0) dX7_readDoor_63 (by decide) ?_
          exact g_iret (st := []) dX7_readDoor_64 (fun e => by cases e) ⟨_, rfl, t⟩
    · have t := t.2 c6
      refine g_iconst (v := 0) dX7_readDoor_40 (by decide) ?_
      exact g_iret (st := []) dX7_readDoor_41 (fun e => by cases e) ⟨_, rfl, t⟩
  · have t := t.2 c3
    refine g_iconst (v := 0) dX7_readDoor_13 (by decide) ?_
    exact g_iret (st := []) dX7_readDoor_14 (fun e => by cases e) ⟨_, rfl, t⟩
theorem w_X7_readWeek {Q : Int32 → tS → Prop} {S : tS} (p1 : Int32) (t : tk_Gs mX7_readWeek none 15 [.ref 0, .int p1, .int 0, .int 1, .int 0] [] (tk_up S 21 1 0) (tk_okQ mX7_readWeek Q)) : tk_Ms mX7_readWeek [.ref 0, .int p1] S Q := by
  refine tk_Ms.of (ls := [.ref 0, .int p1, .null, .null, .null]) (by decide) (by first | exact Or.inl rfl | exact Or.inr (Or.inl rfl) | exact Or.inr (Or.inr rfl)) (Nat.le_of_ble_eq_true rfl) rfl ?_
  refine g_aload_n dX7_readWeek_0 rfl ?_
  refine g_getR (n := 13) dX7_readWeek_1 fl_X7_43 rfl (by decide) (by decide) rfl rfl ?_
  refine g_iconst (v := 0) dX7_readWeek_4 (by decide) ?_
  refine g_putI (n := 3) dX7_readWeek_5 fl_X7_262 rfl (by decide) (by decide) rfl rfl rfl ?_
  refine g_iconst (v := 0) dX7_readWeek_8 (by decide) ?_
  refine g_istore_n (ls' := [.ref 0, .int p1, .int 0, .null, .null]) dX7_readWeek_9 rfl (by decide) rfl ?_
  refine g_iconst (v := 1) dX7_readWeek_10 (by decide) ?_
  refine g_istore_n (ls' := [.ref 0, .int p1, .int 0, .int 1, .null]) dX7_readWeek_11 rfl (by decide) rfl ?_
  refine g_iconst (v := 0) dX7_readWeek_12 (by decide) ?_
  refine g_istore (ls' := [.ref 0, .int p1, .int 0, .int 1, .int 0]) dX7_readWeek_13 rfl (by decide) rfl ?_
  exact t
theorem w_X7_readWeek_15 {Q : Int32 → tS → Prop} {S : tS} (l1 : Int32) (l2 : Int32) (l3 : Int32) (l4 : Int32)  (t : ((l3 = 0 → (tk_Ms mX5_ahead [.ref 21] S (fun x2 S3 => ((¬ x2 = (-1) → (tk_Ms mX5_fault [.ref 21] S3 (fun x5 S6 => Q x5 S6))) ∧ (x2 = (-1) → Q l2 S3))))) ∧ (¬ l3 = 0 → ((160 ≤ l4 → (tk_Ms mX5_ahead [.ref 21] S (fun x8 S9 => ((¬ x8 = (-1) → (tk_Ms mX5_fault [.ref 21] S9 (fun x11 S12 => Q x11 S12))) ∧ (x8 = (-1) → Q l2 S9))))) ∧ (¬ 160 ≤ l4 → (tk_Ms mX7_readAct [.ref 0] S (fun x13 S14 => ((¬ x13 = 0 → ((l1 = 0 → (tk_Ms mX5_take [.ref 21, .int 59] S14 (fun x17 S18 => tk_Gs mX7_readWeek none 15 [.ref 0, .int l1, .int (l2 + 1), .int x17, .int (l4 + 1)] [] S18 Q))) ∧ (¬ l1 = 0 → (tk_Ms mX7_doAct [.ref 0] S14 (fun x19 S20 => ((¬ x19 = 0 → (tk_Ms mX5_take [.ref 21, .int 59] S20 (fun x22 S23 => tk_Gs mX7_readWeek none 15 [.ref 0, .int l1, .int (l2 + 1), .int x22, .int (l4 + 1)] [] S23 Q))) ∧ (x19 = 0 → Q l2 S20))))))) ∧ (x13 = 0 → (tk_Ms mX5_fault [.ref 21] S14 (fun x24 S25 => Q x24 S25))))))))))) : tk_Gs mX7_readWeek none 15 [.ref 0, .int l1, .int l2, .int l3, .int l4] [] S Q := by
  show tk_G _ 0 0 _ _ _ _ (tkSH, S, tkRF) _
  refine g_iload_n dX7_readWeek_15 rfl ?_
  refine g_if_eq (tgt := 74) dX7_readWeek_16 (by decide) (fun c1 => ?_) (fun c1 => ?_)
  · have t := t.1 c1
    refine g_aload_n dX7_readWeek_74 rfl ?_
    refine g_getR (n := 13) dX7_readWeek_75 fl_X7_43 rfl (by decide) (by decide) rfl rfl ?_
    refine s_V0i dX7_readWeek_78 vm_X5_ahead ml_X7_274 rfl rfl (by decide) (Nat.le_of_ble_eq_true rfl) rfl (tk_Ms.mono t (fun x2 S3 t => ?_))
    refine g_iconst (v := (-1)) dX7_readWeek_81 (by decide) ?_
    refine g_icmp_ne (tgt := 89) dX7_readWeek_82 (by decide) (fun c4 => ?_) (fun c4 => ?_)
    · have t := t.1 c4
      refine g_aload_n dX7_readWeek_89 rfl ?_
      refine g_getR (n := 13) dX7_readWeek_90 fl_X7_43 rfl (by decide) (by decide) rfl rfl ?_
      refine s_V0i dX7_readWeek_93 vm_X5_fault ml_X7_268 rfl rfl (by decide) (Nat.le_of_ble_eq_true rfl) rfl (tk_Ms.mono t (fun x5 S6 t => ?_))
      exact g_iret (st := []) dX7_readWeek_96 (fun e => by cases e) ⟨_, rfl, t⟩
    · have t := t.2 c4
      refine g_iload_n dX7_readWeek_85 rfl ?_
      refine g_goto (tgt := 96) dX7_readWeek_86 (by decide) ?_
      exact g_iret (st := []) dX7_readWeek_96 (fun e => by cases e) ⟨_, rfl, t⟩
  · have t := t.2 c1
    refine g_iload dX7_readWeek_19 rfl ?_
    refine g_sipush (v := 160) dX7_readWeek_21 (by decide) ?_
    refine g_icmp_ge (tgt := 74) dX7_readWeek_24 (by decide) (fun c7 => ?_) (fun c7 => ?_)
    · have t := t.1 c7
      refine g_aload_n dX7_readWeek_74 rfl ?_
      refine g_getR (n := 13) dX7_readWeek_75 fl_X7_43 rfl (by decide) (by decide) rfl rfl ?_
      refine s_V0i dX7_readWeek_78 vm_X5_ahead ml_X7_274 rfl rfl (by decide) (Nat.le_of_ble_eq_true rfl) rfl (tk_Ms.mono t (fun x8 S9 t => ?_))
      refine g_iconst (v := (-1)) dX7_readWeek_81 (by decide) ?_
      refine g_icmp_ne (tgt := 89) dX7_readWeek_82 (by decide) (fun c10 => ?_) (fun c10 => ?_)
      · have t := t.1 c10
        refine g_aload_n dX7_readWeek_89 rfl ?_
        refine g_getR (n := 13) dX7_readWeek_90 fl_X7_43 rfl (by decide) (by decide) rfl rfl ?_
        refine s_V0i dX7_readWeek_93 vm_X5_fault ml_X7_268 rfl rfl (by decide) (Nat.le_of_ble_eq_true rfl) rfl (tk_Ms.mono t (fun x11 S12 t => ?_))
        exact g_iret (st := []) dX7_readWeek_96 (fun e => by cases e) ⟨_, rfl, t⟩
      · have t := t.2 c10
        refine g_iload_n dX7_readWeek_85 rfl ?_
        refine g_goto (tgt := 96) dX7_readWeek_86 (by decide) ?_
        exact g_iret (st := []) dX7_readWeek_96 (fun e => by cases e) ⟨_, rfl, t⟩
    · have t := t.2 c7
      refine g_aload_n dX7_readWeek_27 rfl ?_
      refine s_V0i dX7_readWeek_28 vm_X7_readAct ml_X7_283 rfl rfl (by decide) (Nat.le_of_ble_eq_true rfl) rfl (tk_Ms.mono t (fun x13 S14 t => ?_))
      refine g_if_ne (tgt := 42) dX7_readWeek_31 (by decide) (fun c15 => ?_) (fun c15 => ?_)
      · have t := t.1 c15
        refine g_iload_n dX7_readWeek_42 rfl ?_
        refine g_if_eq (tgt := 55) dX7_readWeek_43 (by decide) (fun c16 => ?_) (fun c16 => ?_)
        · have t := t.1 c16
          refine g_iinc (v := l2 + 1) (ls' := [.ref 0, .int l1, .int (l2 + 1), .int l3, .int l4]) dX7_readWeek_55 rfl rfl (by decide) rfl rfl ?_
          refine g_aload_n dX7_readWeek_58 rfl ?_
          refine g_getR (n := 13) dX7_readWeek_59 fl_X7_43 rfl (by decide) (by decide) rfl rfl ?_
          refine g_bipush (v := 59) dX7_readWeek_62 (by decide) ?_
          refine s_V1i dX7_readWeek_64 vm_X5_take ml_X7_271 rfl rfl (by decide) (Nat.le_of_ble_eq_true rfl) rfl (tk_Ms.mono t (fun x17 S18 t => ?_))
          refine g_istore_n (ls' := [.ref 0, .int l1, .int (l2 + 1), .int x17, .int l4]) dX7_readWeek_67 rfl (by decide) rfl ?_
          refine g_iinc (v := l4 + 1) (ls' := [.ref 0, .int l1, .int (l2 + 1), .int x17, .int (l4 + 1)]) dX7_readWeek_68 rfl rfl (by decide) rfl rfl ?_
          refine g_goto (tgt := 15) dX7_readWeek_71 (by decide) ?_
          exact t
        · have t := t.2 c16
          refine g_aload_n dX7_readWeek_46 rfl ?_
          refine s_V0i dX7_readWeek_47 vm_X7_doAct ml_X7_286 rfl rfl (by decide) (Nat.le_of_ble_eq_true rfl) rfl (tk_Ms.mono t (fun x19 S20 t => ?_))
          refine g_if_ne (tgt := 55) dX7_readWeek_50 (by decide) (fun c21 => ?_) (fun c21 => ?_)
          · have t := t.1 c21
            refine g_iinc (v := l2 + 1) (ls' := [.ref 0, .int l1, .int (l2 + 1), .int l3, .int l4]) dX7_readWeek_55 rfl rfl (by decide) rfl rfl ?_
            refine g_aload_n dX7_readWeek_58 rfl ?_
            refine g_getR (n := 13) dX7_readWeek_59 fl_X7_43 rfl (by decide) (by decide) rfl rfl ?_
            refine g_bipush (v := 59) dX7_readWeek_62 (by decide) ?_
            refine s_V1i dX7_readWeek_64 vm_X5_take ml_X7_271 rfl rfl (by decide) (Nat.le_of_ble_eq_true rfl) rfl (tk_Ms.mono t (fun x22 S23 t => ?_))
            refine g_istore_n (ls' := [.ref 0, .int l1, .int (l2 + 1), .int x22, .int l4]) dX7_readWeek_67 rfl (by decide) rfl ?_
            refine g_iinc (v := l4 + 1) (ls' := [.ref 0, .int l1, .int (l2 + 1), .int x22, .int (l4 + 1)]) dX7_readWeek_68 rfl rfl (by decide) rfl rfl ?_
            refine g_goto (tgt := 15) dX7_readWeek_71 (by decide) ?_
            exact t
          · have t := t.2 c21
            refine g_iload_n dX7_readWeek_53 rfl ?_
            exact g_iret (st := []) dX7_readWeek_54 (fun e => by cases e) ⟨_, rfl, t⟩
      · have t := t.2 c15
        refine g_aload_n dX7_readWeek_34 rfl ?_
        refine g_getR (n := 13) dX7_readWeek_35 fl_X7_43 rfl (by decide) (by decide) rfl rfl ?_
        refine s_V0i dX7_readWeek_38 vm_X5_fault ml_X7_268 rfl rfl (by decide) (Nat.le_of_ble_eq_true rfl) rfl (tk_Ms.mono t (fun x24 S25 t => ?_))
        exact g_iret (st := []) dX7_readWeek_41 (fun e => by cases e) ⟨_, rfl, t⟩
theorem w_X7_readAct {Q : Int32 → tS → Prop} {S : tS}  (t : (tk_Ms mX5_ahead [.ref 21] S (fun x1 S2 => ((x1 = 99 → (tk_Ms mX5_digit [.ref 21, .int (S2 5 0)] (tk_up (tk_up S2 27 0 x1) 21 1 ((S2 21 1) + 1)) (fun x4 S5 => ((x4 = (-1) → (((-1 : Int32) = (-1) → (tk_okQ mX7_readAct Q) 0 (tk_up (tk_up S5 27 2 x4) 27 3 (-1))) ∧ (¬ (-1 : Int32) = (-1) → (tk_okQ mX7_readAct Q) 1 (tk_up (tk_up S5 27 2 x4) 27 3 (-1))))) ∧ (¬ x4 = (-1) → (tk_Ms mX5_take [.ref 21, .int 62] (tk_up S5 27 2 x4) (fun x8 S9 => ((x8 = 0 → (((-1 : Int32) = (-1) → (tk_okQ mX7_readAct Q) 0 (tk_up S9 27 3 (-1))) ∧ (¬ (-1 : Int32) = (-1) → (tk_okQ mX7_readAct Q) 1 (tk_up S9 27 3 (-1))))) ∧ (¬ x8 = 0 → (tk_Ms mX5_digit [.ref 21, .int 5] S9 (fun x12 S13 => ((x12 = (-1) → (tk_okQ mX7_readAct Q) 0 (tk_up S13 27 3 x12)) ∧ (¬ x12 = (-1) → (tk_okQ mX7_readAct Q) 1 (tk_up S13 27 3 x12)))))))))))))) ∧ ((x1 = 110 → (tk_okQ mX7_readAct Q) 1 (tk_up (tk_up S2 27 0 x1) 21 1 ((S2 21 1) + 1))) ∧ ((x1 = 118 → (tk_Ms mX7_readVisit [.ref 0] (tk_up (tk_up S2 27 0 x1) 21 1 ((S2 21 1) + 1)) (fun x17 S18 => (tk_okQ mX7_readAct Q) x17 S18))) ∧ ((x1 = 119 → (tk_Ms mX5_digit [.ref 21, .int 4] (tk_up (tk_up S2 27 0 x1) 21 1 ((S2 21 1) + 1)) (fun x20 S21 => ((¬ x20 = (-1) → (tk_Ms mX5_digit [.ref 21, .int (S21 5 0)] (tk_up S21 27 1 x20) (fun x23 S24 => ((x23 = (-1) → (tk_okQ mX7_readAct Q) 0 (tk_up S24 27 2 x23)) ∧ (¬ x23 = (-1) → (tk_okQ mX7_readAct Q) 1 (tk_up S24 27 2 x23)))))) ∧ (x20 = (-1) → (((-1 : Int32) = (-1) → (tk_okQ mX7_readAct Q) 0 (tk_up (tk_up S21 27 1 x20) 27 2 (-1))) ∧ (¬ (-1 : Int32) = (-1) → (tk_okQ mX7_readAct Q) 1 (tk_up (tk_up S21 27 1 x20) 27 2 (-1))))))))) ∧ (¬ x1 = 99 ∧ ¬ x1 = 110 ∧ ¬ x1 = 118 ∧ ¬ x1 = 119 → (tk_okQ mX7_readAct Q) 0 (tk_up S2 27 0 x1))))))))) : tk_Ms mX7_readAct [.ref 0] S Q := by
  refine tk_Ms.of (ls := [.ref 0]) (by decide) (by first | exact Or.inl rfl | exact Or.inr (Or.inl rfl) | exact Or.inr (Or.inr rfl)) (Nat.le_of_ble_eq_true rfl) rfl ?_
  refine g_aload_n dX7_readAct_0 rfl ?_
  refine g_getR (n := 13) dX7_readAct_1 fl_X7_53 rfl (by decide) (by decide) rfl rfl ?_
  refine g_aload_n dX7_readAct_4 rfl ?_
  refine g_getR (n := 13) dX7_readAct_5 fl_X7_43 rfl (by decide) (by decide) rfl rfl ?_
  refine s_V0i dX7_readAct_8 vm_X5_ahead ml_X7_274 rfl rfl (by decide) (Nat.le_of_ble_eq_true rfl) rfl (tk_Ms.mono t (fun x1 S2 t => ?_))
  refine g_putI (n := 5) dX7_readAct_11 fl_X7_289 rfl (by decide) (by decide) rfl rfl rfl ?_
  refine g_aload_n dX7_readAct_14 rfl ?_
  refine g_getR (n := 13) dX7_readAct_15 fl_X7_53 rfl (by decide) (by decide) rfl rfl ?_
  refine g_getI (n := 5) dX7_readAct_18 fl_X7_289 rfl (by decide) (by decide) rfl ?_
  by_cases c3 : x1 = 99
  · have t := t.1 c3
    refine g_lookupE c3 (off := 142) (tgt := 163) dX7_readAct_21 (by decide) (by decide) (by decide) ?_
    refine g_aload_n dX7_readAct_163 rfl ?_
    refine g_getR (n := 13) dX7_readAct_164 fl_X7_43 rfl (by decide) (by decide) rfl rfl ?_
    refine g_dup dX7_readAct_167 rfl ?_
    refine g_getI (n := 3) dX7_readAct_168 fl_X7_262 rfl (by decide) (by decide) rfl ?_
    refine g_iconst (v := 1) dX7_readAct_171 (by decide) ?_
    refine g_iadd dX7_readAct_172 ?_
    refine g_putI (n := 3) dX7_readAct_173 fl_X7_262 rfl (by decide) (by decide) rfl rfl rfl ?_
    refine g_aload_n dX7_readAct_176 rfl ?_
    refine g_getR (n := 13) dX7_readAct_177 fl_X7_53 rfl (by decide) (by decide) rfl rfl ?_
    refine g_aload_n dX7_readAct_180 rfl ?_
    refine g_getR (n := 13) dX7_readAct_181 fl_X7_43 rfl (by decide) (by decide) rfl rfl ?_
    refine g_aload_n dX7_readAct_184 rfl ?_
    refine g_getR (n := 13) dX7_readAct_185 fl_X7_19 rfl (by decide) (by decide) rfl rfl ?_
    refine g_getI (n := 6) dX7_readAct_188 fl_X7_149 rfl (by decide) (by decide) rfl ?_
    refine s_V1i dX7_readAct_191 vm_X5_digit ml_X7_280 rfl rfl (by decide) (Nat.le_of_ble_eq_true rfl) rfl (tk_Ms.mono t (fun x4 S5 t => ?_))
    refine g_putI (n := 5) dX7_readAct_194 fl_X7_298 rfl (by decide) (by decide) rfl rfl rfl ?_
    refine g_aload_n dX7_readAct_197 rfl ?_
    refine g_getR (n := 13) dX7_readAct_198 fl_X7_53 rfl (by decide) (by decide) rfl rfl ?_
    refine g_aload_n dX7_readAct_201 rfl ?_
    refine g_getR (n := 13) dX7_readAct_202 fl_X7_53 rfl (by decide) (by decide) rfl rfl ?_
    refine g_getI (n := 5) dX7_readAct_205 fl_X7_298 rfl (by decide) (by decide) rfl ?_
    refine g_iconst (v := (-1)) dX7_readAct_208 (by decide) ?_
    refine g_icmp_eq (tgt := 235) dX7_readAct_209 (by decide) (fun c6 => ?_) (fun c6 => ?_)
    · have t := t.1 c6
      refine g_iconst (v := (-1)) dX7_readAct_235 (by decide) ?_
      refine g_putI (n := 5) dX7_readAct_236 fl_X7_301 rfl (by decide) (by decide) rfl rfl rfl ?_
      refine g_aload_n dX7_readAct_239 rfl ?_
      refine g_getR (n := 13) dX7_readAct_240 fl_X7_53 rfl (by decide) (by decide) rfl rfl ?_
      refine g_getI (n := 5) dX7_readAct_243 fl_X7_301 rfl (by decide) (by decide) rfl ?_
      refine g_iconst (v := (-1)) dX7_readAct_246 (by decide) ?_
      refine g_icmp_eq (tgt := 254) dX7_readAct_247 (by decide) (fun c7 => ?_) (fun c7 => ?_)
      · have t := t.1 c7
        refine g_iconst (v := 0) dX7_readAct_254 (by decide) ?_
        exact g_iret (st := []) dX7_readAct_255 (fun e => by cases e) ⟨_, rfl, t⟩
      · have t := t.2 c7
        refine g_iconst (v := 1) dX7_readAct_250 (by decide) ?_
        refine g_goto (tgt := 255) dX7_readAct_251 (by decide) ?_
        exact g_iret (st := []) dX7_readAct_255 (fun e => by cases e) ⟨_, rfl, t⟩
    · have t := t.2 c6
      refine g_aload_n dX7_readAct_212 rfl ?_
      refine g_getR (n := 13) dX7_readAct_213 fl_X7_43 rfl (by decide) (by decide) rfl rfl ?_
      refine g_bipush (v := 62) dX7_readAct_216 (by decide) ?_
      refine s_V1i dX7_readAct_218 vm_X5_take ml_X7_271 rfl rfl (by decide) (Nat.le_of_ble_eq_true rfl) rfl (tk_Ms.mono t (fun x8 S9 t => ?_))
      refine g_if_eq (tgt := 235) dX7_readAct_221 (by decide) (fun c10 => ?_) (fun c10 => ?_)
      · have t := t.1 c10
        refine g_iconst (v := (-1)) dX7_readAct_235 (by decide) ?_
        refine g_putI (n := 5) dX7_readAct_236 fl_X7_301 rfl (by decide) (by decide) rfl rfl rfl ?_
        refine g_aload_n dX7_readAct_239 rfl ?_
        refine g_getR (n := 13) dX7_readAct_240 fl_X7_53 rfl (by decide) (by decide) rfl rfl ?_
        refine g_getI (n := 5) dX7_readAct_243 fl_X7_301 rfl (by decide) (by decide) rfl ?_
        refine g_iconst (v := (-1)) dX7_readAct_246 (by decide) ?_
        refine g_icmp_eq (tgt := 254) dX7_readAct_247 (by decide) (fun c11 => ?_) (fun c11 => ?_)
        · have t := t.1 c11
          refine g_iconst (v := 0) dX7_readAct_254 (by decide) ?_
          exact g_iret (st := []) dX7_readAct_255 (fun e => by cases e) ⟨_, rfl, t⟩
        · have t := t.2 c11
          refine g_iconst (v := 1) dX7_readAct_250 (by decide) ?_
          refine g_goto (tgt := 255) dX7_readAct_251 (by decide) ?_
          exact g_iret (st := []) dX7_readAct_255 (fun e => by cases e) ⟨_, rfl, t⟩
      · have t := t.2 c10
        refine g_aload_n dX7_readAct_224 rfl ?_
        refine g_getR (n := 13) dX7_readAct_225 fl_X7_43 rfl (by decide) (by decide) rfl rfl ?_
        refine g_iconst (v := 5) dX7_readAct_228 (by decide) ?_
        refine s_V1i dX7_readAct_229 vm_X5_digit ml_X7_280 rfl rfl (by decide) (Nat.le_of_ble_eq_true rfl) rfl (tk_Ms.mono t (fun x12 S13 t => ?_))
        refine g_goto (tgt := 236) dX7_readAct_232 (by decide) ?_
        refine g_putI (n := 5) dX7_readAct_236 fl_X7_301 rfl (by decide) (by decide) rfl rfl rfl ?_
        refine g_aload_n dX7_readAct_239 rfl ?_
        refine g_getR (n := 13) dX7_readAct_240 fl_X7_53 rfl (by decide) (by decide) rfl rfl ?_
        refine g_getI (n := 5) dX7_readAct_243 fl_X7_301 rfl (by decide) (by decide) rfl ?_
        refine g_iconst (v := (-1)) dX7_readAct_246 (by decide) ?_
        refine g_icmp_eq (tgt := 254) dX7_readAct_247 (by decide) (fun c14 => ?_) (fun c14 => ?_)
        · have t := t.1 c14
          refine g_iconst (v := 0) dX7_readAct_254 (by decide) ?_
          exact g_iret (st := []) dX7_readAct_255 (fun e => by cases e) ⟨_, rfl, t⟩
        · have t := t.2 c14
          refine g_iconst (v := 1) dX7_readAct_250 (by decide) ?_
          refine g_goto (tgt := 255) dX7_readAct_251 (by decide) ?_
          exact g_iret (st := []) dX7_readAct_255 (fun e => by cases e) ⟨_, rfl, t⟩
  have t := t.2
  by_cases c15 : x1 = 110
  · have t := t.1 c15
    refine g_lookupE c15 (off := 235) (tgt := 256) dX7_readAct_21 (by decide) (by decide) (by decide) ?_
    refine g_aload_n dX7_readAct_256 rfl ?_
    refine g_getR (n := 13) dX7_readAct_257 fl_X7_43 rfl (by decide) (by decide) rfl rfl ?_
    refine g_dup dX7_readAct_260 rfl ?_
    refine g_getI (n := 3) dX7_readAct_261 fl_X7_262 rfl (by decide) (by decide) rfl ?_
    refine g_iconst (v := 1) dX7_readAct_264 (by decide) ?_
    refine g_iadd dX7_readAct_265 ?_
    refine g_putI (n := 3) dX7_readAct_266 fl_X7_262 rfl (by decide) (by decide) rfl rfl rfl ?_
    refine g_iconst (v := 1) dX7_readAct_269 (by decide) ?_
    exact g_iret (st := []) dX7_readAct_270 (fun e => by cases e) ⟨_, rfl, t⟩
  have t := t.2
  by_cases c16 : x1 = 118
  · have t := t.1 c16
    refine g_lookupE c16 (off := 43) (tgt := 64) dX7_readAct_21 (by decide) (by decide) (by decide) ?_
    refine g_aload_n dX7_readAct_64 rfl ?_
    refine g_getR (n := 13) dX7_readAct_65 fl_X7_43 rfl (by decide) (by decide) rfl rfl ?_
    refine g_dup dX7_readAct_68 rfl ?_
    refine g_getI (n := 3) dX7_readAct_69 fl_X7_262 rfl (by decide) (by decide) rfl ?_
    refine g_iconst (v := 1) dX7_readAct_72 (by decide) ?_
    refine g_iadd dX7_readAct_73 ?_
    refine g_putI (n := 3) dX7_readAct_74 fl_X7_262 rfl (by decide) (by decide) rfl rfl rfl ?_
    refine g_aload_n dX7_readAct_77 rfl ?_
    refine s_V0i dX7_readAct_78 vm_X7_readVisit ml_X7_292 rfl rfl (by decide) (Nat.le_of_ble_eq_true rfl) rfl (tk_Ms.mono t (fun x17 S18 t => ?_))
    exact g_iret (st := []) dX7_readAct_81 (fun e => by cases e) ⟨_, rfl, t⟩
  have t := t.2
  by_cases c19 : x1 = 119
  · have t := t.1 c19
    refine g_lookupE c19 (off := 61) (tgt := 82) dX7_readAct_21 (by decide) (by decide) (by decide) ?_
    refine g_aload_n dX7_readAct_82 rfl ?_
    refine g_getR (n := 13) dX7_readAct_83 fl_X7_43 rfl (by decide) (by decide) rfl rfl ?_
    refine g_dup dX7_readAct_86 rfl ?_
    refine g_getI (n := 3) dX7_readAct_87 fl_X7_262 rfl (by decide) (by decide) rfl ?_
    refine g_iconst (v := 1) dX7_readAct_90 (by decide) ?_
    refine g_iadd dX7_readAct_91 ?_
    refine g_putI (n := 3) dX7_readAct_92 fl_X7_262 rfl (by decide) (by decide) rfl rfl rfl ?_
    refine g_aload_n dX7_readAct_95 rfl ?_
    refine g_getR (n := 13) dX7_readAct_96 fl_X7_53 rfl (by decide) (by decide) rfl rfl ?_
    refine g_aload_n dX7_readAct_99 rfl ?_
    refine g_getR (n := 13) dX7_readAct_100 fl_X7_43 rfl (by decide) (by decide) rfl rfl ?_
    refine g_iconst (v := 4) dX7_readAct_103 (by decide) ?_
    refine s_V1i dX7_readAct_104 vm_X5_digit ml_X7_280 rfl rfl (by decide) (Nat.le_of_ble_eq_true rfl) rfl (tk_Ms.mono t (fun x20 S21 t => ?_))
    refine g_putI (n := 5) dX7_readAct_107 fl_X7_295 rfl (by decide) (by decide) rfl rfl rfl ?_
    refine g_aload_n dX7_readAct_110 rfl ?_
    refine g_getR (n := 13) dX7_readAct_111 fl_X7_53 rfl (by decide) (by decide) rfl rfl ?_
    refine g_aload_n dX7_readAct_114 rfl ?_
    refine g_getR (n := 13) dX7_readAct_115 fl_X7_53 rfl (by decide) (by decide) rfl rfl ?_
    refine g_getI (n := 5) dX7_readAct_118 fl_X7_295 rfl (by decide) (by decide) rfl ?_
    refine g_iconst (v := (-1)) dX7_readAct_121 (by decide) ?_
    refine g_icmp_ne (tgt := 129) dX7_readAct_122 (by decide) (fun c22 => ?_) (fun c22 => ?_)
    · have t := t.1 c22
      refine g_aload_n dX7_readAct_129 rfl ?_
      refine g_getR (n := 13) dX7_readAct_130 fl_X7_43 rfl (by decide) (by decide) rfl rfl ?_
      refine g_aload_n dX7_readAct_133 rfl ?_
      refine g_getR (n := 13) dX7_readAct_134 fl_X7_19 rfl (by decide) (by decide) rfl rfl ?_
      refine g_getI (n := 6) dX7_readAct_137 fl_X7_149 rfl (by decide) (by decide) rfl ?_
      refine s_V1i dX7_readAct_140 vm_X5_digit ml_X7_280 rfl rfl (by decide) (Nat.le_of_ble_eq_true rfl) rfl (tk_Ms.mono t (fun x23 S24 t => ?_))
      refine g_putI (n := 5) dX7_readAct_143 fl_X7_298 rfl (by decide) (by decide) rfl rfl rfl ?_
      refine g_aload_n dX7_readAct_146 rfl ?_
      refine g_getR (n := 13) dX7_readAct_147 fl_X7_53 rfl (by decide) (by decide) rfl rfl ?_
      refine g_getI (n := 5) dX7_readAct_150 fl_X7_298 rfl (by decide) (by decide) rfl ?_
      refine g_iconst (v := (-1)) dX7_readAct_153 (by decide) ?_
      refine g_icmp_eq (tgt := 161) dX7_readAct_154 (by decide) (fun c25 => ?_) (fun c25 => ?_)
      · have t := t.1 c25
        refine g_iconst (v := 0) dX7_readAct_161 (by decide) ?_
        exact g_iret (st := []) dX7_readAct_162 (fun e => by cases e) ⟨_, rfl, t⟩
      · have t := t.2 c25
        refine g_iconst (v := 1) dX7_readAct_157 (by decide) ?_
        refine g_goto (tgt := 162) dX7_readAct_158 (by decide) ?_
        exact g_iret (st := []) dX7_readAct_162 (fun e => by cases e) ⟨_, rfl, t⟩
    · have t := t.2 c22
      refine g_iconst (v := (-1)) dX7_readAct_125 (by decide) ?_
      refine g_goto (tgt := 143) dX7_readAct_126 (by decide) ?_
      refine g_putI (n := 5) dX7_readAct_143 fl_X7_298 rfl (by decide) (by decide) rfl rfl rfl ?_
      refine g_aload_n dX7_readAct_146 rfl ?_
      refine g_getR (n := 13) dX7_readAct_147 fl_X7_53 rfl (by decide) (by decide) rfl rfl ?_
      refine g_getI (n := 5) dX7_readAct_150 fl_X7_298 rfl (by decide) (by decide) rfl ?_
      refine g_iconst (v := (-1)) dX7_readAct_153 (by decide) ?_
      refine g_icmp_eq (tgt := 161) dX7_readAct_154 (by decide) (fun c26 => ?_) (fun c26 => ?_)
      · have t := t.1 c26
        refine g_iconst (v := 0) dX7_readAct_161 (by decide) ?_
        exact g_iret (st := []) dX7_readAct_162 (fun e => by cases e) ⟨_, rfl, t⟩
      · have t := t.2 c26
        refine g_iconst (v := 1) dX7_readAct_157 (by decide) ?_
        refine g_goto (tgt := 162) dX7_readAct_158 (by decide) ?_
        exact g_iret (st := []) dX7_readAct_162 (fun e => by cases e) ⟨_, rfl, t⟩
  have t := t.2
  refine g_lookup (off := 250) (tgt := 271) dX7_readAct_21 (by decide) (by exact (lv_osw c3 (by decide)).trans ((lv_osw c15 (by decide)).trans ((lv_osw c16 (by decide)).trans ((lv_osw c19 (by decide)).trans (rfl))))) (by decide) ?_
  have t := t ⟨c3, c15, c16, c19⟩
  refine g_iconst (v := 0) dX7_readAct_271 (by decide) ?_
  exact g_iret (st := []) dX7_readAct_272 (fun e => by cases e) ⟨_, rfl, t⟩
theorem w_X7_readVisit {Q : Int32 → tS → Prop} {S : tS}  (t : (tk_Ms mX5_digit [.ref 21, .int 4] S (fun x1 S2 => ((x1 = (-1) → (tk_okQ mX7_readVisit Q) 0 (tk_up S2 27 1 x1)) ∧ (¬ x1 = (-1) → (tk_Ms mX5_take [.ref 21, .int 62] (tk_up S2 27 1 x1) (fun x4 S5 => ((¬ x4 = 0 → (tk_Ms mX5_digit [.ref 21, .int 10] S5 (fun x7 S8 => ((x7 = (-1) → (tk_okQ mX7_readVisit Q) 0 (tk_up S8 27 3 x7)) ∧ (¬ x7 = (-1) → (tk_Ms mX5_take [.ref 21, .int 58] (tk_up S8 27 3 x7) (fun x10 S11 => ((¬ x10 = 0 → (tk_Ms mX5_numberUpTo [.ref 21, .int 30] S11 (fun x13 S14 => ((x13 = (-1) → (tk_okQ mX7_readVisit Q) 0 (tk_up S14 27 4 x13)) ∧ (¬ x13 = (-1) → (tk_okQ mX7_readVisit Q) 1 (tk_up S14 27 4 x13)))))) ∧ (x10 = 0 → (tk_okQ mX7_readVisit Q) 0 S11))))))))) ∧ (x4 = 0 → (tk_okQ mX7_readVisit Q) 0 S5))))))))) : tk_Ms mX7_readVisit [.ref 0] S Q := by
  refine tk_Ms.of (ls := [.ref 0]) (by decide) (by first | exact Or.inl rfl | exact Or.inr (Or.inl rfl) | exact Or.inr (Or.inr rfl)) (Nat.le_of_ble_eq_true rfl) rfl ?_
  refine g_aload_n dX7_readVisit_0 rfl ?_
  refine g_getR (n := 13) dX7_readVisit_1 fl_X7_53 rfl (by decide) (by decide) rfl rfl ?_
  refine g_aload_n dX7_readVisit_4 rfl ?_
  refine g_getR (n := 13) dX7_readVisit_5 fl_X7_43 rfl (by decide) (by decide) rfl rfl ?_
  refine g_iconst (v := 4) dX7_readVisit_8 (by decide) ?_
  refine s_V1i dX7_readVisit_9 vm_X5_digit ml_X7_280 rfl rfl (by decide) (Nat.le_of_ble_eq_true rfl) rfl (tk_Ms.mono t (fun x1 S2 t => ?_))
  refine g_putI (n := 5) dX7_readVisit_12 fl_X7_295 rfl (by decide) (by decide) rfl rfl rfl ?_
  refine g_aload_n dX7_readVisit_15 rfl ?_
  refine g_getR (n := 13) dX7_readVisit_16 fl_X7_53 rfl (by decide) (by decide) rfl rfl ?_
  refine g_getI (n := 5) dX7_readVisit_19 fl_X7_295 rfl (by decide) (by decide) rfl ?_
  refine g_iconst (v := (-1)) dX7_readVisit_22 (by decide) ?_
  refine g_icmp_eq (tgt := 38) dX7_readVisit_23 (by decide) (fun c3 => ?_) (fun c3 => ?_)
  · have t := t.1 c3
    refine g_iconst (v := 0) dX7_readVisit_38 (by decide) ?_
    exact g_iret (st := []) dX7_readVisit_39 (fun e => by cases e) ⟨_, rfl, t⟩
  · have t := t.2 c3
    refine g_aload_n dX7_readVisit_26 rfl ?_
    refine g_getR (n := 13) dX7_readVisit_27 fl_X7_43 rfl (by decide) (by decide) rfl rfl ?_
    refine g_bipush (v := 62) dX7_readVisit_30 (by decide) ?_
    refine s_V1i dX7_readVisit_32 vm_X5_take ml_X7_271 rfl rfl (by decide) (Nat.le_of_ble_eq_true rfl) rfl (tk_Ms.mono t (fun x4 S5 t => ?_))
    refine g_if_ne (tgt := 40) dX7_readVisit_35 (by decide) (fun c6 => ?_) (fun c6 => ?_)
    · have t := t.1 c6
      refine g_aload_n dX7_readVisit_40 rfl ?_
      refine g_getR (n := 13) dX7_readVisit_41 fl_X7_53 rfl (by decide) (by decide) rfl rfl ?_
      refine g_aload_n dX7_readVisit_44 rfl ?_
      refine g_getR (n := 13) dX7_readVisit_45 fl_X7_43 rfl (by decide) (by decide) rfl rfl ?_
      refine g_bipush (v := 10) dX7_readVisit_48 (by decide) ?_
      refine s_V1i dX7_readVisit_50 vm_X5_digit ml_X7_280 rfl rfl (by decide) (Nat.le_of_ble_eq_true rfl) rfl (tk_Ms.mono t (fun x7 S8 t => ?_))
      refine g_putI (n := 5) dX7_readVisit_53 fl_X7_301 rfl (by decide) (by decide) rfl rfl rfl ?_
      refine g_aload_n dX7_readVisit_56 rfl ?_
      refine g_getR (n := 13) dX7_readVisit_57 fl_X7_53 rfl (by decide) (by decide) rfl rfl ?_
      refine g_getI (n := 5) dX7_readVisit_60 fl_X7_301 rfl (by decide) (by decide) rfl ?_
      refine g_iconst (v := (-1)) dX7_readVisit_63 (by decide) ?_
      refine g_icmp_eq (tgt := 79) dX7_readVisit_64 (by decide) (fun c9 => ?_) (fun c9 => ?_)
      · have t := t.1 c9
        refine g_iconst (v := 0) dX7_readVisit_79 (by decide) ?_
        exact g_iret (st := []) dX7_readVisit_80 (fun e => by cases e) ⟨_, rfl, t⟩
      · have t := t.2 c9
        refine g_aload_n dX7_readVisit_67 rfl ?_
        refine g_getR (n := 13) dX7_readVisit_68 fl_X7_43 rfl (by decide) (by decide) rfl rfl ?_
        refine g_bipush (v := 58) dX7_readVisit_71 (by decide) ?_
        refine s_V1i dX7_readVisit_73 vm_X5_take ml_X7_271 rfl rfl (by decide) (Nat.le_of_ble_eq_true rfl) rfl (tk_Ms.mono t (fun x10 S11 t => ?_))
        refine g_if_ne (tgt := 81) dX7_readVisit_76 (by decide) (fun c12 => ?_) (fun c12 => ?_)
        · have t := t.1 c12
          refine g_aload_n dX7_readVisit_81 rfl ?_
          refine g_getR (n := 13) dX7_readVisit_82 fl_X7_53 rfl (by decide) (by decide) rfl rfl ?_
          refine g_aload_n dX7_readVisit_85 rfl ?_
          refine g_getR (n := 13) dX7_readVisit_86 fl_X7_43 rfl (by decide) (by decide) rfl rfl ?_
          refine g_bipush (v := 30) dX7_readVisit_89 (by decide) ?_
          refine s_V1i dX7_readVisit_91 vm_X5_numberUpTo ml_X7_304 rfl rfl (by decide) (Nat.le_of_ble_eq_true rfl) rfl (tk_Ms.mono t (fun x13 S14 t => ?_))
          refine g_putI (n := 5) dX7_readVisit_94 fl_X7_307 rfl (by decide) (by decide) rfl rfl rfl ?_
          refine g_aload_n dX7_readVisit_97 rfl ?_
          refine g_getR (n := 13) dX7_readVisit_98 fl_X7_53 rfl (by decide) (by decide) rfl rfl ?_
          refine g_getI (n := 5) dX7_readVisit_101 fl_X7_307 rfl (by decide) (by decide) rfl ?_
          refine g_iconst (v := (-1)) dX7_readVisit_104 (by decide) ?_
          refine g_icmp_eq (tgt := 112) dX7_readVisit_105 (by decide) (fun c15 => ?_) (fun c15 => ?_)
          · have t := t.1 c15
            refine g_iconst (v := 0) dX7_readVisit_112 (by decide) ?_
            exact g_iret (st := []) dX7_readVisit_113 (fun e => by cases e) ⟨_, rfl, t⟩
          · have t := t.2 c15
            refine g_iconst (v := 1) dX7_readVisit_108 (by decide) ?_
            refine g_goto (tgt := 113) dX7_readVisit_109 (by decide) ?_
            exact g_iret (st := []) dX7_readVisit_113 (fun e => by cases e) ⟨_, rfl, t⟩
        · have t := t.2 c12
          refine g_iconst (v := 0) dX7_readVisit_79 (by decide) ?_
          exact g_iret (st := []) dX7_readVisit_80 (fun e => by cases e) ⟨_, rfl, t⟩
    · have t := t.2 c6
      refine g_iconst (v := 0) dX7_readVisit_38 (by decide) ?_
      exact g_iret (st := []) dX7_readVisit_39 (fun e => by cases e) ⟨_, rfl, t⟩
theorem w_X7_doAct {Q : Int32 → tS → Prop} {S : tS}  (t : (((S 27 0) = 99 → (tk_Ms mX7_change [.ref 0, .int (S 27 2), .int (S 27 3)] S (fun x2 S3 => ((x2 < 0 → (tk_okQ mX7_doAct Q) 0 S3) ∧ (¬ x2 < 0 → (tk_okQ mX7_doAct Q) 1 S3))))) ∧ (((S 27 0) = 118 → (tk_Ms mX7_visit [.ref 0, .int (S 27 1), .int (S 27 3), .int (S 27 4)] S (fun x6 S7 => ((x6 < 0 → (tk_okQ mX7_doAct Q) 0 S7) ∧ (¬ x6 < 0 → (tk_okQ mX7_doAct Q) 1 S7))))) ∧ (((S 27 0) = 119 → (tk_Ms mX7_wash [.ref 0, .int (S 27 1), .int (S 27 2)] S (fun x10 S11 => ((x10 < 0 → (tk_okQ mX7_doAct Q) 0 S11) ∧ (¬ x10 < 0 → (tk_okQ mX7_doAct Q) 1 S11))))) ∧ (¬ (S 27 0) = 99 ∧ ¬ (S 27 0) = 118 ∧ ¬ (S 27 0) = 119 → (tk_Ms mX7_next [.ref 0] S (fun x13 S14 => ((x13 < 0 → (tk_okQ mX7_doAct Q) 0 S14) ∧ (¬ x13 < 0 → (tk_okQ mX7_doAct Q) 1 S14))))))))) : tk_Ms mX7_doAct [.ref 0] S Q := by
  refine tk_Ms.of (ls := [.ref 0]) (by decide) (by first | exact Or.inl rfl | exact Or.inr (Or.inl rfl) | exact Or.inr (Or.inr rfl)) (Nat.le_of_ble_eq_true rfl) rfl ?_
  refine g_aload_n dX7_doAct_0 rfl ?_
  refine g_getR (n := 13) dX7_doAct_1 fl_X7_53 rfl (by decide) (by decide) rfl rfl ?_
  refine g_getI (n := 5) dX7_doAct_4 fl_X7_289 rfl (by decide) (by decide) rfl ?_
  by_cases c1 : (S 27 0) = 99
  · have t := t.1 c1
    refine g_lookupE c1 (off := 94) (tgt := 101) dX7_doAct_7 (by decide) (by decide) (by decide) ?_
    refine g_aload_n dX7_doAct_101 rfl ?_
    refine g_aload_n dX7_doAct_102 rfl ?_
    refine g_getR (n := 13) dX7_doAct_103 fl_X7_53 rfl (by decide) (by decide) rfl rfl ?_
    refine g_getI (n := 5) dX7_doAct_106 fl_X7_298 rfl (by decide) (by decide) rfl ?_
    refine g_aload_n dX7_doAct_109 rfl ?_
    refine g_getR (n := 13) dX7_doAct_110 fl_X7_53 rfl (by decide) (by decide) rfl rfl ?_
    refine g_getI (n := 5) dX7_doAct_113 fl_X7_301 rfl (by decide) (by decide) rfl ?_
    refine s_V2i dX7_doAct_116 vm_X7_change ml_X7_315 rfl rfl (by decide) (Nat.le_of_ble_eq_true rfl) rfl (tk_Ms.mono t (fun x2 S3 t => ?_))
    refine g_if_lt (tgt := 126) dX7_doAct_119 (by decide) (fun c4 => ?_) (fun c4 => ?_)
    · have t := t.1 c4
      refine g_iconst (v := 0) dX7_doAct_126 (by decide) ?_
      exact g_iret (st := []) dX7_doAct_127 (fun e => by cases e) ⟨_, rfl, t⟩
    · have t := t.2 c4
      refine g_iconst (v := 1) dX7_doAct_122 (by decide) ?_
      refine g_goto (tgt := 127) dX7_doAct_123 (by decide) ?_
      exact g_iret (st := []) dX7_doAct_127 (fun e => by cases e) ⟨_, rfl, t⟩
  have t := t.2
  by_cases c5 : (S 27 0) = 118
  · have t := t.1 c5
    refine g_lookupE c5 (off := 33) (tgt := 40) dX7_doAct_7 (by decide) (by decide) (by decide) ?_
    refine g_aload_n dX7_doAct_40 rfl ?_
    refine g_aload_n dX7_doAct_41 rfl ?_
    refine g_getR (n := 13) dX7_doAct_42 fl_X7_53 rfl (by decide) (by decide) rfl rfl ?_
    refine g_getI (n := 5) dX7_doAct_45 fl_X7_295 rfl (by decide) (by decide) rfl ?_
    refine g_aload_n dX7_doAct_48 rfl ?_
    refine g_getR (n := 13) dX7_doAct_49 fl_X7_53 rfl (by decide) (by decide) rfl rfl ?_
    refine g_getI (n := 5) dX7_doAct_52 fl_X7_301 rfl (by decide) (by decide) rfl ?_
    refine g_aload_n dX7_doAct_55 rfl ?_
    refine g_getR (n := 13) dX7_doAct_56 fl_X7_53 rfl (by decide) (by decide) rfl rfl ?_
    refine g_getI (n := 5) dX7_doAct_59 fl_X7_307 rfl (by decide) (by decide) rfl ?_
    refine s_V3i dX7_doAct_62 vm_X7_visit ml_X7_309 rfl rfl (by decide) (Nat.le_of_ble_eq_true rfl) rfl (tk_Ms.mono t (fun x6 S7 t => ?_))
    refine g_if_lt (tgt := 72) dX7_doAct_65 (by decide) (fun c8 => ?_) (fun c8 => ?_)
    · have t := t.1 c8
      refine g_iconst (v := 0) dX7_doAct_72 (by decide) ?_
      exact g_iret (st := []) dX7_doAct_73 (fun e => by cases e) ⟨_, rfl, t⟩
    · have t := t.2 c8
      refine g_iconst (v := 1) dX7_doAct_68 (by decide) ?_
      refine g_goto (tgt := 73) dX7_doAct_69 (by decide) ?_
      exact g_iret (st := []) dX7_doAct_73 (fun e => by cases e) ⟨_, rfl, t⟩
  have t := t.2
  by_cases c9 : (S 27 0) = 119
  · have t := t.1 c9
    refine g_lookupE c9 (off := 67) (tgt := 74) dX7_doAct_7 (by decide) (by decide) (by decide) ?_
    refine g_aload_n dX7_doAct_74 rfl ?_
    refine g_aload_n dX7_doAct_75 rfl ?_
    refine g_getR (n := 13) dX7_doAct_76 fl_X7_53 rfl (by decide) (by decide) rfl rfl ?_
    refine g_getI (n := 5) dX7_doAct_79 fl_X7_295 rfl (by decide) (by decide) rfl ?_
    refine g_aload_n dX7_doAct_82 rfl ?_
    refine g_getR (n := 13) dX7_doAct_83 fl_X7_53 rfl (by decide) (by decide) rfl rfl ?_
    refine g_getI (n := 5) dX7_doAct_86 fl_X7_298 rfl (by decide) (by decide) rfl ?_
    refine s_V2i dX7_doAct_89 vm_X7_wash ml_X7_312 rfl rfl (by decide) (Nat.le_of_ble_eq_true rfl) rfl (tk_Ms.mono t (fun x10 S11 t => ?_))
    refine g_if_lt (tgt := 99) dX7_doAct_92 (by decide) (fun c12 => ?_) (fun c12 => ?_)
    · have t := t.1 c12
      refine g_iconst (v := 0) dX7_doAct_99 (by decide) ?_
      exact g_iret (st := []) dX7_doAct_100 (fun e => by cases e) ⟨_, rfl, t⟩
    · have t := t.2 c12
      refine g_iconst (v := 1) dX7_doAct_95 (by decide) ?_
      refine g_goto (tgt := 100) dX7_doAct_96 (by decide) ?_
      exact g_iret (st := []) dX7_doAct_100 (fun e => by cases e) ⟨_, rfl, t⟩
  have t := t.2
  refine g_lookup (off := 121) (tgt := 128) dX7_doAct_7 (by decide) (by exact (lv_osw c1 (by decide)).trans ((lv_osw c5 (by decide)).trans ((lv_osw c9 (by decide)).trans (rfl)))) (by decide) ?_
  have t := t ⟨c1, c5, c9⟩
  refine g_aload_n dX7_doAct_128 rfl ?_
  refine s_V0i dX7_doAct_129 vm_X7_next ml_X7_318 rfl rfl (by decide) (Nat.le_of_ble_eq_true rfl) rfl (tk_Ms.mono t (fun x13 S14 t => ?_))
  refine g_if_lt (tgt := 139) dX7_doAct_132 (by decide) (fun c15 => ?_) (fun c15 => ?_)
  · have t := t.1 c15
    refine g_iconst (v := 0) dX7_doAct_139 (by decide) ?_
    exact g_iret (st := []) dX7_doAct_140 (fun e => by cases e) ⟨_, rfl, t⟩
  · have t := t.2 c15
    refine g_iconst (v := 1) dX7_doAct_135 (by decide) ?_
    refine g_goto (tgt := 140) dX7_doAct_136 (by decide) ?_
    exact g_iret (st := []) dX7_doAct_140 (fun e => by cases e) ⟨_, rfl, t⟩
theorem w_X7_hersBy {Q : Int32 → tS → Prop} {S : tS} (p1 : Int32) (p2 : Int32) (p3 : Int32) (p4 : Int32) (t : ((p4 < p3 → (((0 : Int32) = 0 → (tk_okQ mX7_hersBy Q) (10 - p3) S) ∧ (¬ (0 : Int32) = 0 → (tk_okQ mX7_hersBy Q) 0 S))) ∧ (¬ p4 < p3 → (tk_Ms mX3_shows [.int p1, .int p2, .int (p4 - p3)] S (fun x3 S4 => ((x3 ≤ 0 → (((0 : Int32) = 0 → (tk_okQ mX7_hersBy Q) (10 - p3) S4) ∧ (¬ (0 : Int32) = 0 → (tk_okQ mX7_hersBy Q) 0 S4))) ∧ (¬ x3 ≤ 0 → (((1 : Int32) = 0 → (tk_okQ mX7_hersBy Q) (10 - p3) S4) ∧ (¬ (1 : Int32) = 0 → (tk_okQ mX7_hersBy Q) 0 S4))))))))) : tk_Ms mX7_hersBy [.int p1, .int p2, .int p3, .int p4] S Q := by
  refine tk_Ms.of (ls := [.int p1, .int p2, .int p3, .int p4, .null]) (by decide) (by first | exact Or.inl rfl | exact Or.inr (Or.inl rfl) | exact Or.inr (Or.inr rfl)) (Nat.le_of_ble_eq_true rfl) rfl ?_
  refine g_iload_n dX7_hersBy_0 rfl ?_
  refine g_iload_n dX7_hersBy_1 rfl ?_
  refine g_icmp_lt (tgt := 20) dX7_hersBy_2 (by decide) (fun c1 => ?_) (fun c1 => ?_)
  · have t := t.1 c1
    refine g_iconst (v := 0) dX7_hersBy_20 (by decide) ?_
    refine g_istore (ls' := [.int p1, .int p2, .int p3, .int p4, .int 0]) dX7_hersBy_21 rfl (by decide) rfl ?_
    refine g_iload dX7_hersBy_23 rfl ?_
    refine g_if_eq (tgt := 32) dX7_hersBy_25 (by decide) (fun c2 => ?_) (fun c2 => ?_)
    · have t := t.1 c2
      refine g_bipush (v := 10) dX7_hersBy_32 (by decide) ?_
      refine g_iload_n dX7_hersBy_34 rfl ?_
      refine g_isub dX7_hersBy_35 ?_
      exact g_iret (st := []) dX7_hersBy_36 (fun e => by cases e) ⟨_, rfl, t⟩
    · have t := t.2 c2
      refine g_iconst (v := 0) dX7_hersBy_28 (by decide) ?_
      refine g_goto (tgt := 36) dX7_hersBy_29 (by decide) ?_
      exact g_iret (st := []) dX7_hersBy_36 (fun e => by cases e) ⟨_, rfl, t⟩
  · have t := t.2 c1
    refine g_iload_n dX7_hersBy_5 rfl ?_
    refine g_iload_n dX7_hersBy_6 rfl ?_
    refine g_iload_n dX7_hersBy_7 rfl ?_
    refine g_iload_n dX7_hersBy_8 rfl ?_
    refine g_isub dX7_hersBy_9 ?_
    refine s_S3i dX7_hersBy_10 sm_X3_shows ml_X7_197 rfl (by decide) (Nat.le_of_ble_eq_true rfl) rfl (tk_Ms.mono t (fun x3 S4 t => ?_))
    refine g_if_le (tgt := 20) dX7_hersBy_13 (by decide) (fun c5 => ?_) (fun c5 => ?_)
    · have t := t.1 c5
      refine g_iconst (v := 0) dX7_hersBy_20 (by decide) ?_
      refine g_istore (ls' := [.int p1, .int p2, .int p3, .int p4, .int 0]) dX7_hersBy_21 rfl (by decide) rfl ?_
      refine g_iload dX7_hersBy_23 rfl ?_
      refine g_if_eq (tgt := 32) dX7_hersBy_25 (by decide) (fun c6 => ?_) (fun c6 => ?_)
      · have t := t.1 c6
        refine g_bipush (v := 10) dX7_hersBy_32 (by decide) ?_
        refine g_iload_n dX7_hersBy_34 rfl ?_
        refine g_isub dX7_hersBy_35 ?_
        exact g_iret (st := []) dX7_hersBy_36 (fun e => by cases e) ⟨_, rfl, t⟩
      · have t := t.2 c6
        refine g_iconst (v := 0) dX7_hersBy_28 (by decide) ?_
        refine g_goto (tgt := 36) dX7_hersBy_29 (by decide) ?_
        exact g_iret (st := []) dX7_hersBy_36 (fun e => by cases e) ⟨_, rfl, t⟩
    · have t := t.2 c5
      refine g_iconst (v := 1) dX7_hersBy_16 (by decide) ?_
      refine g_goto (tgt := 21) dX7_hersBy_17 (by decide) ?_
      refine g_istore (ls' := [.int p1, .int p2, .int p3, .int p4, .int 1]) dX7_hersBy_21 rfl (by decide) rfl ?_
      refine g_iload dX7_hersBy_23 rfl ?_
      refine g_if_eq (tgt := 32) dX7_hersBy_25 (by decide) (fun c7 => ?_) (fun c7 => ?_)
      · have t := t.1 c7
        refine g_bipush (v := 10) dX7_hersBy_32 (by decide) ?_
        refine g_iload_n dX7_hersBy_34 rfl ?_
        refine g_isub dX7_hersBy_35 ?_
        exact g_iret (st := []) dX7_hersBy_36 (fun e => by cases e) ⟨_, rfl, t⟩
      · have t := t.2 c7
        refine g_iconst (v := 0) dX7_hersBy_28 (by decide) ?_
        refine g_goto (tgt := 36) dX7_hersBy_29 (by decide) ?_
        exact g_iret (st := []) dX7_hersBy_36 (fun e => by cases e) ⟨_, rfl, t⟩
theorem w_X7_isRest {Q : Int32 → tS → Prop} {S : tS} (p1 : Int32) (p2 : Int32) (p3 : Int32) (p4 : Int32) (t : (tk_Ms mX7_hersBy [.int p1, .int p2, .int p3, .int p4] S (fun x1 S2 => tk_Gs mX7_isRest none 12 [.int p1, .int p2, .int p3, .int p4, .int x1, .int 0] [] S2 (tk_okQ mX7_isRest Q)))) : tk_Ms mX7_isRest [.int p1, .int p2, .int p3, .int p4] S Q := by
  refine tk_Ms.of (ls := [.int p1, .int p2, .int p3, .int p4, .null, .null]) (by decide) (by first | exact Or.inl rfl | exact Or.inr (Or.inl rfl) | exact Or.inr (Or.inr rfl)) (Nat.le_of_ble_eq_true rfl) rfl ?_
  refine g_iload_n dX7_isRest_0 rfl ?_
  refine g_iload_n dX7_isRest_1 rfl ?_
  refine g_iload_n dX7_isRest_2 rfl ?_
  refine g_iload_n dX7_isRest_3 rfl ?_
  refine s_S4i dX7_isRest_4 sm_X7_hersBy ml_X7_321 rfl (by decide) (Nat.le_of_ble_eq_true rfl) rfl (tk_Ms.mono t (fun x1 S2 t => ?_))
  refine g_istore (ls' := [.int p1, .int p2, .int p3, .int p4, .int x1, .null]) dX7_isRest_7 rfl (by decide) rfl ?_
  refine g_iconst (v := 0) dX7_isRest_9 (by decide) ?_
  refine g_istore (ls' := [.int p1, .int p2, .int p3, .int p4, .int x1, .int 0]) dX7_isRest_10 rfl (by decide) rfl ?_
  exact t
theorem w_X7_isRest_12 {Q : Int32 → tS → Prop} {S : tS} (l0 : Int32) (l1 : Int32) (l2 : Int32) (l3 : Int32) (l4 : Int32) (l5 : Int32)  (t : ((6 < l5 → Q 1 S) ∧ (¬ 6 < l5 → (tk_Ms mX7_hersBy [.int l0, .int l1, .int l5, .int l3] S (fun x2 S3 => ((l4 < x2 → Q 0 S3) ∧ (¬ l4 < x2 → (tk_Ms mX7_hersBy [.int l0, .int l1, .int l2, .int l5] S3 (fun x5 S6 => ((l4 ≤ x5 → tk_Gs mX7_isRest none 12 [.int l0, .int l1, .int l2, .int l3, .int l4, .int (l5 + 1)] [] S6 Q) ∧ (¬ l4 ≤ x5 → Q 0 S6))))))))))) : tk_Gs mX7_isRest none 12 [.int l0, .int l1, .int l2, .int l3, .int l4, .int l5] [] S Q := by
  show tk_G _ 0 0 _ _ _ _ (tkSH, S, tkRF) _
  refine g_iload dX7_isRest_12 rfl ?_
  refine g_bipush (v := 6) dX7_isRest_14 (by decide) ?_
  refine g_icmp_gt (tgt := 53) dX7_isRest_16 (by decide) (fun c1 => ?_) (fun c1 => ?_)
  · have t := t.1 c1
    refine g_iconst (v := 1) dX7_isRest_53 (by decide) ?_
    exact g_iret (st := []) dX7_isRest_54 (fun e => by cases e) ⟨_, rfl, t⟩
  · have t := t.2 c1
    refine g_iload_n dX7_isRest_19 rfl ?_
    refine g_iload_n dX7_isRest_20 rfl ?_
    refine g_iload dX7_isRest_21 rfl ?_
    refine g_iload_n dX7_isRest_23 rfl ?_
    refine s_S4i dX7_isRest_24 sm_X7_hersBy ml_X7_321 rfl (by decide) (Nat.le_of_ble_eq_true rfl) rfl (tk_Ms.mono t (fun x2 S3 t => ?_))
    refine g_iload dX7_isRest_27 rfl ?_
    refine g_icmp_gt (tgt := 45) dX7_isRest_29 (by decide) (fun c4 => ?_) (fun c4 => ?_)
    · have t := t.1 c4
      refine g_iconst (v := 0) dX7_isRest_45 (by decide) ?_
      exact g_iret (st := []) dX7_isRest_46 (fun e => by cases e) ⟨_, rfl, t⟩
    · have t := t.2 c4
      refine g_iload_n dX7_isRest_32 rfl ?_
      refine g_iload_n dX7_isRest_33 rfl ?_
      refine g_iload_n dX7_isRest_34 rfl ?_
      refine g_iload dX7_isRest_35 rfl ?_
      refine s_S4i dX7_isRest_37 sm_X7_hersBy ml_X7_321 rfl (by decide) (Nat.le_of_ble_eq_true rfl) rfl (tk_Ms.mono t (fun x5 S6 t => ?_))
      refine g_iload dX7_isRest_40 rfl ?_
      refine g_icmp_ge (tgt := 47) dX7_isRest_42 (by decide) (fun c7 => ?_) (fun c7 => ?_)
      · have t := t.1 c7
        refine g_iinc (v := l5 + 1) (ls' := [.int l0, .int l1, .int l2, .int l3, .int l4, .int (l5 + 1)]) dX7_isRest_47 rfl rfl (by decide) rfl rfl ?_
        refine g_goto (tgt := 12) dX7_isRest_50 (by decide) ?_
        exact t
      · have t := t.2 c7
        refine g_iconst (v := 0) dX7_isRest_45 (by decide) ?_
        exact g_iret (st := []) dX7_isRest_46 (fun e => by cases e) ⟨_, rfl, t⟩
theorem w_X7_cleanFor {Q : Int32 → tS → Prop} {S : tS} (p1 : Int32) (t : tk_Gs mX7_cleanFor none 4 [.ref 0, .int p1, .int 0, .int 0] [] S (tk_okQ mX7_cleanFor Q)) : tk_Ms mX7_cleanFor [.ref 0, .int p1] S Q := by
  refine tk_Ms.of (ls := [.ref 0, .int p1, .null, .null]) (by decide) (by first | exact Or.inl rfl | exact Or.inr (Or.inl rfl) | exact Or.inr (Or.inr rfl)) (Nat.le_of_ble_eq_true rfl) rfl ?_
  refine g_iconst (v := 0) dX7_cleanFor_0 (by decide) ?_
  refine g_istore_n (ls' := [.ref 0, .int p1, .int 0, .null]) dX7_cleanFor_1 rfl (by decide) rfl ?_
  refine g_iconst (v := 0) dX7_cleanFor_2 (by decide) ?_
  refine g_istore_n (ls' := [.ref 0, .int p1, .int 0, .int 0]) dX7_cleanFor_3 rfl (by decide) rfl ?_
  exact t
theorem w_X7_cleanFor_4 {Q : Int32 → tS → Prop} {S : tS} (l1 : Int32) (l2 : Int32) (l3 : Int32)  (t : (((S 30 0) ≤ l3 → Q l2 S) ∧ (¬ (S 30 0) ≤ l3 → (vp_in l3 6 ∧ (tk_Ms mX3_showsOn [.ref 5, .int (S 31 l3.toNatClampNeg), .int l1] S (fun x2 S3 => ((¬ x2 = 0 → tk_Gs mX7_cleanFor none 4 [.ref 0, .int l1, .int l2, .int (l3 + 1)] [] S3 Q) ∧ (x2 = 0 → tk_Gs mX7_cleanFor none 4 [.ref 0, .int l1, .int (l2 ||| (1 <<< (l3 &&& 31))), .int (l3 + 1)] [] S3 Q)))))))) : tk_Gs mX7_cleanFor none 4 [.ref 0, .int l1, .int l2, .int l3] [] S Q := by
  show tk_G _ 0 0 _ _ _ _ (tkSH, S, tkRF) _
  refine g_iload_n dX7_cleanFor_4 rfl ?_
  refine g_aload_n dX7_cleanFor_5 rfl ?_
  refine g_getR (n := 13) dX7_cleanFor_6 fl_X7_67 rfl (by decide) (by decide) rfl rfl ?_
  refine g_getI (n := 7) dX7_cleanFor_9 fl_X7_330 rfl (by decide) (by decide) rfl ?_
  refine g_icmp_ge (tgt := 47) dX7_cleanFor_12 (by decide) (fun c1 => ?_) (fun c1 => ?_)
  · have t := t.1 c1
    refine g_iload_n dX7_cleanFor_47 rfl ?_
    exact g_iret (st := []) dX7_cleanFor_48 (fun e => by cases e) ⟨_, rfl, t⟩
  · have t := t.2 c1
    refine g_aload_n dX7_cleanFor_15 rfl ?_
    refine g_getR (n := 13) dX7_cleanFor_16 fl_X7_19 rfl (by decide) (by decide) rfl rfl ?_
    refine g_aload_n dX7_cleanFor_19 rfl ?_
    refine g_getR (n := 13) dX7_cleanFor_20 fl_X7_67 rfl (by decide) (by decide) rfl rfl ?_
    refine g_getR (n := 7) dX7_cleanFor_23 fl_X7_325 rfl (by decide) (by decide) rfl rfl ?_
    refine g_iload_n dX7_cleanFor_26 rfl ?_
    refine g_iald (n := 6) dX7_cleanFor_27 rfl t.1 ?_
    have t := t.2
    refine g_iload_n dX7_cleanFor_28 rfl ?_
    refine s_V2i dX7_cleanFor_29 vm_X3_showsOn ml_X7_191 rfl rfl (by decide) (Nat.le_of_ble_eq_true rfl) rfl (tk_Ms.mono t (fun x2 S3 t => ?_))
    refine g_if_ne (tgt := 41) dX7_cleanFor_32 (by decide) (fun c4 => ?_) (fun c4 => ?_)
    · have t := t.1 c4
      refine g_iinc (v := l3 + 1) (ls' := [.ref 0, .int l1, .int l2, .int (l3 + 1)]) dX7_cleanFor_41 rfl rfl (by decide) rfl rfl ?_
      refine g_goto (tgt := 4) dX7_cleanFor_44 (by decide) ?_
      exact t
    · have t := t.2 c4
      refine g_iload_n dX7_cleanFor_35 rfl ?_
      refine g_iconst (v := 1) dX7_cleanFor_36 (by decide) ?_
      refine g_iload_n dX7_cleanFor_37 rfl ?_
      refine g_ishl dX7_cleanFor_38 ?_
      refine g_ior dX7_cleanFor_39 ?_
      refine g_istore_n (ls' := [.ref 0, .int l1, .int (l2 ||| (1 <<< (l3 &&& 31))), .int l3]) dX7_cleanFor_40 rfl (by decide) rfl ?_
      refine g_iinc (v := l3 + 1) (ls' := [.ref 0, .int l1, .int (l2 ||| (1 <<< (l3 &&& 31))), .int (l3 + 1)]) dX7_cleanFor_41 rfl rfl (by decide) rfl rfl ?_
      refine g_goto (tgt := 4) dX7_cleanFor_44 (by decide) ?_
      exact t
theorem w_X7_takeAsked_37 {Q : Int32 → tS → Prop} {S : tS} (p1 : Int32) (p2 : Int32) (t : tk_Gs mX7_takeAsked none 6 [.ref 0, .ref 37, .int p1, .int p2, .int 0, .int 0, .null, .null] [] S (tk_okQ mX7_takeAsked Q)) : tk_Ms mX7_takeAsked [.ref 0, .ref 37, .int p1, .int p2] S Q := by
  refine tk_Ms.of (ls := [.ref 0, .ref 37, .int p1, .int p2, .null, .null, .null, .null]) (by decide) (by first | exact Or.inl rfl | exact Or.inr (Or.inl rfl) | exact Or.inr (Or.inr rfl)) (Nat.le_of_ble_eq_true rfl) rfl ?_
  refine g_iconst (v := 0) dX7_takeAsked_0 (by decide) ?_
  refine g_istore (ls' := [.ref 0, .ref 37, .int p1, .int p2, .int 0, .null, .null, .null]) dX7_takeAsked_1 rfl (by decide) rfl ?_
  refine g_iconst (v := 0) dX7_takeAsked_3 (by decide) ?_
  refine g_istore (ls' := [.ref 0, .ref 37, .int p1, .int p2, .int 0, .int 0, .null, .null]) dX7_takeAsked_4 rfl (by decide) rfl ?_
  exact t
theorem w_X7_takeAsked_37_6 {Q : Int32 → tS → Prop} {S : tS} (l2 : Int32) (l3 : Int32) (l4 : Int32) (l5 : Int32)  (t : ((l3 ≤ l5 → tk_Gs mX7_takeAsked none 131 [.ref 0, .ref 37, .int l2, .int l3, .int l4, .int 0, .null, .null] [] (tk_up (tk_up S 30 0 l3) 30 1 (-1)) Q) ∧ (¬ l3 ≤ l5 → (vp_in (l2 + (2 * l5)) 24 ∧ (vp_in ((l2 + (2 * l5)) + 1) 24 ∧ (tk_Ms mX3_has [.ref 5, .int (S 38 (l2 + (2 * l5)).toNatClampNeg)] S (fun x2 S3 => ((x2 = 0 → Q 0 S3) ∧ (¬ x2 = 0 → (tk_Ms mX7_isDayAhead [.ref 0, .int (S 38 ((l2 + (2 * l5)) + 1).toNatClampNeg)] S3 (fun x5 S6 => ((x5 = 0 → Q 0 S6) ∧ (¬ x5 = 0 → ((((l4 >>> ((S 38 (l2 + (2 * l5)).toNatClampNeg) &&& 31)) &&& 1) = 0 → (vp_in l5 6 ∧ (vp_in l5 6 ∧ tk_Gs mX7_takeAsked none 6 [.ref 0, .ref 37, .int l2, .int l3, .int (l4 ||| (1 <<< ((S 38 (l2 + (2 * l5)).toNatClampNeg) &&& 31))), .int (l5 + 1), .null, .null] [] (tk_up (tk_up S6 31 l5.toNatClampNeg (S 38 (l2 + (2 * l5)).toNatClampNeg)) 32 l5.toNatClampNeg (S 38 ((l2 + (2 * l5)) + 1).toNatClampNeg)) Q))) ∧ (¬ ((l4 >>> ((S 38 (l2 + (2 * l5)).toNatClampNeg) &&& 31)) &&& 1) = 0 → Q 0 S6))))))))))))))) : tk_Gs mX7_takeAsked none 6 [.ref 0, .ref 37, .int l2, .int l3, .int l4, .int l5, .null, .null] [] S Q := by
  show tk_G _ 0 0 _ _ _ _ (tkSH, S, tkRF) _
  refine g_iload dX7_takeAsked_6 rfl ?_
  refine g_iload_n dX7_takeAsked_8 rfl ?_
  refine g_icmp_ge (tgt := 112) dX7_takeAsked_9 (by decide) (fun c1 => ?_) (fun c1 => ?_)
  · have t := t.1 c1
    refine g_aload_n dX7_takeAsked_112 rfl ?_
    refine g_getR (n := 13) dX7_takeAsked_113 fl_X7_67 rfl (by decide) (by decide) rfl rfl ?_
    refine g_iload_n dX7_takeAsked_116 rfl ?_
    refine g_putI (n := 7) dX7_takeAsked_117 fl_X7_330 rfl (by decide) (by decide) rfl rfl rfl ?_
    refine g_aload_n dX7_takeAsked_120 rfl ?_
    refine g_getR (n := 13) dX7_takeAsked_121 fl_X7_67 rfl (by decide) (by decide) rfl rfl ?_
    refine g_iconst (v := (-1)) dX7_takeAsked_124 (by decide) ?_
    refine g_putI (n := 7) dX7_takeAsked_125 fl_X7_225 rfl (by decide) (by decide) rfl rfl rfl ?_
    refine g_iconst (v := 0) dX7_takeAsked_128 (by decide) ?_
    refine g_istore (ls' := [.ref 0, .ref 37, .int l2, .int l3, .int l4, .int 0, .null, .null]) dX7_takeAsked_129 rfl (by decide) rfl ?_
    exact t
  · have t := t.2 c1
    refine g_aload_n dX7_takeAsked_12 rfl ?_
    refine g_getR (n := 3) dX7_takeAsked_13 fl_X7_248 rfl (by decide) (by decide) rfl rfl ?_
    refine g_iload_n dX7_takeAsked_16 rfl ?_
    refine g_iconst (v := 2) dX7_takeAsked_17 (by decide) ?_
    refine g_iload dX7_takeAsked_18 rfl ?_
    refine g_imul dX7_takeAsked_20 ?_
    refine g_iadd dX7_takeAsked_21 ?_
    refine g_iald (n := 24) dX7_takeAsked_22 rfl t.1 ?_
    have t := t.2
    refine g_istore (ls' := [.ref 0, .ref 37, .int l2, .int l3, .int l4, .int l5, .int (S 38 (l2 + (2 * l5)).toNatClampNeg), .null]) dX7_takeAsked_23 rfl (by decide) rfl ?_
    refine g_aload_n dX7_takeAsked_25 rfl ?_
    refine g_getR (n := 3) dX7_takeAsked_26 fl_X7_248 rfl (by decide) (by decide) rfl rfl ?_
    refine g_iload_n dX7_takeAsked_29 rfl ?_
    refine g_iconst (v := 2) dX7_takeAsked_30 (by decide) ?_
    refine g_iload dX7_takeAsked_31 rfl ?_
    refine g_imul dX7_takeAsked_33 ?_
    refine g_iadd dX7_takeAsked_34 ?_
    refine g_iconst (v := 1) dX7_takeAsked_35 (by decide) ?_
    refine g_iadd dX7_takeAsked_36 ?_
    refine g_iald (n := 24) dX7_takeAsked_37 rfl t.1 ?_
    have t := t.2
    refine g_istore (ls' := [.ref 0, .ref 37, .int l2, .int l3, .int l4, .int l5, .int (S 38 (l2 + (2 * l5)).toNatClampNeg), .int (S 38 ((l2 + (2 * l5)) + 1).toNatClampNeg)]) dX7_takeAsked_38 rfl (by decide) rfl ?_
    refine g_aload_n dX7_takeAsked_40 rfl ?_
    refine g_getR (n := 13) dX7_takeAsked_41 fl_X7_19 rfl (by decide) (by decide) rfl rfl ?_
    refine g_iload dX7_takeAsked_44 rfl ?_
    refine s_V1i dX7_takeAsked_46 vm_X3_has ml_X7_96 rfl rfl (by decide) (Nat.le_of_ble_eq_true rfl) rfl (tk_Ms.mono t (fun x2 S3 t => ?_))
    refine g_if_eq (tgt := 71) dX7_takeAsked_49 (by decide) (fun c4 => ?_) (fun c4 => ?_)
    · have t := t.1 c4
      refine g_iconst (v := 0) dX7_takeAsked_71 (by decide) ?_
      exact g_iret (st := []) dX7_takeAsked_72 (fun e => by cases e) ⟨_, rfl, t⟩
    · have t := t.2 c4
      refine g_aload_n dX7_takeAsked_52 rfl ?_
      refine g_iload dX7_takeAsked_53 rfl ?_
      refine s_V1i dX7_takeAsked_55 vm_X7_isDayAhead ml_X7_188 rfl rfl (by decide) (Nat.le_of_ble_eq_true rfl) rfl (tk_Ms.mono t (fun x5 S6 t => ?_))
      refine g_if_eq (tgt := 71) dX7_takeAsked_58 (by decide) (fun c7 => ?_) (fun c7 => ?_)
      · have t := t.1 c7
        refine g_iconst (v := 0) dX7_takeAsked_71 (by decide) ?_
        exact g_iret (st := []) dX7_takeAsked_72 (fun e => by cases e) ⟨_, rfl, t⟩
      · have t := t.2 c7
        refine g_iload dX7_takeAsked_61 rfl ?_
        refine g_iload dX7_takeAsked_63 rfl ?_
        refine g_ishr dX7_takeAsked_65 ?_
        refine g_iconst (v := 1) dX7_takeAsked_66 (by decide) ?_
        refine g_iand dX7_takeAsked_67 ?_
        refine g_if_eq (tgt := 73) dX7_takeAsked_68 (by decide) (fun c8 => ?_) (fun c8 => ?_)
        · have t := t.1 c8
          refine g_iload dX7_takeAsked_73 rfl ?_
          refine g_iconst (v := 1) dX7_takeAsked_75 (by decide) ?_
          refine g_iload dX7_takeAsked_76 rfl ?_
          refine g_ishl dX7_takeAsked_78 ?_
          refine g_ior dX7_takeAsked_79 ?_
          refine g_istore (ls' := [.ref 0, .ref 37, .int l2, .int l3, .int (l4 ||| (1 <<< ((S 38 (l2 + (2 * l5)).toNatClampNeg) &&& 31))), .int l5, .int (S 38 (l2 + (2 * l5)).toNatClampNeg), .int (S 38 ((l2 + (2 * l5)) + 1).toNatClampNeg)]) dX7_takeAsked_80 rfl (by decide) rfl ?_
          refine g_aload_n dX7_takeAsked_82 rfl ?_
          refine g_getR (n := 13) dX7_takeAsked_83 fl_X7_67 rfl (by decide) (by decide) rfl rfl ?_
          refine g_getR (n := 7) dX7_takeAsked_86 fl_X7_325 rfl (by decide) (by decide) rfl rfl ?_
          refine g_iload dX7_takeAsked_89 rfl ?_
          refine g_iload dX7_takeAsked_91 rfl ?_
          refine g_iast (n := 6) dX7_takeAsked_93 rfl t.1 ?_
          have t := t.2
          refine g_aload_n dX7_takeAsked_94 rfl ?_
          refine g_getR (n := 13) dX7_takeAsked_95 fl_X7_67 rfl (by decide) (by decide) rfl rfl ?_
          refine g_getR (n := 7) dX7_takeAsked_98 fl_X7_327 rfl (by decide) (by decide) rfl rfl ?_
          refine g_iload dX7_takeAsked_101 rfl ?_
          refine g_iload dX7_takeAsked_103 rfl ?_
          refine g_iast (n := 6) dX7_takeAsked_105 rfl t.1 ?_
          have t := t.2
          refine g_iinc (v := l5 + 1) (ls' := [.ref 0, .ref 37, .int l2, .int l3, .int (l4 ||| (1 <<< ((S 38 (l2 + (2 * l5)).toNatClampNeg) &&& 31))), .int (l5 + 1), .int (S 38 (l2 + (2 * l5)).toNatClampNeg), .int (S 38 ((l2 + (2 * l5)) + 1).toNatClampNeg)]) dX7_takeAsked_106 rfl rfl (by decide) rfl rfl ?_
          refine g_goto (tgt := 6) dX7_takeAsked_109 (by decide) ?_
          refine g_drop (ls' := [.ref 0, .ref 37, .int l2, .int l3, .int (l4 ||| (1 <<< ((S 38 (l2 + (2 * l5)).toNatClampNeg) &&& 31))), .int (l5 + 1), .null, .null]) ⟨Or.inl rfl, Or.inl rfl, Or.inl rfl, Or.inl rfl, Or.inl rfl, Or.inl rfl, Or.inr rfl, Or.inr rfl, trivial⟩ ?_
          exact t
        · have t := t.2 c8
          refine g_iconst (v := 0) dX7_takeAsked_71 (by decide) ?_
          exact g_iret (st := []) dX7_takeAsked_72 (fun e => by cases e) ⟨_, rfl, t⟩
theorem w_X7_takeAsked_37_131 {Q : Int32 → tS → Prop} {S : tS} (l2 : Int32) (l3 : Int32) (l4 : Int32) (l5 : Int32)  (t : ((l3 ≤ l5 → Q 1 S) ∧ (¬ l3 ≤ l5 → (vp_in l5 6 ∧ (tk_Ms mX7_cleanFor [.ref 0, .int (S 32 l5.toNatClampNeg)] S (fun x2 S3 => (vp_in l5 6 ∧ tk_Gs mX7_takeAsked none 131 [.ref 0, .ref 37, .int l2, .int l3, .int l4, .int (l5 + 1), .null, .null] [] (tk_up S3 33 l5.toNatClampNeg x2) Q))))))) : tk_Gs mX7_takeAsked none 131 [.ref 0, .ref 37, .int l2, .int l3, .int l4, .int l5, .null, .null] [] S Q := by
  show tk_G _ 0 0 _ _ _ _ (tkSH, S, tkRF) _
  refine g_iload dX7_takeAsked_131 rfl ?_
  refine g_iload_n dX7_takeAsked_133 rfl ?_
  refine g_icmp_ge (tgt := 167) dX7_takeAsked_134 (by decide) (fun c1 => ?_) (fun c1 => ?_)
  · have t := t.1 c1
    refine g_iconst (v := 1) dX7_takeAsked_167 (by decide) ?_
    exact g_iret (st := []) dX7_takeAsked_168 (fun e => by cases e) ⟨_, rfl, t⟩
  · have t := t.2 c1
    refine g_aload_n dX7_takeAsked_137 rfl ?_
    refine g_getR (n := 13) dX7_takeAsked_138 fl_X7_67 rfl (by decide) (by decide) rfl rfl ?_
    refine g_getR (n := 7) dX7_takeAsked_141 fl_X7_331 rfl (by decide) (by decide) rfl rfl ?_
    refine g_iload dX7_takeAsked_144 rfl ?_
    refine g_aload_n dX7_takeAsked_146 rfl ?_
    refine g_aload_n dX7_takeAsked_147 rfl ?_
    refine g_getR (n := 13) dX7_takeAsked_148 fl_X7_67 rfl (by decide) (by decide) rfl rfl ?_
    refine g_getR (n := 7) dX7_takeAsked_151 fl_X7_327 rfl (by decide) (by decide) rfl rfl ?_
    refine g_iload dX7_takeAsked_154 rfl ?_
    refine g_iald (n := 6) dX7_takeAsked_156 rfl t.1 ?_
    have t := t.2
    refine s_V1i dX7_takeAsked_157 vm_X7_cleanFor ml_X7_334 rfl rfl (by decide) (Nat.le_of_ble_eq_true rfl) rfl (tk_Ms.mono t (fun x2 S3 t => ?_))
    refine g_iast (n := 6) dX7_takeAsked_160 rfl t.1 ?_
    have t := t.2
    refine g_iinc (v := l5 + 1) (ls' := [.ref 0, .ref 37, .int l2, .int l3, .int l4, .int (l5 + 1), .null, .null]) dX7_takeAsked_161 rfl rfl (by decide) rfl rfl ?_
    refine g_goto (tgt := 131) dX7_takeAsked_164 (by decide) ?_
    exact t
theorem w_X7_takeAsked_39 {Q : Int32 → tS → Prop} {S : tS} (p1 : Int32) (p2 : Int32) (t : tk_Gs mX7_takeAsked none 6 [.ref 0, .ref 39, .int p1, .int p2, .int 0, .int 0, .null, .null] [] S (tk_okQ mX7_takeAsked Q)) : tk_Ms mX7_takeAsked [.ref 0, .ref 39, .int p1, .int p2] S Q := by
  refine tk_Ms.of (ls := [.ref 0, .ref 39, .int p1, .int p2, .null, .null, .null, .null]) (by decide) (by first | exact Or.inl rfl | exact Or.inr (Or.inl rfl) | exact Or.inr (Or.inr rfl)) (Nat.le_of_ble_eq_true rfl) rfl ?_
  refine g_iconst (v := 0) dX7_takeAsked_0 (by decide) ?_
  refine g_istore (ls' := [.ref 0, .ref 39, .int p1, .int p2, .int 0, .null, .null, .null]) dX7_takeAsked_1 rfl (by decide) rfl ?_
  refine g_iconst (v := 0) dX7_takeAsked_3 (by decide) ?_
  refine g_istore (ls' := [.ref 0, .ref 39, .int p1, .int p2, .int 0, .int 0, .null, .null]) dX7_takeAsked_4 rfl (by decide) rfl ?_
  exact t
theorem w_X7_takeAsked_39_6 {Q : Int32 → tS → Prop} {S : tS} (l2 : Int32) (l3 : Int32) (l4 : Int32) (l5 : Int32)  (t : ((l3 ≤ l5 → tk_Gs mX7_takeAsked none 131 [.ref 0, .ref 39, .int l2, .int l3, .int l4, .int 0, .null, .null] [] (tk_up (tk_up S 30 0 l3) 30 1 (-1)) Q) ∧ (¬ l3 ≤ l5 → (vp_in (l2 + (2 * l5)) 24 ∧ (vp_in ((l2 + (2 * l5)) + 1) 24 ∧ (tk_Ms mX3_has [.ref 5, .int (S 40 (l2 + (2 * l5)).toNatClampNeg)] S (fun x2 S3 => ((x2 = 0 → Q 0 S3) ∧ (¬ x2 = 0 → (tk_Ms mX7_isDayAhead [.ref 0, .int (S 40 ((l2 + (2 * l5)) + 1).toNatClampNeg)] S3 (fun x5 S6 => ((x5 = 0 → Q 0 S6) ∧ (¬ x5 = 0 → ((((l4 >>> ((S 40 (l2 + (2 * l5)).toNatClampNeg) &&& 31)) &&& 1) = 0 → (vp_in l5 6 ∧ (vp_in l5 6 ∧ tk_Gs mX7_takeAsked none 6 [.ref 0, .ref 39, .int l2, .int l3, .int (l4 ||| (1 <<< ((S 40 (l2 + (2 * l5)).toNatClampNeg) &&& 31))), .int (l5 + 1), .null, .null] [] (tk_up (tk_up S6 31 l5.toNatClampNeg (S 40 (l2 + (2 * l5)).toNatClampNeg)) 32 l5.toNatClampNeg (S 40 ((l2 + (2 * l5)) + 1).toNatClampNeg)) Q))) ∧ (¬ ((l4 >>> ((S 40 (l2 + (2 * l5)).toNatClampNeg) &&& 31)) &&& 1) = 0 → Q 0 S6))))))))))))))) : tk_Gs mX7_takeAsked none 6 [.ref 0, .ref 39, .int l2, .int l3, .int l4, .int l5, .null, .null] [] S Q := by
  show tk_G _ 0 0 _ _ _ _ (tkSH, S, tkRF) _
  refine g_iload dX7_takeAsked_6 rfl ?_
  refine g_iload_n dX7_takeAsked_8 rfl ?_
  refine g_icmp_ge (tgt := 112) dX7_takeAsked_9 (by decide) (fun c1 => ?_) (fun c1 => ?_)
  · have t := t.1 c1
    refine g_aload_n dX7_takeAsked_112 rfl ?_
    refine g_getR (n := 13) dX7_takeAsked_113 fl_X7_67 rfl (by decide) (by decide) rfl rfl ?_
    refine g_iload_n dX7_takeAsked_116 rfl ?_
    refine g_putI (n := 7) dX7_takeAsked_117 fl_X7_330 rfl (by decide) (by decide) rfl rfl rfl ?_
    refine g_aload_n dX7_takeAsked_120 rfl ?_
    refine g_getR (n := 13) dX7_takeAsked_121 fl_X7_67 rfl (by decide) (by decide) rfl rfl ?_
    refine g_iconst (v := (-1)) dX7_takeAsked_124 (by decide) ?_
    refine g_putI (n := 7) dX7_takeAsked_125 fl_X7_225 rfl (by decide) (by decide) rfl rfl rfl ?_
    refine g_iconst (v := 0) dX7_takeAsked_128 (by decide) ?_
    refine g_istore (ls' := [.ref 0, .ref 39, .int l2, .int l3, .int l4, .int 0, .null, .null]) dX7_takeAsked_129 rfl (by decide) rfl ?_
    exact t
  · have t := t.2 c1
    refine g_aload_n dX7_takeAsked_12 rfl ?_
    refine g_getR (n := 3) dX7_takeAsked_13 fl_X7_248 rfl (by decide) (by decide) rfl rfl ?_
    refine g_iload_n dX7_takeAsked_16 rfl ?_
    refine g_iconst (v := 2) dX7_takeAsked_17 (by decide) ?_
    refine g_iload dX7_takeAsked_18 rfl ?_
    refine g_imul dX7_takeAsked_20 ?_
    refine g_iadd dX7_takeAsked_21 ?_
    refine g_iald (n := 24) dX7_takeAsked_22 rfl t.1 ?_
    have t := t.2
    refine g_istore (ls' := [.ref 0, .ref 39, .int l2, .int l3, .int l4, .int l5, .int (S 40 (l2 + (2 * l5)).toNatClampNeg), .null]) dX7_takeAsked_23 rfl (by decide) rfl ?_
    refine g_aload_n dX7_takeAsked_25 rfl ?_
    refine g_getR (n := 3) dX7_takeAsked_26 fl_X7_248 rfl (by decide) (by decide) rfl rfl ?_
    refine g_iload_n dX7_takeAsked_29 rfl ?_
    refine g_iconst (v := 2) dX7_takeAsked_30 (by decide) ?_
    refine g_iload dX7_takeAsked_31 rfl ?_
    refine g_imul dX7_takeAsked_33 ?_
    refine g_iadd dX7_takeAsked_34 ?_
    refine g_iconst (v := 1) dX7_takeAsked_35 (by decide) ?_
    refine g_iadd dX7_takeAsked_36 ?_
    refine g_iald (n := 24) dX7_takeAsked_37 rfl t.1 ?_
    have t := t.2
    refine g_istore (ls' := [.ref 0, .ref 39, .int l2, .int l3, .int l4, .int l5, .int (S 40 (l2 + (2 * l5)).toNatClampNeg), .int (S 40 ((l2 + (2 * l5)) + 1).toNatClampNeg)]) dX7_takeAsked_38 rfl (by decide) rfl ?_
    refine g_aload_n dX7_takeAsked_40 rfl ?_
    refine g_getR (n := 13) dX7_takeAsked_41 fl_X7_19 rfl (by decide) (by decide) rfl rfl ?_
    refine g_iload dX7_takeAsked_44 rfl ?_
    refine s_V1i dX7_takeAsked_46 vm_X3_has ml_X7_96 rfl rfl (by decide) (Nat.le_of_ble_eq_true rfl) rfl (tk_Ms.mono t (fun x2 S3 t => ?_))
    refine g_if_eq (tgt := 71) dX7_takeAsked_49 (by decide) (fun c4 => ?_) (fun c4 => ?_)
    · have t := t.1 c4
      refine g_iconst (v := 0) dX7_takeAsked_71 (by decide) ?_
      exact g_iret (st := []) dX7_takeAsked_72 (fun e => by cases e) ⟨_, rfl, t⟩
    · have t := t.2 c4
      refine g_aload_n dX7_takeAsked_52 rfl ?_
      refine g_iload dX7_takeAsked_53 rfl ?_
      refine s_V1i dX7_takeAsked_55 vm_X7_isDayAhead ml_X7_188 rfl rfl (by decide) (Nat.le_of_ble_eq_true rfl) rfl (tk_Ms.mono t (fun x5 S6 t => ?_))
      refine g_if_eq (tgt := 71) dX7_takeAsked_58 (by decide) (fun c7 => ?_) (fun c7 => ?_)
      · have t := t.1 c7
        refine g_iconst (v := 0) dX7_takeAsked_71 (by decide) ?_
        exact g_iret (st := []) dX7_takeAsked_72 (fun e => by cases e) ⟨_, rfl, t⟩
      · have t := t.2 c7
        refine g_iload dX7_takeAsked_61 rfl ?_
        refine g_iload dX7_takeAsked_63 rfl ?_
        refine g_ishr dX7_takeAsked_65 ?_
        refine g_iconst (v := 1) dX7_takeAsked_66 (by decide) ?_
        refine g_iand dX7_takeAsked_67 ?_
        refine g_if_eq (tgt := 73) dX7_takeAsked_68 (by decide) (fun c8 => ?_) (fun c8 => ?_)
        · have t := t.1 c8
          refine g_iload dX7_takeAsked_73 rfl ?_
          refine g_iconst (v := 1) dX7_takeAsked_75 (by decide) ?_
          refine g_iload dX7_takeAsked_76 rfl ?_
          refine g_ishl dX7_takeAsked_78 ?_
          refine g_ior dX7_takeAsked_79 ?_
          refine g_istore (ls' := [.ref 0, .ref 39, .int l2, .int l3, .int (l4 ||| (1 <<< ((S 40 (l2 + (2 * l5)).toNatClampNeg) &&& 31))), .int l5, .int (S 40 (l2 + (2 * l5)).toNatClampNeg), .int (S 40 ((l2 + (2 * l5)) + 1).toNatClampNeg)]) dX7_takeAsked_80 rfl (by decide) rfl ?_
          refine g_aload_n dX7_takeAsked_82 rfl ?_
          refine g_getR (n := 13) dX7_takeAsked_83 fl_X7_67 rfl (by decide) (by decide) rfl rfl ?_
          refine g_getR (n := 7) dX7_takeAsked_86 fl_X7_325 rfl (by decide) (by decide) rfl rfl ?_
          refine g_iload dX7_takeAsked_89 rfl ?_
          refine g_iload dX7_takeAsked_91 rfl ?_
          refine g_iast (n := 6) dX7_takeAsked_93 rfl t.1 ?_
          have t := t.2
          refine g_aload_n dX7_takeAsked_94 rfl ?_
          refine g_getR (n := 13) dX7_takeAsked_95 fl_X7_67 rfl (by decide) (by decide) rfl rfl ?_
          refine g_getR (n := 7) dX7_takeAsked_98 fl_X7_327 rfl (by decide) (by decide) rfl rfl ?_
          refine g_iload dX7_takeAsked_101 rfl ?_
          refine g_iload dX7_takeAsked_103 rfl ?_
          refine g_iast (n := 6) dX7_takeAsked_105 rfl t.1 ?_
          have t := t.2
          refine g_iinc (v := l5 + 1) (ls' := [.ref 0, .ref 39, .int l2, .int l3, .int (l4 ||| (1 <<< ((S 40 (l2 + (2 * l5)).toNatClampNeg) &&& 31))), .int (l5 + 1), .int (S 40 (l2 + (2 * l5)).toNatClampNeg), .int (S 40 ((l2 + (2 * l5)) + 1).toNatClampNeg)]) dX7_takeAsked_106 rfl rfl (by decide) rfl rfl ?_
          refine g_goto (tgt := 6) dX7_takeAsked_109 (by decide) ?_
          refine g_drop (ls' := [.ref 0, .ref 39, .int l2, .int l3, .int (l4 ||| (1 <<< ((S 40 (l2 + (2 * l5)).toNatClampNeg) &&& 31))), .int (l5 + 1), .null, .null]) ⟨Or.inl rfl, Or.inl rfl, Or.inl rfl, Or.inl rfl, Or.inl rfl, Or.inl rfl, Or.inr rfl, Or.inr rfl, trivial⟩ ?_
          exact t
        · have t := t.2 c8
          refine g_iconst (v := 0) dX7_takeAsked_71 (by decide) ?_
          exact g_iret (st := []) dX7_takeAsked_72 (fun e => by cases e) ⟨_, rfl, t⟩
theorem w_X7_takeAsked_39_131 {Q : Int32 → tS → Prop} {S : tS} (l2 : Int32) (l3 : Int32) (l4 : Int32) (l5 : Int32)  (t : ((l3 ≤ l5 → Q 1 S) ∧ (¬ l3 ≤ l5 → (vp_in l5 6 ∧ (tk_Ms mX7_cleanFor [.ref 0, .int (S 32 l5.toNatClampNeg)] S (fun x2 S3 => (vp_in l5 6 ∧ tk_Gs mX7_takeAsked none 131 [.ref 0, .ref 39, .int l2, .int l3, .int l4, .int (l5 + 1), .null, .null] [] (tk_up S3 33 l5.toNatClampNeg x2) Q))))))) : tk_Gs mX7_takeAsked none 131 [.ref 0, .ref 39, .int l2, .int l3, .int l4, .int l5, .null, .null] [] S Q := by
  show tk_G _ 0 0 _ _ _ _ (tkSH, S, tkRF) _
  refine g_iload dX7_takeAsked_131 rfl ?_
  refine g_iload_n dX7_takeAsked_133 rfl ?_
  refine g_icmp_ge (tgt := 167) dX7_takeAsked_134 (by decide) (fun c1 => ?_) (fun c1 => ?_)
  · have t := t.1 c1
    refine g_iconst (v := 1) dX7_takeAsked_167 (by decide) ?_
    exact g_iret (st := []) dX7_takeAsked_168 (fun e => by cases e) ⟨_, rfl, t⟩
  · have t := t.2 c1
    refine g_aload_n dX7_takeAsked_137 rfl ?_
    refine g_getR (n := 13) dX7_takeAsked_138 fl_X7_67 rfl (by decide) (by decide) rfl rfl ?_
    refine g_getR (n := 7) dX7_takeAsked_141 fl_X7_331 rfl (by decide) (by decide) rfl rfl ?_
    refine g_iload dX7_takeAsked_144 rfl ?_
    refine g_aload_n dX7_takeAsked_146 rfl ?_
    refine g_aload_n dX7_takeAsked_147 rfl ?_
    refine g_getR (n := 13) dX7_takeAsked_148 fl_X7_67 rfl (by decide) (by decide) rfl rfl ?_
    refine g_getR (n := 7) dX7_takeAsked_151 fl_X7_327 rfl (by decide) (by decide) rfl rfl ?_
    refine g_iload dX7_takeAsked_154 rfl ?_
    refine g_iald (n := 6) dX7_takeAsked_156 rfl t.1 ?_
    have t := t.2
    refine s_V1i dX7_takeAsked_157 vm_X7_cleanFor ml_X7_334 rfl rfl (by decide) (Nat.le_of_ble_eq_true rfl) rfl (tk_Ms.mono t (fun x2 S3 t => ?_))
    refine g_iast (n := 6) dX7_takeAsked_160 rfl t.1 ?_
    have t := t.2
    refine g_iinc (v := l5 + 1) (ls' := [.ref 0, .ref 39, .int l2, .int l3, .int l4, .int (l5 + 1), .null, .null]) dX7_takeAsked_161 rfl rfl (by decide) rfl rfl ?_
    refine g_goto (tgt := 131) dX7_takeAsked_164 (by decide) ?_
    exact t
theorem w_X7_takeAsked_41 {Q : Int32 → tS → Prop} {S : tS} (p1 : Int32) (p2 : Int32) (t : tk_Gs mX7_takeAsked none 6 [.ref 0, .ref 41, .int p1, .int p2, .int 0, .int 0, .null, .null] [] S (tk_okQ mX7_takeAsked Q)) : tk_Ms mX7_takeAsked [.ref 0, .ref 41, .int p1, .int p2] S Q := by
  refine tk_Ms.of (ls := [.ref 0, .ref 41, .int p1, .int p2, .null, .null, .null, .null]) (by decide) (by first | exact Or.inl rfl | exact Or.inr (Or.inl rfl) | exact Or.inr (Or.inr rfl)) (Nat.le_of_ble_eq_true rfl) rfl ?_
  refine g_iconst (v := 0) dX7_takeAsked_0 (by decide) ?_
  refine g_istore (ls' := [.ref 0, .ref 41, .int p1, .int p2, .int 0, .null, .null, .null]) dX7_takeAsked_1 rfl (by decide) rfl ?_
  refine g_iconst (v := 0) dX7_takeAsked_3 (by decide) ?_
  refine g_istore (ls' := [.ref 0, .ref 41, .int p1, .int p2, .int 0, .int 0, .null, .null]) dX7_takeAsked_4 rfl (by decide) rfl ?_
  exact t
theorem w_X7_takeAsked_41_6 {Q : Int32 → tS → Prop} {S : tS} (l2 : Int32) (l3 : Int32) (l4 : Int32) (l5 : Int32)  (t : ((l3 ≤ l5 → tk_Gs mX7_takeAsked none 131 [.ref 0, .ref 41, .int l2, .int l3, .int l4, .int 0, .null, .null] [] (tk_up (tk_up S 30 0 l3) 30 1 (-1)) Q) ∧ (¬ l3 ≤ l5 → (vp_in (l2 + (2 * l5)) 24 ∧ (vp_in ((l2 + (2 * l5)) + 1) 24 ∧ (tk_Ms mX3_has [.ref 5, .int (S 42 (l2 + (2 * l5)).toNatClampNeg)] S (fun x2 S3 => ((x2 = 0 → Q 0 S3) ∧ (¬ x2 = 0 → (tk_Ms mX7_isDayAhead [.ref 0, .int (S 42 ((l2 + (2 * l5)) + 1).toNatClampNeg)] S3 (fun x5 S6 => ((x5 = 0 → Q 0 S6) ∧ (¬ x5 = 0 → ((((l4 >>> ((S 42 (l2 + (2 * l5)).toNatClampNeg) &&& 31)) &&& 1) = 0 → (vp_in l5 6 ∧ (vp_in l5 6 ∧ tk_Gs mX7_takeAsked none 6 [.ref 0, .ref 41, .int l2, .int l3, .int (l4 ||| (1 <<< ((S 42 (l2 + (2 * l5)).toNatClampNeg) &&& 31))), .int (l5 + 1), .null, .null] [] (tk_up (tk_up S6 31 l5.toNatClampNeg (S 42 (l2 + (2 * l5)).toNatClampNeg)) 32 l5.toNatClampNeg (S 42 ((l2 + (2 * l5)) + 1).toNatClampNeg)) Q))) ∧ (¬ ((l4 >>> ((S 42 (l2 + (2 * l5)).toNatClampNeg) &&& 31)) &&& 1) = 0 → Q 0 S6))))))))))))))) : tk_Gs mX7_takeAsked none 6 [.ref 0, .ref 41, .int l2, .int l3, .int l4, .int l5, .null, .null] [] S Q := by
  show tk_G _ 0 0 _ _ _ _ (tkSH, S, tkRF) _
  refine g_iload dX7_takeAsked_6 rfl ?_
  refine g_iload_n dX7_takeAsked_8 rfl ?_
  refine g_icmp_ge (tgt := 112) dX7_takeAsked_9 (by decide) (fun c1 => ?_) (fun c1 => ?_)
  · have t := t.1 c1
    refine g_aload_n dX7_takeAsked_112 rfl ?_
    refine g_getR (n := 13) dX7_takeAsked_113 fl_X7_67 rfl (by decide) (by decide) rfl rfl ?_
    refine g_iload_n dX7_takeAsked_116 rfl ?_
    refine g_putI (n := 7) dX7_takeAsked_117 fl_X7_330 rfl (by decide) (by decide) rfl rfl rfl ?_
    refine g_aload_n dX7_takeAsked_120 rfl ?_
    refine g_getR (n := 13) dX7_takeAsked_121 fl_X7_67 rfl (by decide) (by decide) rfl rfl ?_
    refine g_iconst (v := (-1)) dX7_takeAsked_124 (by decide) ?_
    refine g_putI (n := 7) dX7_takeAsked_125 fl_X7_225 rfl (by decide) (by decide) rfl rfl rfl ?_
    refine g_iconst (v := 0) dX7_takeAsked_128 (by decide) ?_
    refine g_istore (ls' := [.ref 0, .ref 41, .int l2, .int l3, .int l4, .int 0, .null, .null]) dX7_takeAsked_129 rfl (by decide) rfl ?_
    exact t
  · have t := t.2 c1
    refine g_aload_n dX7_takeAsked_12 rfl ?_
    refine g_getR (n := 3) dX7_takeAsked_13 fl_X7_248 rfl (by decide) (by decide) rfl rfl ?_
    refine g_iload_n dX7_takeAsked_16 rfl ?_
    refine g_iconst (v := 2) dX7_takeAsked_17 (by decide) ?_
    refine g_iload dX7_takeAsked_18 rfl ?_
    refine g_imul dX7_takeAsked_20 ?_
    refine g_iadd dX7_takeAsked_21 ?_
    refine g_iald (n := 24) dX7_takeAsked_22 rfl t.1 ?_
    have t := t.2
    refine g_istore (ls' := [.ref 0, .ref 41, .int l2, .int l3, .int l4, .int l5, .int (S 42 (l2 + (2 * l5)).toNatClampNeg), .null]) dX7_takeAsked_23 rfl (by decide) rfl ?_
    refine g_aload_n dX7_takeAsked_25 rfl ?_
    refine g_getR (n := 3) dX7_takeAsked_26 fl_X7_248 rfl (by decide) (by decide) rfl rfl ?_
    refine g_iload_n dX7_takeAsked_29 rfl ?_
    refine g_iconst (v := 2) dX7_takeAsked_30 (by decide) ?_
    refine g_iload dX7_takeAsked_31 rfl ?_
    refine g_imul dX7_takeAsked_33 ?_
    refine g_iadd dX7_takeAsked_34 ?_
    refine g_iconst (v := 1) dX7_takeAsked_35 (by decide) ?_
    refine g_iadd dX7_takeAsked_36 ?_
    refine g_iald (n := 24) dX7_takeAsked_37 rfl t.1 ?_
    have t := t.2
    refine g_istore (ls' := [.ref 0, .ref 41, .int l2, .int l3, .int l4, .int l5, .int (S 42 (l2 + (2 * l5)).toNatClampNeg), .int (S 42 ((l2 + (2 * l5)) + 1).toNatClampNeg)]) dX7_takeAsked_38 rfl (by decide) rfl ?_
    refine g_aload_n dX7_takeAsked_40 rfl ?_
    refine g_getR (n := 13) dX7_takeAsked_41 fl_X7_19 rfl (by decide) (by decide) rfl rfl ?_
    refine g_iload dX7_takeAsked_44 rfl ?_
    refine s_V1i dX7_takeAsked_46 vm_X3_has ml_X7_96 rfl rfl (by decide) (Nat.le_of_ble_eq_true rfl) rfl (tk_Ms.mono t (fun x2 S3 t => ?_))
    refine g_if_eq (tgt := 71) dX7_takeAsked_49 (by decide) (fun c4 => ?_) (fun c4 => ?_)
    · have t := t.1 c4
      refine g_iconst (v := 0) dX7_takeAsked_71 (by decide) ?_
      exact g_iret (st := []) dX7_takeAsked_72 (fun e => by cases e) ⟨_, rfl, t⟩
    · have t := t.2 c4
      refine g_aload_n dX7_takeAsked_52 rfl ?_
      refine g_iload dX7_takeAsked_53 rfl ?_
      refine s_V1i dX7_takeAsked_55 vm_X7_isDayAhead ml_X7_188 rfl rfl (by decide) (Nat.le_of_ble_eq_true rfl) rfl (tk_Ms.mono t (fun x5 S6 t => ?_))
      refine g_if_eq (tgt := 71) dX7_takeAsked_58 (by decide) (fun c7 => ?_) (fun c7 => ?_)
      · have t := t.1 c7
        refine g_iconst (v := 0) dX7_takeAsked_71 (by decide) ?_
        exact g_iret (st := []) dX7_takeAsked_72 (fun e => by cases e) ⟨_, rfl, t⟩
      · have t := t.2 c7
        refine g_iload dX7_takeAsked_61 rfl ?_
        refine g_iload dX7_takeAsked_63 rfl ?_
        refine g_ishr dX7_takeAsked_65 ?_
        refine g_iconst (v := 1) dX7_takeAsked_66 (by decide) ?_
        refine g_iand dX7_takeAsked_67 ?_
        refine g_if_eq (tgt := 73) dX7_takeAsked_68 (by decide) (fun c8 => ?_) (fun c8 => ?_)
        · have t := t.1 c8
          refine g_iload dX7_takeAsked_73 rfl ?_
          refine g_iconst (v := 1) dX7_takeAsked_75 (by decide) ?_
          refine g_iload dX7_takeAsked_76 rfl ?_
          refine g_ishl dX7_takeAsked_78 ?_
          refine g_ior dX7_takeAsked_79 ?_
          refine g_istore (ls' := [.ref 0, .ref 41, .int l2, .int l3, .int (l4 ||| (1 <<< ((S 42 (l2 + (2 * l5)).toNatClampNeg) &&& 31))), .int l5, .int (S 42 (l2 + (2 * l5)).toNatClampNeg), .int (S 42 ((l2 + (2 * l5)) + 1).toNatClampNeg)]) dX7_takeAsked_80 rfl (by decide) rfl ?_
          refine g_aload_n dX7_takeAsked_82 rfl ?_
          refine g_getR (n := 13) dX7_takeAsked_83 fl_X7_67 rfl (by decide) (by decide) rfl rfl ?_
          refine g_getR (n := 7) dX7_takeAsked_86 fl_X7_325 rfl (by decide) (by decide) rfl rfl ?_
          refine g_iload dX7_takeAsked_89 rfl ?_
          refine g_iload dX7_takeAsked_91 rfl ?_
          refine g_iast (n := 6) dX7_takeAsked_93 rfl t.1 ?_
          have t := t.2
          refine g_aload_n dX7_takeAsked_94 rfl ?_
          refine g_getR (n := 13) dX7_takeAsked_95 fl_X7_67 rfl (by decide) (by decide) rfl rfl ?_
          refine g_getR (n := 7) dX7_takeAsked_98 fl_X7_327 rfl (by decide) (by decide) rfl rfl ?_
          refine g_iload dX7_takeAsked_101 rfl ?_
          refine g_iload dX7_takeAsked_103 rfl ?_
          refine g_iast (n := 6) dX7_takeAsked_105 rfl t.1 ?_
          have t := t.2
          refine g_iinc (v := l5 + 1) (ls' := [.ref 0, .ref 41, .int l2, .int l3, .int (l4 ||| (1 <<< ((S 42 (l2 + (2 * l5)).toNatClampNeg) &&& 31))), .int (l5 + 1), .int (S 42 (l2 + (2 * l5)).toNatClampNeg), .int (S 42 ((l2 + (2 * l5)) + 1).toNatClampNeg)]) dX7_takeAsked_106 rfl rfl (by decide) rfl rfl ?_
          refine g_goto (tgt := 6) dX7_takeAsked_109 (by decide) ?_
          refine g_drop (ls' := [.ref 0, .ref 41, .int l2, .int l3, .int (l4 ||| (1 <<< ((S 42 (l2 + (2 * l5)).toNatClampNeg) &&& 31))), .int (l5 + 1), .null, .null]) ⟨Or.inl rfl, Or.inl rfl, Or.inl rfl, Or.inl rfl, Or.inl rfl, Or.inl rfl, Or.inr rfl, Or.inr rfl, trivial⟩ ?_
          exact t
        · have t := t.2 c8
          refine g_iconst (v := 0) dX7_takeAsked_71 (by decide) ?_
          exact g_iret (st := []) dX7_takeAsked_72 (fun e => by cases e) ⟨_, rfl, t⟩
theorem w_X7_takeAsked_41_131 {Q : Int32 → tS → Prop} {S : tS} (l2 : Int32) (l3 : Int32) (l4 : Int32) (l5 : Int32)  (t : ((l3 ≤ l5 → Q 1 S) ∧ (¬ l3 ≤ l5 → (vp_in l5 6 ∧ (tk_Ms mX7_cleanFor [.ref 0, .int (S 32 l5.toNatClampNeg)] S (fun x2 S3 => (vp_in l5 6 ∧ tk_Gs mX7_takeAsked none 131 [.ref 0, .ref 41, .int l2, .int l3, .int l4, .int (l5 + 1), .null, .null] [] (tk_up S3 33 l5.toNatClampNeg x2) Q))))))) : tk_Gs mX7_takeAsked none 131 [.ref 0, .ref 41, .int l2, .int l3, .int l4, .int l5, .null, .null] [] S Q := by
  show tk_G _ 0 0 _ _ _ _ (tkSH, S, tkRF) _
  refine g_iload dX7_takeAsked_131 rfl ?_
  refine g_iload_n dX7_takeAsked_133 rfl ?_
  refine g_icmp_ge (tgt := 167) dX7_takeAsked_134 (by decide) (fun c1 => ?_) (fun c1 => ?_)
  · have t := t.1 c1
    refine g_iconst (v := 1) dX7_takeAsked_167 (by decide) ?_
    exact g_iret (st := []) dX7_takeAsked_168 (fun e => by cases e) ⟨_, rfl, t⟩
  · have t := t.2 c1
    refine g_aload_n dX7_takeAsked_137 rfl ?_
    refine g_getR (n := 13) dX7_takeAsked_138 fl_X7_67 rfl (by decide) (by decide) rfl rfl ?_
    refine g_getR (n := 7) dX7_takeAsked_141 fl_X7_331 rfl (by decide) (by decide) rfl rfl ?_
    refine g_iload dX7_takeAsked_144 rfl ?_
    refine g_aload_n dX7_takeAsked_146 rfl ?_
    refine g_aload_n dX7_takeAsked_147 rfl ?_
    refine g_getR (n := 13) dX7_takeAsked_148 fl_X7_67 rfl (by decide) (by decide) rfl rfl ?_
    refine g_getR (n := 7) dX7_takeAsked_151 fl_X7_327 rfl (by decide) (by decide) rfl rfl ?_
    refine g_iload dX7_takeAsked_154 rfl ?_
    refine g_iald (n := 6) dX7_takeAsked_156 rfl t.1 ?_
    have t := t.2
    refine s_V1i dX7_takeAsked_157 vm_X7_cleanFor ml_X7_334 rfl rfl (by decide) (Nat.le_of_ble_eq_true rfl) rfl (tk_Ms.mono t (fun x2 S3 t => ?_))
    refine g_iast (n := 6) dX7_takeAsked_160 rfl t.1 ?_
    have t := t.2
    refine g_iinc (v := l5 + 1) (ls' := [.ref 0, .ref 41, .int l2, .int l3, .int l4, .int (l5 + 1), .null, .null]) dX7_takeAsked_161 rfl rfl (by decide) rfl rfl ?_
    refine g_goto (tgt := 131) dX7_takeAsked_164 (by decide) ?_
    exact t
theorem w_X7_takeAsked_43 {Q : Int32 → tS → Prop} {S : tS} (p1 : Int32) (p2 : Int32) (t : tk_Gs mX7_takeAsked none 6 [.ref 0, .ref 43, .int p1, .int p2, .int 0, .int 0, .null, .null] [] S (tk_okQ mX7_takeAsked Q)) : tk_Ms mX7_takeAsked [.ref 0, .ref 43, .int p1, .int p2] S Q := by
  refine tk_Ms.of (ls := [.ref 0, .ref 43, .int p1, .int p2, .null, .null, .null, .null]) (by decide) (by first | exact Or.inl rfl | exact Or.inr (Or.inl rfl) | exact Or.inr (Or.inr rfl)) (Nat.le_of_ble_eq_true rfl) rfl ?_
  refine g_iconst (v := 0) dX7_takeAsked_0 (by decide) ?_
  refine g_istore (ls' := [.ref 0, .ref 43, .int p1, .int p2, .int 0, .null, .null, .null]) dX7_takeAsked_1 rfl (by decide) rfl ?_
  refine g_iconst (v := 0) dX7_takeAsked_3 (by decide) ?_
  refine g_istore (ls' := [.ref 0, .ref 43, .int p1, .int p2, .int 0, .int 0, .null, .null]) dX7_takeAsked_4 rfl (by decide) rfl ?_
  exact t
theorem w_X7_takeAsked_43_6 {Q : Int32 → tS → Prop} {S : tS} (l2 : Int32) (l3 : Int32) (l4 : Int32) (l5 : Int32)  (t : ((l3 ≤ l5 → tk_Gs mX7_takeAsked none 131 [.ref 0, .ref 43, .int l2, .int l3, .int l4, .int 0, .null, .null] [] (tk_up (tk_up S 30 0 l3) 30 1 (-1)) Q) ∧ (¬ l3 ≤ l5 → (vp_in (l2 + (2 * l5)) 24 ∧ (vp_in ((l2 + (2 * l5)) + 1) 24 ∧ (tk_Ms mX3_has [.ref 5, .int (S 44 (l2 + (2 * l5)).toNatClampNeg)] S (fun x2 S3 => ((x2 = 0 → Q 0 S3) ∧ (¬ x2 = 0 → (tk_Ms mX7_isDayAhead [.ref 0, .int (S 44 ((l2 + (2 * l5)) + 1).toNatClampNeg)] S3 (fun x5 S6 => ((x5 = 0 → Q 0 S6) ∧ (¬ x5 = 0 → ((((l4 >>> ((S 44 (l2 + (2 * l5)).toNatClampNeg) &&& 31)) &&& 1) = 0 → (vp_in l5 6 ∧ (vp_in l5 6 ∧ tk_Gs mX7_takeAsked none 6 [.ref 0, .ref 43, .int l2, .int l3, .int (l4 ||| (1 <<< ((S 44 (l2 + (2 * l5)).toNatClampNeg) &&& 31))), .int (l5 + 1), .null, .null] [] (tk_up (tk_up S6 31 l5.toNatClampNeg (S 44 (l2 + (2 * l5)).toNatClampNeg)) 32 l5.toNatClampNeg (S 44 ((l2 + (2 * l5)) + 1).toNatClampNeg)) Q))) ∧ (¬ ((l4 >>> ((S 44 (l2 + (2 * l5)).toNatClampNeg) &&& 31)) &&& 1) = 0 → Q 0 S6))))))))))))))) : tk_Gs mX7_takeAsked none 6 [.ref 0, .ref 43, .int l2, .int l3, .int l4, .int l5, .null, .null] [] S Q := by
  show tk_G _ 0 0 _ _ _ _ (tkSH, S, tkRF) _
  refine g_iload dX7_takeAsked_6 rfl ?_
  refine g_iload_n dX7_takeAsked_8 rfl ?_
  refine g_icmp_ge (tgt := 112) dX7_takeAsked_9 (by decide) (fun c1 => ?_) (fun c1 => ?_)
  · have t := t.1 c1
    refine g_aload_n dX7_takeAsked_112 rfl ?_
    refine g_getR (n := 13) dX7_takeAsked_113 fl_X7_67 rfl (by decide) (by decide) rfl rfl ?_
    refine g_iload_n dX7_takeAsked_116 rfl ?_
    refine g_putI (n := 7) dX7_takeAsked_117 fl_X7_330 rfl (by decide) (by decide) rfl rfl rfl ?_
    refine g_aload_n dX7_takeAsked_120 rfl ?_
    refine g_getR (n := 13) dX7_takeAsked_121 fl_X7_67 rfl (by decide) (by decide) rfl rfl ?_
    refine g_iconst (v := (-1)) dX7_takeAsked_124 (by decide) ?_
    refine g_putI (n := 7) dX7_takeAsked_125 fl_X7_225 rfl (by decide) (by decide) rfl rfl rfl ?_
    refine g_iconst (v := 0) dX7_takeAsked_128 (by decide) ?_
    refine g_istore (ls' := [.ref 0, .ref 43, .int l2, .int l3, .int l4, .int 0, .null, .null]) dX7_takeAsked_129 rfl (by decide) rfl ?_
    exact t
  · have t := t.2 c1
    refine g_aload_n dX7_takeAsked_12 rfl ?_
    refine g_getR (n := 3) dX7_takeAsked_13 fl_X7_248 rfl (by decide) (by decide) rfl rfl ?_
    refine g_iload_n dX7_takeAsked_16 rfl ?_
    refine g_iconst (v := 2) dX7_takeAsked_17 (by decide) ?_
    refine g_iload dX7_takeAsked_18 rfl ?_
    refine g_imul dX7_takeAsked_20 ?_
    refine g_iadd dX7_takeAsked_21 ?_
    refine g_iald (n := 24) dX7_takeAsked_22 rfl t.1 ?_
    have t := t.2
    refine g_istore (ls' := [.ref 0, .ref 43, .int l2, .int l3, .int l4, .int l5, .int (S 44 (l2 + (2 * l5)).toNatClampNeg), .null]) dX7_takeAsked_23 rfl (by decide) rfl ?_
    refine g_aload_n dX7_takeAsked_25 rfl ?_
    refine g_getR (n := 3) dX7_takeAsked_26 fl_X7_248 rfl (by decide) (by decide) rfl rfl ?_
    refine g_iload_n dX7_takeAsked_29 rfl ?_
    refine g_iconst (v := 2) dX7_takeAsked_30 (by decide) ?_
    refine g_iload dX7_takeAsked_31 rfl ?_
    refine g_imul dX7_takeAsked_33 ?_
    refine g_iadd dX7_takeAsked_34 ?_
    refine g_iconst (v := 1) dX7_takeAsked_35 (by decide) ?_
    refine g_iadd dX7_takeAsked_36 ?_
    refine g_iald (n := 24) dX7_takeAsked_37 rfl t.1 ?_
    have t := t.2
    refine g_istore (ls' := [.ref 0, .ref 43, .int l2, .int l3, .int l4, .int l5, .int (S 44 (l2 + (2 * l5)).toNatClampNeg), .int (S 44 ((l2 + (2 * l5)) + 1).toNatClampNeg)]) dX7_takeAsked_38 rfl (by decide) rfl ?_
    refine g_aload_n dX7_takeAsked_40 rfl ?_
    refine g_getR (n := 13) dX7_takeAsked_41 fl_X7_19 rfl (by decide) (by decide) rfl rfl ?_
    refine g_iload dX7_takeAsked_44 rfl ?_
    refine s_V1i dX7_takeAsked_46 vm_X3_has ml_X7_96 rfl rfl (by decide) (Nat.le_of_ble_eq_true rfl) rfl (tk_Ms.mono t (fun x2 S3 t => ?_))
    refine g_if_eq (tgt := 71) dX7_takeAsked_49 (by decide) (fun c4 => ?_) (fun c4 => ?_)
    · have t := t.1 c4
      refine g_iconst (v := 0) dX7_takeAsked_71 (by decide) ?_
      exact g_iret (st := []) dX7_takeAsked_72 (fun e => by cases e) ⟨_, rfl, t⟩
    · have t := t.2 c4
      refine g_aload_n dX7_takeAsked_52 rfl ?_
      refine g_iload dX7_takeAsked_53 rfl ?_
      refine s_V1i dX7_takeAsked_55 vm_X7_isDayAhead ml_X7_188 rfl rfl (by decide) (Nat.le_of_ble_eq_true rfl) rfl (tk_Ms.mono t (fun x5 S6 t => ?_))
      refine g_if_eq (tgt := 71) dX7_takeAsked_58 (by decide) (fun c7 => ?_) (fun c7 => ?_)
      · have t := t.1 c7
        refine g_iconst (v := 0) dX7_takeAsked_71 (by decide) ?_
        exact g_iret (st := []) dX7_takeAsked_72 (fun e => by cases e) ⟨_, rfl, t⟩
      · have t := t.2 c7
        refine g_iload dX7_takeAsked_61 rfl ?_
        refine g_iload dX7_takeAsked_63 rfl ?_
        refine g_ishr dX7_takeAsked_65 ?_
        refine g_iconst (v := 1) dX7_takeAsked_66 (by decide) ?_
        refine g_iand dX7_takeAsked_67 ?_
        refine g_if_eq (tgt := 73) dX7_takeAsked_68 (by decide) (fun c8 => ?_) (fun c8 => ?_)
        · have t := t.1 c8
          refine g_iload dX7_takeAsked_73 rfl ?_
          refine g_iconst (v := 1) dX7_takeAsked_75 (by decide) ?_
          refine g_iload dX7_takeAsked_76 rfl ?_
          refine g_ishl dX7_takeAsked_78 ?_
          refine g_ior dX7_takeAsked_79 ?_
          refine g_istore (ls' := [.ref 0, .ref 43, .int l2, .int l3, .int (l4 ||| (1 <<< ((S 44 (l2 + (2 * l5)).toNatClampNeg) &&& 31))), .int l5, .int (S 44 (l2 + (2 * l5)).toNatClampNeg), .int (S 44 ((l2 + (2 * l5)) + 1).toNatClampNeg)]) dX7_takeAsked_80 rfl (by decide) rfl ?_
          refine g_aload_n dX7_takeAsked_82 rfl ?_
          refine g_getR (n := 13) dX7_takeAsked_83 fl_X7_67 rfl (by decide) (by decide) rfl rfl ?_
          refine g_getR (n := 7) dX7_takeAsked_86 fl_X7_325 rfl (by decide) (by decide) rfl rfl ?_
          refine g_iload dX7_takeAsked_89 rfl ?_
          refine g_iload dX7_takeAsked_91 rfl ?_
          refine g_iast (n := 6) dX7_takeAsked_93 rfl t.1 ?_
          have t := t.2
          refine g_aload_n dX7_takeAsked_94 rfl ?_
          refine g_getR (n := 13) dX7_takeAsked_95 fl_X7_67 rfl (by decide) (by decide) rfl rfl ?_
          refine g_getR (n := 7) dX7_takeAsked_98 fl_X7_327 rfl (by decide) (by decide) rfl rfl ?_
          refine g_iload dX7_takeAsked_101 rfl ?_
          refine g_iload dX7_takeAsked_103 rfl ?_
          refine g_iast (n := 6) dX7_takeAsked_105 rfl t.1 ?_
          have t := t.2
          refine g_iinc (v := l5 + 1) (ls' := [.ref 0, .ref 43, .int l2, .int l3, .int (l4 ||| (1 <<< ((S 44 (l2 + (2 * l5)).toNatClampNeg) &&& 31))), .int (l5 + 1), .int (S 44 (l2 + (2 * l5)).toNatClampNeg), .int (S 44 ((l2 + (2 * l5)) + 1).toNatClampNeg)]) dX7_takeAsked_106 rfl rfl (by decide) rfl rfl ?_
          refine g_goto (tgt := 6) dX7_takeAsked_109 (by decide) ?_
          refine g_drop (ls' := [.ref 0, .ref 43, .int l2, .int l3, .int (l4 ||| (1 <<< ((S 44 (l2 + (2 * l5)).toNatClampNeg) &&& 31))), .int (l5 + 1), .null, .null]) ⟨Or.inl rfl, Or.inl rfl, Or.inl rfl, Or.inl rfl, Or.inl rfl, Or.inl rfl, Or.inr rfl, Or.inr rfl, trivial⟩ ?_
          exact t
        · have t := t.2 c8
          refine g_iconst (v := 0) dX7_takeAsked_71 (by decide) ?_
          exact g_iret (st := []) dX7_takeAsked_72 (fun e => by cases e) ⟨_, rfl, t⟩
theorem w_X7_takeAsked_43_131 {Q : Int32 → tS → Prop} {S : tS} (l2 : Int32) (l3 : Int32) (l4 : Int32) (l5 : Int32)  (t : ((l3 ≤ l5 → Q 1 S) ∧ (¬ l3 ≤ l5 → (vp_in l5 6 ∧ (tk_Ms mX7_cleanFor [.ref 0, .int (S 32 l5.toNatClampNeg)] S (fun x2 S3 => (vp_in l5 6 ∧ tk_Gs mX7_takeAsked none 131 [.ref 0, .ref 43, .int l2, .int l3, .int l4, .int (l5 + 1), .null, .null] [] (tk_up S3 33 l5.toNatClampNeg x2) Q))))))) : tk_Gs mX7_takeAsked none 131 [.ref 0, .ref 43, .int l2, .int l3, .int l4, .int l5, .null, .null] [] S Q := by
  show tk_G _ 0 0 _ _ _ _ (tkSH, S, tkRF) _
  refine g_iload dX7_takeAsked_131 rfl ?_
  refine g_iload_n dX7_takeAsked_133 rfl ?_
  refine g_icmp_ge (tgt := 167) dX7_takeAsked_134 (by decide) (fun c1 => ?_) (fun c1 => ?_)
  · have t := t.1 c1
    refine g_iconst (v := 1) dX7_takeAsked_167 (by decide) ?_
    exact g_iret (st := []) dX7_takeAsked_168 (fun e => by cases e) ⟨_, rfl, t⟩
  · have t := t.2 c1
    refine g_aload_n dX7_takeAsked_137 rfl ?_
    refine g_getR (n := 13) dX7_takeAsked_138 fl_X7_67 rfl (by decide) (by decide) rfl rfl ?_
    refine g_getR (n := 7) dX7_takeAsked_141 fl_X7_331 rfl (by decide) (by decide) rfl rfl ?_
    refine g_iload dX7_takeAsked_144 rfl ?_
    refine g_aload_n dX7_takeAsked_146 rfl ?_
    refine g_aload_n dX7_takeAsked_147 rfl ?_
    refine g_getR (n := 13) dX7_takeAsked_148 fl_X7_67 rfl (by decide) (by decide) rfl rfl ?_
    refine g_getR (n := 7) dX7_takeAsked_151 fl_X7_327 rfl (by decide) (by decide) rfl rfl ?_
    refine g_iload dX7_takeAsked_154 rfl ?_
    refine g_iald (n := 6) dX7_takeAsked_156 rfl t.1 ?_
    have t := t.2
    refine s_V1i dX7_takeAsked_157 vm_X7_cleanFor ml_X7_334 rfl rfl (by decide) (Nat.le_of_ble_eq_true rfl) rfl (tk_Ms.mono t (fun x2 S3 t => ?_))
    refine g_iast (n := 6) dX7_takeAsked_160 rfl t.1 ?_
    have t := t.2
    refine g_iinc (v := l5 + 1) (ls' := [.ref 0, .ref 43, .int l2, .int l3, .int l4, .int (l5 + 1), .null, .null]) dX7_takeAsked_161 rfl rfl (by decide) rfl rfl ?_
    refine g_goto (tgt := 131) dX7_takeAsked_164 (by decide) ?_
    exact t
theorem w_X7_tryRows {d : Nat} {Q : Int32 → tS → Prop} {S : tS} (p1 : Int32) (p2 : Int32) (t : ((p1 < (S 30 0) → tk_Gs (mX7_tryRows (d + 4)) none 15 [.ref 30, .int p1, .int p2, .int 0] [] S (tk_okQ (mX7_tryRows (d + 4)) Q)) ∧ (¬ p1 < (S 30 0) → (tk_Ms mX1_weigh [.ref 30] S (fun _ S3 => (tk_okQ (mX7_tryRows (d + 4)) Q) 0 S3))))) : tk_Ms (mX7_tryRows (d + 4)) [.ref 30, .int p1, .int p2] S Q := by
  refine tk_Ms.of (ls := [.ref 30, .int p1, .int p2, .null]) (by show plainName RX7 = true; decide) (by first | exact Or.inl rfl | exact Or.inr (Or.inl rfl) | exact Or.inr (Or.inr rfl)) (Nat.le_of_ble_eq_true rfl) rfl ?_
  refine g_iload_n dX7_tryRows_0 rfl ?_
  refine g_aload_n dX7_tryRows_1 rfl ?_
  refine g_getI (n := 7) dX7_tryRows_2 fl_X7_330 rfl (by decide) (by decide) rfl ?_
  refine g_icmp_lt (tgt := 13) dX7_tryRows_5 (by decide) (fun c1 => ?_) (fun c1 => ?_)
  · have t := t.1 c1
    refine g_iconst (v := 0) dX7_tryRows_13 (by decide) ?_
    refine g_istore_n (ls' := [.ref 30, .int p1, .int p2, .int 0]) dX7_tryRows_14 rfl (by show 3 < 4; decide) rfl ?_
    exact t
  · have t := t.2 c1
    refine g_aload_n dX7_tryRows_8 rfl ?_
    refine s_V0v dX7_tryRows_9 vm_X1_weigh ml_X7_337 rfl rfl (by show 2 < d + 4; omega) (Nat.le_of_ble_eq_true rfl) rfl (tk_Ms.mono t (fun _ S3 t => ?_))
    exact g_vret (st := []) dX7_tryRows_12 rfl ⟨_, rfl, t⟩
theorem w_X7_tryRows_15 {d : Nat} {Q : Int32 → tS → Prop} {S : tS} (l1 : Int32) (l2 : Int32) (l3 : Int32)  (t : (((S 30 0) ≤ l3 → Q 0 S) ∧ (¬ (S 30 0) ≤ l3 → (vp_in l1 6 ∧ ((((((S 33 l1.toNatClampNeg) &&& (l2 ^^^ (-1))) >>> (l3 &&& 31)) &&& 1) = 0 → tk_Gs (mX7_tryRows (d + 4)) none 15 [.ref 30, .int l1, .int l2, .int (l3 + 1)] [] S Q) ∧ (¬ ((((S 33 l1.toNatClampNeg) &&& (l2 ^^^ (-1))) >>> (l3 &&& 31)) &&& 1) = 0 → (vp_in l1 6 ∧ (tk_Ms (mX7_tryRows (d + 3)) [.ref 30, .int (l1 + 1), .int (l2 ||| (1 <<< (l3 &&& 31)))] (tk_up S 34 l1.toNatClampNeg l3) (fun _ S4 => tk_Gs (mX7_tryRows (d + 4)) none 15 [.ref 30, .int l1, .int l2, .int (l3 + 1)] [] S4 Q))))))))) : tk_Gs (mX7_tryRows (d + 4)) none 15 [.ref 30, .int l1, .int l2, .int l3] [] S Q := by
  show tk_G _ 0 0 _ _ _ _ (tkSH, S, tkRF) _
  refine g_iload_n dX7_tryRows_15 rfl ?_
  refine g_aload_n dX7_tryRows_16 rfl ?_
  refine g_getI (n := 7) dX7_tryRows_17 fl_X7_330 rfl (by decide) (by decide) rfl ?_
  refine g_icmp_ge (tgt := 65) dX7_tryRows_20 (by decide) (fun c1 => ?_) (fun c1 => ?_)
  · have t := t.1 c1
    exact g_vret (st := []) dX7_tryRows_65 rfl ⟨_, rfl, t⟩
  · have t := t.2 c1
    refine g_aload_n dX7_tryRows_23 rfl ?_
    refine g_getR (n := 7) dX7_tryRows_24 fl_X7_331 rfl (by decide) (by decide) rfl rfl ?_
    refine g_iload_n dX7_tryRows_27 rfl ?_
    refine g_iald (n := 6) dX7_tryRows_28 rfl t.1 ?_
    have t := t.2
    refine g_iload_n dX7_tryRows_29 rfl ?_
    refine g_iconst (v := (-1)) dX7_tryRows_30 (by decide) ?_
    refine g_ixor dX7_tryRows_31 ?_
    refine g_iand dX7_tryRows_32 ?_
    refine g_iload_n dX7_tryRows_33 rfl ?_
    refine g_ishr dX7_tryRows_34 ?_
    refine g_iconst (v := 1) dX7_tryRows_35 (by decide) ?_
    refine g_iand dX7_tryRows_36 ?_
    refine g_if_eq (tgt := 59) dX7_tryRows_37 (by decide) (fun c2 => ?_) (fun c2 => ?_)
    · have t := t.1 c2
      refine g_iinc (v := l3 + 1) (ls' := [.ref 30, .int l1, .int l2, .int (l3 + 1)]) dX7_tryRows_59 rfl rfl (by show 3 < 4; decide) rfl rfl ?_
      refine g_goto (tgt := 15) dX7_tryRows_62 (by decide) ?_
      exact t
    · have t := t.2 c2
      refine g_aload_n dX7_tryRows_40 rfl ?_
      refine g_getR (n := 7) dX7_tryRows_41 fl_X7_340 rfl (by decide) (by decide) rfl rfl ?_
      refine g_iload_n dX7_tryRows_44 rfl ?_
      refine g_iload_n dX7_tryRows_45 rfl ?_
      refine g_iast (n := 6) dX7_tryRows_46 rfl t.1 ?_
      have t := t.2
      refine g_aload_n dX7_tryRows_47 rfl ?_
      refine g_iload_n dX7_tryRows_48 rfl ?_
      refine g_iconst (v := 1) dX7_tryRows_49 (by decide) ?_
      refine g_iadd dX7_tryRows_50 ?_
      refine g_iload_n dX7_tryRows_51 rfl ?_
      refine g_iconst (v := 1) dX7_tryRows_52 (by decide) ?_
      refine g_iload_n dX7_tryRows_53 rfl ?_
      refine g_ishl dX7_tryRows_54 ?_
      refine g_ior dX7_tryRows_55 ?_
      refine s_S3v dX7_tryRows_56 (sm_X7_tryRows (d + 3)) (ml_X7_221 (d + 3)) rfl (Nat.lt_succ_self _) (Nat.le_of_ble_eq_true rfl) rfl (tk_Ms.mono t (fun _ S4 t => ?_))
      refine g_iinc (v := l3 + 1) (ls' := [.ref 30, .int l1, .int l2, .int (l3 + 1)]) dX7_tryRows_59 rfl rfl (by show 3 < 4; decide) rfl rfl ?_
      refine g_goto (tgt := 15) dX7_tryRows_62 (by decide) ?_
      exact t
