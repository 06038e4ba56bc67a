theorem w_X1_weigh {Q : Int32 → tS → Prop} {S : tS}  (t : (tk_Ms mX1_changesTo [.ref 30] S (fun x1 S2 => (((S2 30 1) = (-1) → (¬ (0 : Int32) < 0 ∧ ¬ (0 : Int32) < 0 ∧ ¬ (S2 30 0 : Int32) < 0 ∧ (0 : Int32).toNatClampNeg + (S2 30 0 : Int32).toNatClampNeg ≤ 6 ∧ (0 : Int32).toNatClampNeg + (S2 30 0 : Int32).toNatClampNeg ≤ 6 ∧ (tk_okQ mX1_weigh Q) 0 (tk_upR (tk_up S2 30 1 x1) 35 (va_cpy (S2 34) (S2 35) (0 : Int32).toNatClampNeg (0 : Int32).toNatClampNeg (S2 30 0 : Int32).toNatClampNeg)))) ∧ (¬ (S2 30 1) = (-1) → (((S2 30 1) ≤ x1 → (tk_okQ mX1_weigh Q) 0 S2) ∧ (¬ (S2 30 1) ≤ x1 → (¬ (0 : Int32) < 0 ∧ ¬ (0 : Int32) < 0 ∧ ¬ (S2 30 0 : Int32) < 0 ∧ (0 : Int32).toNatClampNeg + (S2 30 0 : Int32).toNatClampNeg ≤ 6 ∧ (0 : Int32).toNatClampNeg + (S2 30 0 : Int32).toNatClampNeg ≤ 6 ∧ (tk_okQ mX1_weigh Q) 0 (tk_upR (tk_up S2 30 1 x1) 35 (va_cpy (S2 34) (S2 35) (0 : Int32).toNatClampNeg (0 : Int32).toNatClampNeg (S2 30 0 : Int32).toNatClampNeg)))))))))) : tk_Ms mX1_weigh [.ref 30] S Q := by
  refine tk_Ms.of (ls := [.ref 30, .null]) (by decide) (by first | exact Or.inl rfl | exact Or.inr (Or.inl rfl) | exact Or.inr (Or.inr rfl)) (Nat.le_of_ble_eq_true rfl) rfl ?_
  refine g_aload_n dX1_weigh_0 rfl ?_
  refine s_V0i dX1_weigh_1 vm_X1_changesTo ml_X1_34 rfl rfl (by decide) (Nat.le_of_ble_eq_true rfl) rfl (tk_Ms.mono t (fun x1 S2 t => ?_))
  refine g_istore_n (ls' := [.ref 30, .int x1]) dX1_weigh_4 rfl (by decide) rfl ?_
  refine g_aload_n dX1_weigh_5 rfl ?_
  refine g_getI (n := 7) dX1_weigh_6 fl_X1_15 rfl (by decide) (by decide) rfl ?_
  refine g_iconst (v := (-1)) dX1_weigh_9 (by decide) ?_
  refine g_icmp_eq (tgt := 21) dX1_weigh_10 (by decide) (fun c3 => ?_) (fun c3 => ?_)
  · have t := t.1 c3
    refine g_aload_n dX1_weigh_21 rfl ?_
    refine g_iload_n dX1_weigh_22 rfl ?_
    refine g_putI (n := 7) dX1_weigh_23 fl_X1_15 rfl (by decide) (by decide) rfl rfl rfl ?_
    refine g_aload_n dX1_weigh_26 rfl ?_
    refine g_getR (n := 7) dX1_weigh_27 fl_X1_28 rfl (by decide) (by decide) rfl rfl ?_
    refine g_iconst (v := 0) dX1_weigh_30 (by decide) ?_
    refine g_aload_n dX1_weigh_31 rfl ?_
    refine g_getR (n := 7) dX1_weigh_32 fl_X1_31 rfl (by decide) (by decide) rfl rfl ?_
    refine g_iconst (v := 0) dX1_weigh_35 (by decide) ?_
    refine g_aload_n dX1_weigh_36 rfl ?_
    refine g_getI (n := 7) dX1_weigh_37 fl_X1_9 rfl (by decide) (by decide) rfl ?_
    refine g_acopy (n0 := 6) (n1 := 6) dX1_weigh_40 ml_X1_38 (by decide) (Nat.le_of_ble_eq_true rfl) rfl rfl t.1 t.2.1 t.2.2.1 t.2.2.2.1 t.2.2.2.2.1 ?_
    have t := t.2.2.2.2.2
    exact g_vret (st := []) dX1_weigh_43 rfl ⟨_, rfl, t⟩
  · have t := t.2 c3
    refine g_iload_n dX1_weigh_13 rfl ?_
    refine g_aload_n dX1_weigh_14 rfl ?_
    refine g_getI (n := 7) dX1_weigh_15 fl_X1_15 rfl (by decide) (by decide) rfl ?_
    refine g_icmp_ge (tgt := 43) dX1_weigh_18 (by decide) (fun c4 => ?_) (fun c4 => ?_)
    · have t := t.1 c4
      exact g_vret (st := []) dX1_weigh_43 rfl ⟨_, rfl, t⟩
    · have t := t.2 c4
      refine g_aload_n dX1_weigh_21 rfl ?_
      refine g_iload_n dX1_weigh_22 rfl ?_
      refine g_putI (n := 7) dX1_weigh_23 fl_X1_15 rfl (by decide) (by decide) rfl rfl rfl ?_
      refine g_aload_n dX1_weigh_26 rfl ?_
      refine g_getR (n := 7) dX1_weigh_27 fl_X1_28 rfl (by decide) (by decide) rfl rfl ?_
      refine g_iconst (v := 0) dX1_weigh_30 (by decide) ?_
      refine g_aload_n dX1_weigh_31 rfl ?_
      refine g_getR (n := 7) dX1_weigh_32 fl_X1_31 rfl (by decide) (by decide) rfl rfl ?_
      refine g_iconst (v := 0) dX1_weigh_35 (by decide) ?_
      refine g_aload_n dX1_weigh_36 rfl ?_
      refine g_getI (n := 7) dX1_weigh_37 fl_X1_9 rfl (by decide) (by decide) rfl ?_
      refine g_acopy (n0 := 6) (n1 := 6) dX1_weigh_40 ml_X1_38 (by decide) (Nat.le_of_ble_eq_true rfl) rfl rfl t.1 t.2.1 t.2.2.1 t.2.2.2.1 t.2.2.2.2.1 ?_
      have t := t.2.2.2.2.2
      exact g_vret (st := []) dX1_weigh_43 rfl ⟨_, rfl, t⟩
theorem w_X1_changesTo {Q : Int32 → tS → Prop} {S : tS}  (t : tk_Gs mX1_changesTo none 9 [.ref 30, .int (S 30 0), .int 0, .int 0, .null, .null] [] S (tk_okQ mX1_changesTo Q)) : tk_Ms mX1_changesTo [.ref 30] S Q := by
  refine tk_Ms.of (ls := [.ref 30, .null, .null, .null, .null, .null]) (by decide) (by first | exact Or.inl rfl | exact Or.inr (Or.inl rfl) | exact Or.inr (Or.inr rfl)) (Nat.le_of_ble_eq_true rfl) rfl ?_
  refine g_aload_n dX1_changesTo_0 rfl ?_
  refine g_getI (n := 7) dX1_changesTo_1 fl_X1_9 rfl (by decide) (by decide) rfl ?_
  refine g_istore_n (ls' := [.ref 30, .int (S 30 0), .null, .null, .null, .null]) dX1_changesTo_4 rfl (by decide) rfl ?_
  refine g_iconst (v := 0) dX1_changesTo_5 (by decide) ?_
  refine g_istore_n (ls' := [.ref 30, .int (S 30 0), .int 0, .null, .null, .null]) dX1_changesTo_6 rfl (by decide) rfl ?_
  refine g_iconst (v := 0) dX1_changesTo_7 (by decide) ?_
  refine g_istore_n (ls' := [.ref 30, .int (S 30 0), .int 0, .int 0, .null, .null]) dX1_changesTo_8 rfl (by decide) rfl ?_
  exact t
theorem w_X1_changesTo_9 {Q : Int32 → tS → Prop} {S : tS} (l1 : Int32) (l2 : Int32) (l3 : Int32)  (t : (((S 30 0) ≤ l3 → Q l1 S) ∧ (¬ (S 30 0) ≤ l3 → ((¬ ((l2 >>> (l3 &&& 31)) &&& 1) = 0 → tk_Gs mX1_changesTo none 34 [.ref 30, .int l1, .int l2, .int l3, .int l3, .int 0] [] S Q) ∧ (((l2 >>> (l3 &&& 31)) &&& 1) = 0 → tk_Gs mX1_changesTo none 34 [.ref 30, .int (l1 + (-1)), .int l2, .int l3, .int l3, .int 0] [] S Q))))) : tk_Gs mX1_changesTo none 9 [.ref 30, .int l1, .int l2, .int l3, .null, .null] [] S Q := by
  show tk_G _ 0 0 _ _ _ _ (tkSH, S, tkRF) _
  refine g_iload_n dX1_changesTo_9 rfl ?_
  refine g_aload_n dX1_changesTo_10 rfl ?_
  refine g_getI (n := 7) dX1_changesTo_11 fl_X1_9 rfl (by decide) (by decide) rfl ?_
  refine g_icmp_ge (tgt := 80) dX1_changesTo_14 (by decide) (fun c1 => ?_) (fun c1 => ?_)
  · have t := t.1 c1
    refine g_iload_n dX1_changesTo_80 rfl ?_
    exact g_iret (st := []) dX1_changesTo_81 (fun e => by cases e) ⟨_, rfl, t⟩
  · have t := t.2 c1
    refine g_iload_n dX1_changesTo_17 rfl ?_
    refine g_iload_n dX1_changesTo_18 rfl ?_
    refine g_ishr dX1_changesTo_19 ?_
    refine g_iconst (v := 1) dX1_changesTo_20 (by decide) ?_
    refine g_iand dX1_changesTo_21 ?_
    refine g_if_ne (tgt := 28) dX1_changesTo_22 (by decide) (fun c2 => ?_) (fun c2 => ?_)
    · have t := t.1 c2
      refine g_iload_n dX1_changesTo_28 rfl ?_
      refine g_istore (ls' := [.ref 30, .int l1, .int l2, .int l3, .int l3, .null]) dX1_changesTo_29 rfl (by decide) rfl ?_
      refine g_iconst (v := 0) dX1_changesTo_31 (by decide) ?_
      refine g_istore (ls' := [.ref 30, .int l1, .int l2, .int l3, .int l3, .int 0]) dX1_changesTo_32 rfl (by decide) rfl ?_
      exact t
    · have t := t.2 c2
      refine g_iinc (v := l1 + (-1)) (ls' := [.ref 30, .int (l1 + (-1)), .int l2, .int l3, .null, .null]) dX1_changesTo_25 rfl rfl (by decide) rfl rfl ?_
      refine g_iload_n dX1_changesTo_28 rfl ?_
      refine g_istore (ls' := [.ref 30, .int (l1 + (-1)), .int l2, .int l3, .int l3, .null]) dX1_changesTo_29 rfl (by decide) rfl ?_
      refine g_iconst (v := 0) dX1_changesTo_31 (by decide) ?_
      refine g_istore (ls' := [.ref 30, .int (l1 + (-1)), .int l2, .int l3, .int l3, .int 0]) dX1_changesTo_32 rfl (by decide) rfl ?_
      exact t
theorem w_X1_changesTo_34 {Q : Int32 → tS → Prop} {S : tS} (l1 : Int32) (l2 : Int32) (l3 : Int32) (l4 : Int32) (l5 : Int32)  (t : (((S 30 0) ≤ l5 → tk_Gs mX1_changesTo none 9 [.ref 30, .int l1, .int l2, .int (l3 + 1), .null, .null] [] S Q) ∧ (¬ (S 30 0) ≤ l5 → ((¬ ((l2 >>> (l4 &&& 31)) &&& 1) = 0 → tk_Gs mX1_changesTo none 9 [.ref 30, .int l1, .int l2, .int (l3 + 1), .null, .null] [] S Q) ∧ (((l2 >>> (l4 &&& 31)) &&& 1) = 0 → (vp_in l4 6 ∧ tk_Gs mX1_changesTo none 34 [.ref 30, .int l1, .int (l2 ||| (1 <<< (l4 &&& 31))), .int l3, .int (S 34 l4.toNatClampNeg), .int (l5 + 1)] [] S Q)))))) : tk_Gs mX1_changesTo none 34 [.ref 30, .int l1, .int l2, .int l3, .int l4, .int l5] [] S Q := by
  show tk_G _ 0 0 _ _ _ _ (tkSH, S, tkRF) _
  refine g_iload dX1_changesTo_34 rfl ?_
  refine g_aload_n dX1_changesTo_36 rfl ?_
  refine g_getI (n := 7) dX1_changesTo_37 fl_X1_9 rfl (by decide) (by decide) rfl ?_
  refine g_icmp_ge (tgt := 74) dX1_changesTo_40 (by decide) (fun c1 => ?_) (fun c1 => ?_)
  · have t := t.1 c1
    refine g_iinc (v := l3 + 1) (ls' := [.ref 30, .int l1, .int l2, .int (l3 + 1), .int l4, .int l5]) dX1_changesTo_74 rfl rfl (by decide) rfl rfl ?_
    refine g_goto (tgt := 9) dX1_changesTo_77 (by decide) ?_
    refine g_drop (ls' := [.ref 30, .int l1, .int l2, .int (l3 + 1), .null, .null]) ⟨Or.inl rfl, Or.inl rfl, Or.inl rfl, Or.inl rfl, Or.inr rfl, Or.inr rfl, trivial⟩ ?_
    exact t
  · have t := t.2 c1
    refine g_iload_n dX1_changesTo_43 rfl ?_
    refine g_iload dX1_changesTo_44 rfl ?_
    refine g_ishr dX1_changesTo_46 ?_
    refine g_iconst (v := 1) dX1_changesTo_47 (by decide) ?_
    refine g_iand dX1_changesTo_48 ?_
    refine g_if_ne (tgt := 74) dX1_changesTo_49 (by decide) (fun c2 => ?_) (fun c2 => ?_)
    · have t := t.1 c2
      refine g_iinc (v := l3 + 1) (ls' := [.ref 30, .int l1, .int l2, .int (l3 + 1), .int l4, .int l5]) dX1_changesTo_74 rfl rfl (by decide) rfl rfl ?_
      refine g_goto (tgt := 9) dX1_changesTo_77 (by decide) ?_
      refine g_drop (ls' := [.ref 30, .int l1, .int l2, .int (l3 + 1), .null, .null]) ⟨Or.inl rfl, Or.inl rfl, Or.inl rfl, Or.inl rfl, Or.inr rfl, Or.inr rfl, trivial⟩ ?_
      exact t
    · have t := t.2 c2
      refine g_iload_n dX1_changesTo_52 rfl ?_
      refine g_iconst (v := 1) dX1_changesTo_53 (by decide) ?_
      refine g_iload dX1_changesTo_54 rfl ?_
      refine g_ishl dX1_changesTo_56 ?_
      refine g_ior dX1_changesTo_57 ?_
      refine g_istore_n (ls' := [.ref 30, .int l1, .int (l2 ||| (1 <<< (l4 &&& 31))), .int l3, .int l4, .int l5]) dX1_changesTo_58 rfl (by decide) rfl ?_
      refine g_aload_n dX1_changesTo_59 rfl ?_
      refine g_getR (n := 7) dX1_changesTo_60 fl_X1_28 rfl (by decide) (by decide) rfl rfl ?_
      refine g_iload dX1_changesTo_63 rfl ?_
      refine g_iald (n := 6) dX1_changesTo_65 rfl t.1 ?_
      have t := t.2
      refine g_istore (ls' := [.ref 30, .int l1, .int (l2 ||| (1 <<< (l4 &&& 31))), .int l3, .int (S 34 l4.toNatClampNeg), .int l5]) dX1_changesTo_66 rfl (by decide) rfl ?_
      refine g_iinc (v := l5 + 1) (ls' := [.ref 30, .int l1, .int (l2 ||| (1 <<< (l4 &&& 31))), .int l3, .int (S 34 l4.toNatClampNeg), .int (l5 + 1)]) dX1_changesTo_68 rfl rfl (by decide) rfl rfl ?_
      refine g_goto (tgt := 34) dX1_changesTo_71 (by decide) ?_
      exact t
theorem w_X2_has {Q : Int32 → tS → Prop} {S : tS} (p1 : Int32) (t : ((p1 < 0 → (tk_okQ mX2_has Q) 0 S) ∧ (¬ p1 < 0 → (((S 1 0) ≤ p1 → (tk_okQ mX2_has Q) 0 S) ∧ (¬ (S 1 0) ≤ p1 → (tk_okQ mX2_has Q) 1 S))))) : tk_Ms mX2_has [.ref 1, .int p1] S Q := by
  refine tk_Ms.of (ls := [.ref 1, .int p1]) (by decide) (by first | exact Or.inl rfl | exact Or.inr (Or.inl rfl) | exact Or.inr (Or.inr rfl)) (Nat.le_of_ble_eq_true rfl) rfl ?_
  refine g_iload_n dX2_has_0 rfl ?_
  refine g_if_lt (tgt := 16) dX2_has_1 (by decide) (fun c1 => ?_) (fun c1 => ?_)
  · have t := t.1 c1
    refine g_iconst (v := 0) dX2_has_16 (by decide) ?_
    exact g_iret (st := []) dX2_has_17 (fun e => by cases e) ⟨_, rfl, t⟩
  · have t := t.2 c1
    refine g_iload_n dX2_has_4 rfl ?_
    refine g_aload_n dX2_has_5 rfl ?_
    refine g_getI (n := 4) dX2_has_6 fl_X2_9 rfl (by decide) (by decide) rfl ?_
    refine g_icmp_ge (tgt := 16) dX2_has_9 (by decide) (fun c2 => ?_) (fun c2 => ?_)
    · have t := t.1 c2
      refine g_iconst (v := 0) dX2_has_16 (by decide) ?_
      exact g_iret (st := []) dX2_has_17 (fun e => by cases e) ⟨_, rfl, t⟩
    · have t := t.2 c2
      refine g_iconst (v := 1) dX2_has_12 (by decide) ?_
      refine g_goto (tgt := 17) dX2_has_13 (by decide) ?_
      exact g_iret (st := []) dX2_has_17 (fun e => by cases e) ⟨_, rfl, t⟩
theorem w_X2_add {Q : Int32 → tS → Prop} {S : tS} (p1 : Int32) (p2 : Int32) (p3 : Int32) (t : (((S 1 0) < 16 → (vp_in (S 1 0) 17 ∧ (vp_in (S 1 0) 17 ∧ (vp_in (S 1 0) 17 ∧ (tk_okQ mX2_add Q) (((S 1 0) + 1) - 1) (tk_up (tk_up (tk_up (tk_up S 2 (S 1 0).toNatClampNeg p1) 3 (S 1 0).toNatClampNeg p2) 4 (S 1 0).toNatClampNeg p3) 1 0 ((S 1 0) + 1)))))) ∧ (¬ (S 1 0) < 16 → (tk_okQ mX2_add Q) (-3) S))) : tk_Ms mX2_add [.ref 1, .int p1, .int p2, .int p3] S Q := by
  refine tk_Ms.of (ls := [.ref 1, .int p1, .int p2, .int p3]) (by decide) (by first | exact Or.inl rfl | exact Or.inr (Or.inl rfl) | exact Or.inr (Or.inr rfl)) (Nat.le_of_ble_eq_true rfl) rfl ?_
  refine g_aload_n dX2_add_0 rfl ?_
  refine g_getI (n := 4) dX2_add_1 fl_X2_9 rfl (by decide) (by decide) rfl ?_
  refine g_bipush (v := 16) dX2_add_4 (by decide) ?_
  refine g_icmp_lt (tgt := 12) dX2_add_6 (by decide) (fun c1 => ?_) (fun c1 => ?_)
  · have t := t.1 c1
    refine g_aload_n dX2_add_12 rfl ?_
    refine g_getR (n := 4) dX2_add_13 fl_X2_15 rfl (by decide) (by decide) rfl rfl ?_
    refine g_aload_n dX2_add_16 rfl ?_
    refine g_getI (n := 4) dX2_add_17 fl_X2_9 rfl (by decide) (by decide) rfl ?_
    refine g_iload_n dX2_add_20 rfl ?_
    refine g_iast (n := 17) dX2_add_21 rfl t.1 ?_
    have t := t.2
    refine g_aload_n dX2_add_22 rfl ?_
    refine g_getR (n := 4) dX2_add_23 fl_X2_19 rfl (by decide) (by decide) rfl rfl ?_
    refine g_aload_n dX2_add_26 rfl ?_
    refine g_getI (n := 4) dX2_add_27 fl_X2_9 rfl (by decide) (by decide) rfl ?_
    refine g_iload_n dX2_add_30 rfl ?_
    refine g_iast (n := 17) dX2_add_31 rfl t.1 ?_
    have t := t.2
    refine g_aload_n dX2_add_32 rfl ?_
    refine g_getR (n := 4) dX2_add_33 fl_X2_22 rfl (by decide) (by decide) rfl rfl ?_
    refine g_aload_n dX2_add_36 rfl ?_
    refine g_getI (n := 4) dX2_add_37 fl_X2_9 rfl (by decide) (by decide) rfl ?_
    refine g_iload_n dX2_add_40 rfl ?_
    refine g_iast (n := 17) dX2_add_41 rfl t.1 ?_
    have t := t.2
    refine g_aload_n dX2_add_42 rfl ?_
    refine g_dup dX2_add_43 rfl ?_
    refine g_getI (n := 4) dX2_add_44 fl_X2_9 rfl (by decide) (by decide) rfl ?_
    refine g_iconst (v := 1) dX2_add_47 (by decide) ?_
    refine g_iadd dX2_add_48 ?_
    refine g_putI (n := 4) dX2_add_49 fl_X2_9 rfl (by decide) (by decide) rfl rfl rfl ?_
    refine g_aload_n dX2_add_52 rfl ?_
    refine g_getI (n := 4) dX2_add_53 fl_X2_9 rfl (by decide) (by decide) rfl ?_
    refine g_iconst (v := 1) dX2_add_56 (by decide) ?_
    refine g_isub dX2_add_57 ?_
    exact g_iret (st := []) dX2_add_58 (fun e => by cases e) ⟨_, rfl, t⟩
  · have t := t.2 c1
    refine g_bipush (v := (-3)) dX2_add_9 (by decide) ?_
    exact g_iret (st := []) dX2_add_11 (fun e => by cases e) ⟨_, rfl, t⟩
theorem w_X2_isAt {Q : Int32 → tS → Prop} {S : tS} (p1 : Int32) (p2 : Int32) (t : (vp_in p1 17 ∧ (((S 2 p1.toNatClampNeg) = p2 → (tk_okQ mX2_isAt Q) 1 S) ∧ (¬ (S 2 p1.toNatClampNeg) = p2 → (vp_in p1 17 ∧ ((¬ (S 3 p1.toNatClampNeg) = p2 → (tk_okQ mX2_isAt Q) 0 S) ∧ ((S 3 p1.toNatClampNeg) = p2 → (tk_okQ mX2_isAt Q) 1 S))))))) : tk_Ms mX2_isAt [.ref 1, .int p1, .int p2] S Q := by
  refine tk_Ms.of (ls := [.ref 1, .int p1, .int p2]) (by decide) (by first | exact Or.inl rfl | exact Or.inr (Or.inl rfl) | exact Or.inr (Or.inr rfl)) (Nat.le_of_ble_eq_true rfl) rfl ?_
  refine g_aload_n dX2_isAt_0 rfl ?_
  refine g_getR (n := 4) dX2_isAt_1 fl_X2_15 rfl (by decide) (by decide) rfl rfl ?_
  refine g_iload_n dX2_isAt_4 rfl ?_
  refine g_iald (n := 17) dX2_isAt_5 rfl t.1 ?_
  have t := t.2
  refine g_iload_n dX2_isAt_6 rfl ?_
  refine g_icmp_eq (tgt := 20) dX2_isAt_7 (by decide) (fun c1 => ?_) (fun c1 => ?_)
  · have t := t.1 c1
    refine g_iconst (v := 1) dX2_isAt_20 (by decide) ?_
    refine g_goto (tgt := 25) dX2_isAt_21 (by decide) ?_
    exact g_iret (st := []) dX2_isAt_25 (fun e => by cases e) ⟨_, rfl, t⟩
  · have t := t.2 c1
    refine g_aload_n dX2_isAt_10 rfl ?_
    refine g_getR (n := 4) dX2_isAt_11 fl_X2_19 rfl (by decide) (by decide) rfl rfl ?_
    refine g_iload_n dX2_isAt_14 rfl ?_
    refine g_iald (n := 17) dX2_isAt_15 rfl t.1 ?_
    have t := t.2
    refine g_iload_n dX2_isAt_16 rfl ?_
    refine g_icmp_ne (tgt := 24) dX2_isAt_17 (by decide) (fun c2 => ?_) (fun c2 => ?_)
    · have t := t.1 c2
      refine g_iconst (v := 0) dX2_isAt_24 (by decide) ?_
      exact g_iret (st := []) dX2_isAt_25 (fun e => by cases e) ⟨_, rfl, t⟩
    · have t := t.2 c2
      refine g_iconst (v := 1) dX2_isAt_20 (by decide) ?_
      refine g_goto (tgt := 25) dX2_isAt_21 (by decide) ?_
      exact g_iret (st := []) dX2_isAt_25 (fun e => by cases e) ⟨_, rfl, t⟩
theorem w_X2_at {Q : Int32 → tS → Prop} {S : tS} (p1 : Int32) (t : tk_Gs mX2_at none 4 [.ref 1, .int p1, .int 0, .int 0] [] S (tk_okQ mX2_at Q)) : tk_Ms mX2_at [.ref 1, .int p1] S Q := by
  refine tk_Ms.of (ls := [.ref 1, .int p1, .null, .null]) (by decide) (by first | exact Or.inl rfl | exact Or.inr (Or.inl rfl) | exact Or.inr (Or.inr rfl)) (Nat.le_of_ble_eq_true rfl) rfl ?_
  refine g_iconst (v := 0) dX2_at_0 (by decide) ?_
  refine g_istore_n (ls' := [.ref 1, .int p1, .int 0, .null]) dX2_at_1 rfl (by decide) rfl ?_
  refine g_iconst (v := 0) dX2_at_2 (by decide) ?_
  refine g_istore_n (ls' := [.ref 1, .int p1, .int 0, .int 0]) dX2_at_3 rfl (by decide) rfl ?_
  exact t
theorem w_X2_at_4 {Q : Int32 → tS → Prop} {S : tS} (l1 : Int32) (l2 : Int32) (l3 : Int32)  (t : (((S 1 0) ≤ l3 → Q l2 S) ∧ (¬ (S 1 0) ≤ l3 → (tk_Ms mX2_isAt [.ref 1, .int l3, .int l1] S (fun x2 S3 => ((x2 = 0 → tk_Gs mX2_at none 4 [.ref 1, .int l1, .int (l2 + 0), .int (l3 + 1)] [] S3 Q) ∧ (¬ x2 = 0 → tk_Gs mX2_at none 4 [.ref 1, .int l1, .int (l2 + 1), .int (l3 + 1)] [] S3 Q))))))) : tk_Gs mX2_at none 4 [.ref 1, .int l1, .int l2, .int l3] [] S Q := by
  show tk_G _ 0 0 _ _ _ _ (tkSH, S, tkRF) _
  refine g_iload_n dX2_at_4 rfl ?_
  refine g_aload_n dX2_at_5 rfl ?_
  refine g_getI (n := 4) dX2_at_6 fl_X2_9 rfl (by decide) (by decide) rfl ?_
  refine g_icmp_ge (tgt := 35) dX2_at_9 (by decide) (fun c1 => ?_) (fun c1 => ?_)
  · have t := t.1 c1
    refine g_iload_n dX2_at_35 rfl ?_
    exact g_iret (st := []) dX2_at_36 (fun e => by cases e) ⟨_, rfl, t⟩
  · have t := t.2 c1
    refine g_iload_n dX2_at_12 rfl ?_
    refine g_aload_n dX2_at_13 rfl ?_
    refine g_iload_n dX2_at_14 rfl ?_
    refine g_iload_n dX2_at_15 rfl ?_
    refine s_V2i dX2_at_16 vm_X2_isAt ml_X2_31 rfl rfl (by decide) (Nat.le_of_ble_eq_true rfl) rfl (tk_Ms.mono t (fun x2 S3 t => ?_))
    refine g_if_eq (tgt := 26) dX2_at_19 (by decide) (fun c4 => ?_) (fun c4 => ?_)
    · have t := t.1 c4
      refine g_iconst (v := 0) dX2_at_26 (by decide) ?_
      refine g_iadd dX2_at_27 ?_
      refine g_istore_n (ls' := [.ref 1, .int l1, .int (l2 + 0), .int l3]) dX2_at_28 rfl (by decide) rfl ?_
      refine g_iinc (v := l3 + 1) (ls' := [.ref 1, .int l1, .int (l2 + 0), .int (l3 + 1)]) dX2_at_29 rfl rfl (by decide) rfl rfl ?_
      refine g_goto (tgt := 4) dX2_at_32 (by decide) ?_
      exact t
    · have t := t.2 c4
      refine g_iconst (v := 1) dX2_at_22 (by decide) ?_
      refine g_goto (tgt := 27) dX2_at_23 (by decide) ?_
      refine g_iadd dX2_at_27 ?_
      refine g_istore_n (ls' := [.ref 1, .int l1, .int (l2 + 1), .int l3]) dX2_at_28 rfl (by decide) rfl ?_
      refine g_iinc (v := l3 + 1) (ls' := [.ref 1, .int l1, .int (l2 + 1), .int (l3 + 1)]) dX2_at_29 rfl rfl (by decide) rfl rfl ?_
      refine g_goto (tgt := 4) dX2_at_32 (by decide) ?_
      exact t
theorem w_X2_hasLockAt {Q : Int32 → tS → Prop} {S : tS} (p1 : Int32) (p2 : Int32) (t : tk_Gs mX2_hasLockAt none 2 [.ref 1, .int p1, .int p2, .int 0] [] S (tk_okQ mX2_hasLockAt Q)) : tk_Ms mX2_hasLockAt [.ref 1, .int p1, .int p2] S Q := by
  refine tk_Ms.of (ls := [.ref 1, .int p1, .int p2, .null]) (by decide) (by first | exact Or.inl rfl | exact Or.inr (Or.inl rfl) | exact Or.inr (Or.inr rfl)) (Nat.le_of_ble_eq_true rfl) rfl ?_
  refine g_iconst (v := 0) dX2_hasLockAt_0 (by decide) ?_
  refine g_istore_n (ls' := [.ref 1, .int p1, .int p2, .int 0]) dX2_hasLockAt_1 rfl (by decide) rfl ?_
  exact t
theorem w_X2_hasLockAt_2 {Q : Int32 → tS → Prop} {S : tS} (l1 : Int32) (l2 : Int32) (l3 : Int32)  (t : (((S 1 0) ≤ l3 → Q 0 S) ∧ (¬ (S 1 0) ≤ l3 → (tk_Ms mX2_isAt [.ref 1, .int l3, .int l1] S (fun x2 S3 => ((x2 = 0 → tk_Gs mX2_hasLockAt none 2 [.ref 1, .int l1, .int l2, .int (l3 + 1)] [] S3 Q) ∧ (¬ x2 = 0 → (vp_in l3 17 ∧ ((¬ (S3 4 l3.toNatClampNeg) = l2 → tk_Gs mX2_hasLockAt none 2 [.ref 1, .int l1, .int l2, .int (l3 + 1)] [] S3 Q) ∧ ((S3 4 l3.toNatClampNeg) = l2 → Q 1 S3)))))))))) : tk_Gs mX2_hasLockAt none 2 [.ref 1, .int l1, .int l2, .int l3] [] S Q := by
  show tk_G _ 0 0 _ _ _ _ (tkSH, S, tkRF) _
  refine g_iload_n dX2_hasLockAt_2 rfl ?_
  refine g_aload_n dX2_hasLockAt_3 rfl ?_
  refine g_getI (n := 4) dX2_hasLockAt_4 fl_X2_9 rfl (by decide) (by decide) rfl ?_
  refine g_icmp_ge (tgt := 37) dX2_hasLockAt_7 (by decide) (fun c1 => ?_) (fun c1 => ?_)
  · have t := t.1 c1
    refine g_iconst (v := 0) dX2_hasLockAt_37 (by decide) ?_
    exact g_iret (st := []) dX2_hasLockAt_38 (fun e => by cases e) ⟨_, rfl, t⟩
  · have t := t.2 c1
    refine g_aload_n dX2_hasLockAt_10 rfl ?_
    refine g_iload_n dX2_hasLockAt_11 rfl ?_
    refine g_iload_n dX2_hasLockAt_12 rfl ?_
    refine s_V2i dX2_hasLockAt_13 vm_X2_isAt ml_X2_31 rfl rfl (by decide) (Nat.le_of_ble_eq_true rfl) rfl (tk_Ms.mono t (fun x2 S3 t => ?_))
    refine g_if_eq (tgt := 31) dX2_hasLockAt_16 (by decide) (fun c4 => ?_) (fun c4 => ?_)
    · have t := t.1 c4
      refine g_iinc (v := l3 + 1) (ls' := [.ref 1, .int l1, .int l2, .int (l3 + 1)]) dX2_hasLockAt_31 rfl rfl (by decide) rfl rfl ?_
      refine g_goto (tgt := 2) dX2_hasLockAt_34 (by decide) ?_
      exact t
    · have t := t.2 c4
      refine g_aload_n dX2_hasLockAt_19 rfl ?_
      refine g_getR (n := 4) dX2_hasLockAt_20 fl_X2_22 rfl (by decide) (by decide) rfl rfl ?_
      refine g_iload_n dX2_hasLockAt_23 rfl ?_
      refine g_iald (n := 17) dX2_hasLockAt_24 rfl t.1 ?_
      have t := t.2
      refine g_iload_n dX2_hasLockAt_25 rfl ?_
      refine g_icmp_ne (tgt := 31) dX2_hasLockAt_26 (by decide) (fun c5 => ?_) (fun c5 => ?_)
      · have t := t.1 c5
        refine g_iinc (v := l3 + 1) (ls' := [.ref 1, .int l1, .int l2, .int (l3 + 1)]) dX2_hasLockAt_31 rfl rfl (by decide) rfl rfl ?_
        refine g_goto (tgt := 2) dX2_hasLockAt_34 (by decide) ?_
        exact t
      · have t := t.2 c5
        refine g_iconst (v := 1) dX2_hasLockAt_29 (by decide) ?_
        exact g_iret (st := []) dX2_hasLockAt_30 (fun e => by cases e) ⟨_, rfl, t⟩
theorem w_X2_canPass {Q : Int32 → tS → Prop} {S : tS} (p1 : Int32) (p2 : Int32) (t : ((p1 < 0 → ((¬ p1 = 16 → (((0 : Int32) = 0 → (tk_okQ mX2_canPass Q) 0 S) ∧ (¬ (0 : Int32) = 0 → (vp_in p1 17 ∧ (((S 4 p1.toNatClampNeg) = 8 → (tk_okQ mX2_canPass Q) 1 S) ∧ (¬ (S 4 p1.toNatClampNeg) = 8 → (vp_in p1 17 ∧ ((((p2 >>> ((S 4 p1.toNatClampNeg) &&& 31)) &&& 1) = 0 → (tk_okQ mX2_canPass Q) 0 S) ∧ (¬ ((p2 >>> ((S 4 p1.toNatClampNeg) &&& 31)) &&& 1) = 0 → (tk_okQ mX2_canPass Q) 1 S))))))))) ∧ (p1 = 16 → (((1 : Int32) = 0 → (tk_okQ mX2_canPass Q) 0 S) ∧ (¬ (1 : Int32) = 0 → (vp_in p1 17 ∧ (((S 4 p1.toNatClampNeg) = 8 → (tk_okQ mX2_canPass Q) 1 S) ∧ (¬ (S 4 p1.toNatClampNeg) = 8 → (vp_in p1 17 ∧ ((((p2 >>> ((S 4 p1.toNatClampNeg) &&& 31)) &&& 1) = 0 → (tk_okQ mX2_canPass Q) 0 S) ∧ (¬ ((p2 >>> ((S 4 p1.toNatClampNeg) &&& 31)) &&& 1) = 0 → (tk_okQ mX2_canPass Q) 1 S))))))))))) ∧ (¬ p1 < 0 → ((p1 < (S 1 0) → (((1 : Int32) = 0 → (tk_okQ mX2_canPass Q) 0 S) ∧ (¬ (1 : Int32) = 0 → (vp_in p1 17 ∧ (((S 4 p1.toNatClampNeg) = 8 → (tk_okQ mX2_canPass Q) 1 S) ∧ (¬ (S 4 p1.toNatClampNeg) = 8 → (vp_in p1 17 ∧ ((((p2 >>> ((S 4 p1.toNatClampNeg) &&& 31)) &&& 1) = 0 → (tk_okQ mX2_canPass Q) 0 S) ∧ (¬ ((p2 >>> ((S 4 p1.toNatClampNeg) &&& 31)) &&& 1) = 0 → (tk_okQ mX2_canPass Q) 1 S))))))))) ∧ (¬ p1 < (S 1 0) → ((¬ p1 = 16 → (((0 : Int32) = 0 → (tk_okQ mX2_canPass Q) 0 S) ∧ (¬ (0 : Int32) = 0 → (vp_in p1 17 ∧ (((S 4 p1.toNatClampNeg) = 8 → (tk_okQ mX2_canPass Q) 1 S) ∧ (¬ (S 4 p1.toNatClampNeg) = 8 → (vp_in p1 17 ∧ ((((p2 >>> ((S 4 p1.toNatClampNeg) &&& 31)) &&& 1) = 0 → (tk_okQ mX2_canPass Q) 0 S) ∧ (¬ ((p2 >>> ((S 4 p1.toNatClampNeg) &&& 31)) &&& 1) = 0 → (tk_okQ mX2_canPass Q) 1 S))))))))) ∧ (p1 = 16 → (((1 : Int32) = 0 → (tk_okQ mX2_canPass Q) 0 S) ∧ (¬ (1 : Int32) = 0 → (vp_in p1 17 ∧ (((S 4 p1.toNatClampNeg) = 8 → (tk_okQ mX2_canPass Q) 1 S) ∧ (¬ (S 4 p1.toNatClampNeg) = 8 → (vp_in p1 17 ∧ ((((p2 >>> ((S 4 p1.toNatClampNeg) &&& 31)) &&& 1) = 0 → (tk_okQ mX2_canPass Q) 0 S) ∧ (¬ ((p2 >>> ((S 4 p1.toNatClampNeg) &&& 31)) &&& 1) = 0 → (tk_okQ mX2_canPass Q) 1 S))))))))))))))) : tk_Ms mX2_canPass [.ref 1, .int p1, .int p2] S Q := by
  refine tk_Ms.of (ls := [.ref 1, .int p1, .int p2, .null]) (by decide) (by first | exact Or.inl rfl | exact Or.inr (Or.inl rfl) | exact Or.inr (Or.inr rfl)) (Nat.le_of_ble_eq_true rfl) rfl ?_
  refine g_iload_n dX2_canPass_0 rfl ?_
  refine g_if_lt (tgt := 12) dX2_canPass_1 (by decide) (fun c1 => ?_) (fun c1 => ?_)
  · have t := t.1 c1
    refine g_iload_n dX2_canPass_12 rfl ?_
    refine g_bipush (v := 16) dX2_canPass_13 (by decide) ?_
    refine g_icmp_ne (tgt := 22) dX2_canPass_15 (by decide) (fun c2 => ?_) (fun c2 => ?_)
    · have t := t.1 c2
      refine g_iconst (v := 0) dX2_canPass_22 (by decide) ?_
      refine g_istore_n (ls' := [.ref 1, .int p1, .int p2, .int 0]) dX2_canPass_23 rfl (by decide) rfl ?_
      refine g_iload_n dX2_canPass_24 rfl ?_
      refine g_if_eq (tgt := 56) dX2_canPass_25 (by decide) (fun c3 => ?_) (fun c3 => ?_)
      · have t := t.1 c3
        refine g_iconst (v := 0) dX2_canPass_56 (by decide) ?_
        exact g_iret (st := []) dX2_canPass_57 (fun e => by cases e) ⟨_, rfl, t⟩
      · have t := t.2 c3
        refine g_aload_n dX2_canPass_28 rfl ?_
        refine g_getR (n := 4) dX2_canPass_29 fl_X2_22 rfl (by decide) (by decide) rfl rfl ?_
        refine g_iload_n dX2_canPass_32 rfl ?_
        refine g_iald (n := 17) dX2_canPass_33 rfl t.1 ?_
        have t := t.2
        refine g_bipush (v := 8) dX2_canPass_34 (by decide) ?_
        refine g_icmp_eq (tgt := 52) dX2_canPass_36 (by decide) (fun c4 => ?_) (fun c4 => ?_)
        · have t := t.1 c4
          refine g_iconst (v := 1) dX2_canPass_52 (by decide) ?_
          refine g_goto (tgt := 57) dX2_canPass_53 (by decide) ?_
          exact g_iret (st := []) dX2_canPass_57 (fun e => by cases e) ⟨_, rfl, t⟩
        · have t := t.2 c4
          refine g_iload_n dX2_canPass_39 rfl ?_
          refine g_aload_n dX2_canPass_40 rfl ?_
          refine g_getR (n := 4) dX2_canPass_41 fl_X2_22 rfl (by decide) (by decide) rfl rfl ?_
          refine g_iload_n dX2_canPass_44 rfl ?_
          refine g_iald (n := 17) dX2_canPass_45 rfl t.1 ?_
          have t := t.2
          refine g_ishr dX2_canPass_46 ?_
          refine g_iconst (v := 1) dX2_canPass_47 (by decide) ?_
          refine g_iand dX2_canPass_48 ?_
          refine g_if_eq (tgt := 56) dX2_canPass_49 (by decide) (fun c5 => ?_) (fun c5 => ?_)
          · have t := t.1 c5
            refine g_iconst (v := 0) dX2_canPass_56 (by decide) ?_
            exact g_iret (st := []) dX2_canPass_57 (fun e => by cases e) ⟨_, rfl, t⟩
          · have t := t.2 c5
            refine g_iconst (v := 1) dX2_canPass_52 (by decide) ?_
            refine g_goto (tgt := 57) dX2_canPass_53 (by decide) ?_
            exact g_iret (st := []) dX2_canPass_57 (fun e => by cases e) ⟨_, rfl, t⟩
    · have t := t.2 c2
      refine g_iconst (v := 1) dX2_canPass_18 (by decide) ?_
      refine g_goto (tgt := 23) dX2_canPass_19 (by decide) ?_
      refine g_istore_n (ls' := [.ref 1, .int p1, .int p2, .int 1]) dX2_canPass_23 rfl (by decide) rfl ?_
      refine g_iload_n dX2_canPass_24 rfl ?_
      refine g_if_eq (tgt := 56) dX2_canPass_25 (by decide) (fun c6 => ?_) (fun c6 => ?_)
      · have t := t.1 c6
        refine g_iconst (v := 0) dX2_canPass_56 (by decide) ?_
        exact g_iret (st := []) dX2_canPass_57 (fun e => by cases e) ⟨_, rfl, t⟩
      · have t := t.2 c6
        refine g_aload_n dX2_canPass_28 rfl ?_
        refine g_getR (n := 4) dX2_canPass_29 fl_X2_22 rfl (by decide) (by decide) rfl rfl ?_
        refine g_iload_n dX2_canPass_32 rfl ?_
        refine g_iald (n := 17) dX2_canPass_33 rfl t.1 ?_
        have t := t.2
        refine g_bipush (v := 8) dX2_canPass_34 (by decide) ?_
        refine g_icmp_eq (tgt := 52) dX2_canPass_36 (by decide) (fun c7 => ?_) (fun c7 => ?_)
        · have t := t.1 c7
          refine g_iconst (v := 1) dX2_canPass_52 (by decide) ?_
          refine g_goto (tgt := 57) dX2_canPass_53 (by decide) ?_
          exact g_iret (st := []) dX2_canPass_57 (fun e => by cases e) ⟨_, rfl, t⟩
        · have t := t.2 c7
          refine g_iload_n dX2_canPass_39 rfl ?_
          refine g_aload_n dX2_canPass_40 rfl ?_
          refine g_getR (n := 4) dX2_canPass_41 fl_X2_22 rfl (by decide) (by decide) rfl rfl ?_
          refine g_iload_n dX2_canPass_44 rfl ?_
          refine g_iald (n := 17) dX2_canPass_45 rfl t.1 ?_
          have t := t.2
          refine g_ishr dX2_canPass_46 ?_
          refine g_iconst (v := 1) dX2_canPass_47 (by decide) ?_
          refine g_iand dX2_canPass_48 ?_
          refine g_if_eq (tgt := 56) dX2_canPass_49 (by decide) (fun c8 => ?_) (fun c8 => ?_)
          · have t := t.1 c8
            refine g_iconst (v := 0) dX2_canPass_56 (by decide) ?_
            exact g_iret (st := []) dX2_canPass_57 (fun e => by cases e) ⟨_, rfl, t⟩
          · have t := t.2 c8
            refine g_iconst (v := 1) dX2_canPass_52 (by decide) ?_
            refine g_goto (tgt := 57) dX2_canPass_53 (by decide) ?_
            exact g_iret (st := []) dX2_canPass_57 (fun e => by cases e) ⟨_, rfl, t⟩
  · have t := t.2 c1
    refine g_iload_n dX2_canPass_4 rfl ?_
    refine g_aload_n dX2_canPass_5 rfl ?_
    refine g_getI (n := 4) dX2_canPass_6 fl_X2_9 rfl (by decide) (by decide) rfl ?_
    refine g_icmp_lt (tgt := 18) dX2_canPass_9 (by decide) (fun c9 => ?_) (fun c9 => ?_)
    · have t := t.1 c9
      refine g_iconst (v := 1) dX2_canPass_18 (by decide) ?_
      refine g_goto (tgt := 23) dX2_canPass_19 (by decide) ?_
      refine g_istore_n (ls' := [.ref 1, .int p1, .int p2, .int 1]) dX2_canPass_23 rfl (by decide) rfl ?_
      refine g_iload_n dX2_canPass_24 rfl ?_
      refine g_if_eq (tgt := 56) dX2_canPass_25 (by decide) (fun c10 => ?_) (fun c10 => ?_)
      · have t := t.1 c10
        refine g_iconst (v := 0) dX2_canPass_56 (by decide) ?_
        exact g_iret (st := []) dX2_canPass_57 (fun e => by cases e) ⟨_, rfl, t⟩
      · have t := t.2 c10
        refine g_aload_n dX2_canPass_28 rfl ?_
        refine g_getR (n := 4) dX2_canPass_29 fl_X2_22 rfl (by decide) (by decide) rfl rfl ?_
        refine g_iload_n dX2_canPass_32 rfl ?_
        refine g_iald (n := 17) dX2_canPass_33 rfl t.1 ?_
        have t := t.2
        refine g_bipush (v := 8) dX2_canPass_34 (by decide) ?_
        refine g_icmp_eq (tgt := 52) dX2_canPass_36 (by decide) (fun c11 => ?_) (fun c11 => ?_)
        · have t := t.1 c11
          refine g_iconst (v := 1) dX2_canPass_52 (by decide) ?_
          refine g_goto (tgt := 57) dX2_canPass_53 (by decide) ?_
          exact g_iret (st := []) dX2_canPass_57 (fun e => by cases e) ⟨_, rfl, t⟩
        · have t := t.2 c11
          refine g_iload_n dX2_canPass_39 rfl ?_
          refine g_aload_n dX2_canPass_40 rfl ?_
          refine g_getR (n := 4) dX2_canPass_41 fl_X2_22 rfl (by decide) (by decide) rfl rfl ?_
          refine g_iload_n dX2_canPass_44 rfl ?_
          refine g_iald (n := 17) dX2_canPass_45 rfl t.1 ?_
          have t := t.2
          refine g_ishr dX2_canPass_46 ?_
          refine g_iconst (v := 1) dX2_canPass_47 (by decide) ?_
          refine g_iand dX2_canPass_48 ?_
          refine g_if_eq (tgt := 56) dX2_canPass_49 (by decide) (fun c12 => ?_) (fun c12 => ?_)
          · have t := t.1 c12
            refine g_iconst (v := 0) dX2_canPass_56 (by decide) ?_
            exact g_iret (st := []) dX2_canPass_57 (fun e => by cases e) ⟨_, rfl, t⟩
          · have t := t.2 c12
            refine g_iconst (v := 1) dX2_canPass_52 (by decide) ?_
            refine g_goto (tgt := 57) dX2_canPass_53 (by decide) ?_
            exact g_iret (st := []) dX2_canPass_57 (fun e => by cases e) ⟨_, rfl, t⟩
    · have t := t.2 c9
      refine g_iload_n dX2_canPass_12 rfl ?_
      refine g_bipush (v := 16) dX2_canPass_13 (by decide) ?_
      refine g_icmp_ne (tgt := 22) dX2_canPass_15 (by decide) (fun c13 => ?_) (fun c13 => ?_)
      · have t := t.1 c13
        refine g_iconst (v := 0) dX2_canPass_22 (by decide) ?_
        refine g_istore_n (ls' := [.ref 1, .int p1, .int p2, .int 0]) dX2_canPass_23 rfl (by decide) rfl ?_
        refine g_iload_n dX2_canPass_24 rfl ?_
        refine g_if_eq (tgt := 56) dX2_canPass_25 (by decide) (fun c14 => ?_) (fun c14 => ?_)
        · have t := t.1 c14
          refine g_iconst (v := 0) dX2_canPass_56 (by decide) ?_
          exact g_iret (st := []) dX2_canPass_57 (fun e => by cases e) ⟨_, rfl, t⟩
        · have t := t.2 c14
          refine g_aload_n dX2_canPass_28 rfl ?_
          refine g_getR (n := 4) dX2_canPass_29 fl_X2_22 rfl (by decide) (by decide) rfl rfl ?_
          refine g_iload_n dX2_canPass_32 rfl ?_
          refine g_iald (n := 17) dX2_canPass_33 rfl t.1 ?_
          have t := t.2
          refine g_bipush (v := 8) dX2_canPass_34 (by decide) ?_
          refine g_icmp_eq (tgt := 52) dX2_canPass_36 (by decide) (fun c15 => ?_) (fun c15 => ?_)
          · have t := t.1 c15
            refine g_iconst (v := 1) dX2_canPass_52 (by decide) ?_
            refine g_goto (tgt := 57) dX2_canPass_53 (by decide) ?_
            exact g_iret (st := []) dX2_canPass_57 (fun e => by cases e) ⟨_, rfl, t⟩
          · have t := t.2 c15
            refine g_iload_n dX2_canPass_39 rfl ?_
            refine g_aload_n dX2_canPass_40 rfl ?_
            refine g_getR (n := 4) dX2_canPass_41 fl_X2_22 rfl (by decide) (by decide) rfl rfl ?_
            refine g_iload_n dX2_canPass_44 rfl ?_
            refine g_iald (n := 17) dX2_canPass_45 rfl t.1 ?_
            have t := t.2
            refine g_ishr dX2_canPass_46 ?_
            refine g_iconst (v := 1) dX2_canPass_47 (by decide) ?_
            refine g_iand dX2_canPass_48 ?_
            refine g_if_eq (tgt := 56) dX2_canPass_49 (by decide) (fun c16 => ?_) (fun c16 => ?_)
            · have t := t.1 c16
              refine g_iconst (v := 0) dX2_canPass_56 (by decide) ?_
              exact g_iret (st := []) dX2_canPass_57 (fun e => by cases e) ⟨_, rfl, t⟩
            · have t := t.2 c16
              refine g_iconst (v := 1) dX2_canPass_52 (by decide) ?_
              refine g_goto (tgt := 57) dX2_canPass_53 (by decide) ?_
              exact g_iret (st := []) dX2_canPass_57 (fun e => by cases e) ⟨_, rfl, t⟩
      · have t := t.2 c13
        refine g_iconst (v := 1) dX2_canPass_18 (by decide) ?_
        refine g_goto (tgt := 23) dX2_canPass_19 (by decide) ?_
        refine g_istore_n (ls' := [.ref 1, .int p1, .int p2, .int 1]) dX2_canPass_23 rfl (by decide) rfl ?_
        refine g_iload_n dX2_canPass_24 rfl ?_
        refine g_if_eq (tgt := 56) dX2_canPass_25 (by decide) (fun c17 => ?_) (fun c17 => ?_)
        · have t := t.1 c17
          refine g_iconst (v := 0) dX2_canPass_56 (by decide) ?_
          exact g_iret (st := []) dX2_canPass_57 (fun e => by cases e) ⟨_, rfl, t⟩
        · have t := t.2 c17
          refine g_aload_n dX2_canPass_28 rfl ?_
          refine g_getR (n := 4) dX2_canPass_29 fl_X2_22 rfl (by decide) (by decide) rfl rfl ?_
          refine g_iload_n dX2_canPass_32 rfl ?_
          refine g_iald (n := 17) dX2_canPass_33 rfl t.1 ?_
          have t := t.2
          refine g_bipush (v := 8) dX2_canPass_34 (by decide) ?_
          refine g_icmp_eq (tgt := 52) dX2_canPass_36 (by decide) (fun c18 => ?_) (fun c18 => ?_)
          · have t := t.1 c18
            refine g_iconst (v := 1) dX2_canPass_52 (by decide) ?_
            refine g_goto (tgt := 57) dX2_canPass_53 (by decide) ?_
            exact g_iret (st := []) dX2_canPass_57 (fun e => by cases e) ⟨_, rfl, t⟩
          · have t := t.2 c18
            refine g_iload_n dX2_canPass_39 rfl ?_
            refine g_aload_n dX2_canPass_40 rfl ?_
            refine g_getR (n := 4) dX2_canPass_41 fl_X2_22 rfl (by decide) (by decide) rfl rfl ?_
            refine g_iload_n dX2_canPass_44 rfl ?_
            refine g_iald (n := 17) dX2_canPass_45 rfl t.1 ?_
            have t := t.2
            refine g_ishr dX2_canPass_46 ?_
            refine g_iconst (v := 1) dX2_canPass_47 (by decide) ?_
            refine g_iand dX2_canPass_48 ?_
            refine g_if_eq (tgt := 56) dX2_canPass_49 (by decide) (fun c19 => ?_) (fun c19 => ?_)
            · have t := t.1 c19
              refine g_iconst (v := 0) dX2_canPass_56 (by decide) ?_
              exact g_iret (st := []) dX2_canPass_57 (fun e => by cases e) ⟨_, rfl, t⟩
            · have t := t.2 c19
              refine g_iconst (v := 1) dX2_canPass_52 (by decide) ?_
              refine g_goto (tgt := 57) dX2_canPass_53 (by decide) ?_
              exact g_iret (st := []) dX2_canPass_57 (fun e => by cases e) ⟨_, rfl, t⟩
theorem w_X2_add_23 {Q : Int32 → tS → Prop} {S : tS} (p1 : Int32) (p2 : Int32) (p3 : Int32) (t : (((S 23 0) < 16 → (vp_in (S 23 0) 17 ∧ (vp_in (S 23 0) 17 ∧ (vp_in (S 23 0) 17 ∧ (tk_okQ mX2_add Q) (((S 23 0) + 1) - 1) (tk_up (tk_up (tk_up (tk_up S 24 (S 23 0).toNatClampNeg p1) 25 (S 23 0).toNatClampNeg p2) 26 (S 23 0).toNatClampNeg p3) 23 0 ((S 23 0) + 1)))))) ∧ (¬ (S 23 0) < 16 → (tk_okQ mX2_add Q) (-3) S))) : tk_Ms mX2_add [.ref 23, .int p1, .int p2, .int p3] S Q := by
  refine tk_Ms.of (ls := [.ref 23, .int p1, .int p2, .int p3]) (by decide) (by first | exact Or.inl rfl | exact Or.inr (Or.inl rfl) | exact Or.inr (Or.inr rfl)) (Nat.le_of_ble_eq_true rfl) rfl ?_
  refine g_aload_n dX2_add_0 rfl ?_
  refine g_getI (n := 4) dX2_add_1 fl_X2_9 rfl (by decide) (by decide) rfl ?_
  refine g_bipush (v := 16) dX2_add_4 (by decide) ?_
  refine g_icmp_lt (tgt := 12) dX2_add_6 (by decide) (fun c1 => ?_) (fun c1 => ?_)
  · have t := t.1 c1
    refine g_aload_n dX2_add_12 rfl ?_
    refine g_getR (n := 4) dX2_add_13 fl_X2_15 rfl (by decide) (by decide) rfl rfl ?_
    refine g_aload_n dX2_add_16 rfl ?_
    refine g_getI (n := 4) dX2_add_17 fl_X2_9 rfl (by decide) (by decide) rfl ?_
    refine g_iload_n dX2_add_20 rfl ?_
    refine g_iast (n := 17) dX2_add_21 rfl t.1 ?_
    have t := t.2
    refine g_aload_n dX2_add_22 rfl ?_
    refine g_getR (n := 4) dX2_add_23 fl_X2_19 rfl (by decide) (by decide) rfl rfl ?_
    refine g_aload_n dX2_add_26 rfl ?_
    refine g_getI (n := 4) dX2_add_27 fl_X2_9 rfl (by decide) (by decide) rfl ?_
    refine g_iload_n dX2_add_30 rfl ?_
    refine g_iast (n := 17) dX2_add_31 rfl t.1 ?_
    have t := t.2
    refine g_aload_n dX2_add_32 rfl ?_
    refine g_getR (n := 4) dX2_add_33 fl_X2_22 rfl (by decide) (by decide) rfl rfl ?_
    refine g_aload_n dX2_add_36 rfl ?_
    refine g_getI (n := 4) dX2_add_37 fl_X2_9 rfl (by decide) (by decide) rfl ?_
    refine g_iload_n dX2_add_40 rfl ?_
    refine g_iast (n := 17) dX2_add_41 rfl t.1 ?_
    have t := t.2
    refine g_aload_n dX2_add_42 rfl ?_
    refine g_dup dX2_add_43 rfl ?_
    refine g_getI (n := 4) dX2_add_44 fl_X2_9 rfl (by decide) (by decide) rfl ?_
    refine g_iconst (v := 1) dX2_add_47 (by decide) ?_
    refine g_iadd dX2_add_48 ?_
    refine g_putI (n := 4) dX2_add_49 fl_X2_9 rfl (by decide) (by decide) rfl rfl rfl ?_
    refine g_aload_n dX2_add_52 rfl ?_
    refine g_getI (n := 4) dX2_add_53 fl_X2_9 rfl (by decide) (by decide) rfl ?_
    refine g_iconst (v := 1) dX2_add_56 (by decide) ?_
    refine g_isub dX2_add_57 ?_
    exact g_iret (st := []) dX2_add_58 (fun e => by cases e) ⟨_, rfl, t⟩
  · have t := t.2 c1
    refine g_bipush (v := (-3)) dX2_add_9 (by decide) ?_
    exact g_iret (st := []) dX2_add_11 (fun e => by cases e) ⟨_, rfl, t⟩
theorem w_X2_becomeLike_1_11 {Q : Int32 → tS → Prop} {S : tS}  (t : (¬ (0 : Int32) < 0 ∧ ¬ (0 : Int32) < 0 ∧ ¬ (16 : Int32) < 0 ∧ (0 : Int32).toNatClampNeg + (16 : Int32).toNatClampNeg ≤ 17 ∧ (0 : Int32).toNatClampNeg + (16 : Int32).toNatClampNeg ≤ 17 ∧ (¬ (0 : Int32) < 0 ∧ ¬ (0 : Int32) < 0 ∧ ¬ (16 : Int32) < 0 ∧ (0 : Int32).toNatClampNeg + (16 : Int32).toNatClampNeg ≤ 17 ∧ (0 : Int32).toNatClampNeg + (16 : Int32).toNatClampNeg ≤ 17 ∧ (¬ (0 : Int32) < 0 ∧ ¬ (0 : Int32) < 0 ∧ ¬ (16 : Int32) < 0 ∧ (0 : Int32).toNatClampNeg + (16 : Int32).toNatClampNeg ≤ 17 ∧ (0 : Int32).toNatClampNeg + (16 : Int32).toNatClampNeg ≤ 17 ∧ (tk_okQ mX2_becomeLike Q) 0 (tk_upR (tk_upR (tk_upR (tk_up S 1 0 (S 11 0)) 2 (va_cpy (S 12) (S 2) (0 : Int32).toNatClampNeg (0 : Int32).toNatClampNeg (16 : Int32).toNatClampNeg)) 3 (va_cpy (S 13) (S 3) (0 : Int32).toNatClampNeg (0 : Int32).toNatClampNeg (16 : Int32).toNatClampNeg)) 4 (va_cpy (S 14) (S 4) (0 : Int32).toNatClampNeg (0 : Int32).toNatClampNeg (16 : Int32).toNatClampNeg)))))) : tk_Ms mX2_becomeLike [.ref 1, .ref 11] S Q := by
  refine tk_Ms.of (ls := [.ref 1, .ref 11]) (by decide) (by first | exact Or.inl rfl | exact Or.inr (Or.inl rfl) | exact Or.inr (Or.inr rfl)) (Nat.le_of_ble_eq_true rfl) rfl ?_
  refine g_aload_n dX2_becomeLike_0 rfl ?_
  refine g_aload_n dX2_becomeLike_1 rfl ?_
  refine g_getI (n := 4) dX2_becomeLike_2 fl_X2_9 rfl (by decide) (by decide) rfl ?_
  refine g_putI (n := 4) dX2_becomeLike_5 fl_X2_9 rfl (by decide) (by decide) rfl rfl rfl ?_
  refine g_aload_n dX2_becomeLike_8 rfl ?_
  refine g_getR (n := 4) dX2_becomeLike_9 fl_X2_15 rfl (by decide) (by decide) rfl rfl ?_
  refine g_iconst (v := 0) dX2_becomeLike_12 (by decide) ?_
  refine g_aload_n dX2_becomeLike_13 rfl ?_
  refine g_getR (n := 4) dX2_becomeLike_14 fl_X2_15 rfl (by decide) (by decide) rfl rfl ?_
  refine g_iconst (v := 0) dX2_becomeLike_17 (by decide) ?_
  refine g_bipush (v := 16) dX2_becomeLike_18 (by decide) ?_
  refine g_acopy (n0 := 17) (n1 := 17) dX2_becomeLike_20 ml_X2_25 (by decide) (Nat.le_of_ble_eq_true rfl) rfl rfl t.1 t.2.1 t.2.2.1 t.2.2.2.1 t.2.2.2.2.1 ?_
  have t := t.2.2.2.2.2
  refine g_aload_n dX2_becomeLike_23 rfl ?_
  refine g_getR (n := 4) dX2_becomeLike_24 fl_X2_19 rfl (by decide) (by decide) rfl rfl ?_
  refine g_iconst (v := 0) dX2_becomeLike_27 (by decide) ?_
  refine g_aload_n dX2_becomeLike_28 rfl ?_
  refine g_getR (n := 4) dX2_becomeLike_29 fl_X2_19 rfl (by decide) (by decide) rfl rfl ?_
  refine g_iconst (v := 0) dX2_becomeLike_32 (by decide) ?_
  refine g_bipush (v := 16) dX2_becomeLike_33 (by decide) ?_
  refine g_acopy (n0 := 17) (n1 := 17) dX2_becomeLike_35 ml_X2_25 (by decide) (Nat.le_of_ble_eq_true rfl) rfl rfl t.1 t.2.1 t.2.2.1 t.2.2.2.1 t.2.2.2.2.1 ?_
  have t := t.2.2.2.2.2
  refine g_aload_n dX2_becomeLike_38 rfl ?_
  refine g_getR (n := 4) dX2_becomeLike_39 fl_X2_22 rfl (by decide) (by decide) rfl rfl ?_
  refine g_iconst (v := 0) dX2_becomeLike_42 (by decide) ?_
  refine g_aload_n dX2_becomeLike_43 rfl ?_
  refine g_getR (n := 4) dX2_becomeLike_44 fl_X2_22 rfl (by decide) (by decide) rfl rfl ?_
  refine g_iconst (v := 0) dX2_becomeLike_47 (by decide) ?_
  refine g_bipush (v := 16) dX2_becomeLike_48 (by decide) ?_
  refine g_acopy (n0 := 17) (n1 := 17) dX2_becomeLike_50 ml_X2_25 (by decide) (Nat.le_of_ble_eq_true rfl) rfl rfl t.1 t.2.1 t.2.2.1 t.2.2.2.1 t.2.2.2.2.1 ?_
  have t := t.2.2.2.2.2
  exact g_vret (st := []) dX2_becomeLike_53 rfl ⟨_, rfl, t⟩
theorem w_X2_becomeLike_11_1 {Q : Int32 → tS → Prop} {S : tS}  (t : (¬ (0 : Int32) < 0 ∧ ¬ (0 : Int32) < 0 ∧ ¬ (16 : Int32) < 0 ∧ (0 : Int32).toNatClampNeg + (16 : Int32).toNatClampNeg ≤ 17 ∧ (0 : Int32).toNatClampNeg + (16 : Int32).toNatClampNeg ≤ 17 ∧ (¬ (0 : Int32) < 0 ∧ ¬ (0 : Int32) < 0 ∧ ¬ (16 : Int32) < 0 ∧ (0 : Int32).toNatClampNeg + (16 : Int32).toNatClampNeg ≤ 17 ∧ (0 : Int32).toNatClampNeg + (16 : Int32).toNatClampNeg ≤ 17 ∧ (¬ (0 : Int32) < 0 ∧ ¬ (0 : Int32) < 0 ∧ ¬ (16 : Int32) < 0 ∧ (0 : Int32).toNatClampNeg + (16 : Int32).toNatClampNeg ≤ 17 ∧ (0 : Int32).toNatClampNeg + (16 : Int32).toNatClampNeg ≤ 17 ∧ (tk_okQ mX2_becomeLike Q) 0 (tk_upR (tk_upR (tk_upR (tk_up S 11 0 (S 1 0)) 12 (va_cpy (S 2) (S 12) (0 : Int32).toNatClampNeg (0 : Int32).toNatClampNeg (16 : Int32).toNatClampNeg)) 13 (va_cpy (S 3) (S 13) (0 : Int32).toNatClampNeg (0 : Int32).toNatClampNeg (16 : Int32).toNatClampNeg)) 14 (va_cpy (S 4) (S 14) (0 : Int32).toNatClampNeg (0 : Int32).toNatClampNeg (16 : Int32).toNatClampNeg)))))) : tk_Ms mX2_becomeLike [.ref 11, .ref 1] S Q := by
  refine tk_Ms.of (ls := [.ref 11, .ref 1]) (by decide) (by first | exact Or.inl rfl | exact Or.inr (Or.inl rfl) | exact Or.inr (Or.inr rfl)) (Nat.le_of_ble_eq_true rfl) rfl ?_
  refine g_aload_n dX2_becomeLike_0 rfl ?_
  refine g_aload_n dX2_becomeLike_1 rfl ?_
  refine g_getI (n := 4) dX2_becomeLike_2 fl_X2_9 rfl (by decide) (by decide) rfl ?_
  refine g_putI (n := 4) dX2_becomeLike_5 fl_X2_9 rfl (by decide) (by decide) rfl rfl rfl ?_
  refine g_aload_n dX2_becomeLike_8 rfl ?_
  refine g_getR (n := 4) dX2_becomeLike_9 fl_X2_15 rfl (by decide) (by decide) rfl rfl ?_
  refine g_iconst (v := 0) dX2_becomeLike_12 (by decide) ?_
  refine g_aload_n dX2_becomeLike_13 rfl ?_
  refine g_getR (n := 4) dX2_becomeLike_14 fl_X2_15 rfl (by decide) (by decide) rfl rfl ?_
  refine g_iconst (v := 0) dX2_becomeLike_17 (by decide) ?_
  refine g_bipush (v := 16) dX2_becomeLike_18 (by decide) ?_
  refine g_acopy (n0 := 17) (n1 := 17) dX2_becomeLike_20 ml_X2_25 (by decide) (Nat.le_of_ble_eq_true rfl) rfl rfl t.1 t.2.1 t.2.2.1 t.2.2.2.1 t.2.2.2.2.1 ?_
  have t := t.2.2.2.2.2
  refine g_aload_n dX2_becomeLike_23 rfl ?_
  refine g_getR (n := 4) dX2_becomeLike_24 fl_X2_19 rfl (by decide) (by decide) rfl rfl ?_
  refine g_iconst (v := 0) dX2_becomeLike_27 (by decide) ?_
  refine g_aload_n dX2_becomeLike_28 rfl ?_
  refine g_getR (n := 4) dX2_becomeLike_29 fl_X2_19 rfl (by decide) (by decide) rfl rfl ?_
  refine g_iconst (v := 0) dX2_becomeLike_32 (by decide) ?_
  refine g_bipush (v := 16) dX2_becomeLike_33 (by decide) ?_
  refine g_acopy (n0 := 17) (n1 := 17) dX2_becomeLike_35 ml_X2_25 (by decide) (Nat.le_of_ble_eq_true rfl) rfl rfl t.1 t.2.1 t.2.2.1 t.2.2.2.1 t.2.2.2.2.1 ?_
  have t := t.2.2.2.2.2
  refine g_aload_n dX2_becomeLike_38 rfl ?_
  refine g_getR (n := 4) dX2_becomeLike_39 fl_X2_22 rfl (by decide) (by decide) rfl rfl ?_
  refine g_iconst (v := 0) dX2_becomeLike_42 (by decide) ?_
  refine g_aload_n dX2_becomeLike_43 rfl ?_
  refine g_getR (n := 4) dX2_becomeLike_44 fl_X2_22 rfl (by decide) (by decide) rfl rfl ?_
  refine g_iconst (v := 0) dX2_becomeLike_47 (by decide) ?_
  refine g_bipush (v := 16) dX2_becomeLike_48 (by decide) ?_
  refine g_acopy (n0 := 17) (n1 := 17) dX2_becomeLike_50 ml_X2_25 (by decide) (Nat.le_of_ble_eq_true rfl) rfl rfl t.1 t.2.1 t.2.2.1 t.2.2.2.1 t.2.2.2.2.1 ?_
  have t := t.2.2.2.2.2
  exact g_vret (st := []) dX2_becomeLike_53 rfl ⟨_, rfl, t⟩
theorem w_X2_becomeLike_1_23 {Q : Int32 → tS → Prop} {S : tS}  (t : (¬ (0 : Int32) < 0 ∧ ¬ (0 : Int32) < 0 ∧ ¬ (16 : Int32) < 0 ∧ (0 : Int32).toNatClampNeg + (16 : Int32).toNatClampNeg ≤ 17 ∧ (0 : Int32).toNatClampNeg + (16 : Int32).toNatClampNeg ≤ 17 ∧ (¬ (0 : Int32) < 0 ∧ ¬ (0 : Int32) < 0 ∧ ¬ (16 : Int32) < 0 ∧ (0 : Int32).toNatClampNeg + (16 : Int32).toNatClampNeg ≤ 17 ∧ (0 : Int32).toNatClampNeg + (16 : Int32).toNatClampNeg ≤ 17 ∧ (¬ (0 : Int32) < 0 ∧ ¬ (0 : Int32) < 0 ∧ ¬ (16 : Int32) < 0 ∧ (0 : Int32).toNatClampNeg + (16 : Int32).toNatClampNeg ≤ 17 ∧ (0 : Int32).toNatClampNeg + (16 : Int32).toNatClampNeg ≤ 17 ∧ (tk_okQ mX2_becomeLike Q) 0 (tk_upR (tk_upR (tk_upR (tk_up S 1 0 (S 23 0)) 2 (va_cpy (S 24) (S 2) (0 : Int32).toNatClampNeg (0 : Int32).toNatClampNeg (16 : Int32).toNatClampNeg)) 3 (va_cpy (S 25) (S 3) (0 : Int32).toNatClampNeg (0 : Int32).toNatClampNeg (16 : Int32).toNatClampNeg)) 4 (va_cpy (S 26) (S 4) (0 : Int32).toNatClampNeg (0 : Int32).toNatClampNeg (16 : Int32).toNatClampNeg)))))) : tk_Ms mX2_becomeLike [.ref 1, .ref 23] S Q := by
  refine tk_Ms.of (ls := [.ref 1, .ref 23]) (by decide) (by first | exact Or.inl rfl | exact Or.inr (Or.inl rfl) | exact Or.inr (Or.inr rfl)) (Nat.le_of_ble_eq_true rfl) rfl ?_
  refine g_aload_n dX2_becomeLike_0 rfl ?_
  refine g_aload_n dX2_becomeLike_1 rfl ?_
  refine g_getI (n := 4) dX2_becomeLike_2 fl_X2_9 rfl (by decide) (by decide) rfl ?_
  refine g_putI (n := 4) dX2_becomeLike_5 fl_X2_9 rfl (by decide) (by decide) rfl rfl rfl ?_
  refine g_aload_n dX2_becomeLike_8 rfl ?_
  refine g_getR (n := 4) dX2_becomeLike_9 fl_X2_15 rfl (by decide) (by decide) rfl rfl ?_
  refine g_iconst (v := 0) dX2_becomeLike_12 (by decide) ?_
  refine g_aload_n dX2_becomeLike_13 rfl ?_
  refine g_getR (n := 4) dX2_becomeLike_14 fl_X2_15 rfl (by decide) (by decide) rfl rfl ?_
  refine g_iconst (v := 0) dX2_becomeLike_17 (by decide) ?_
  refine g_bipush (v := 16) dX2_becomeLike_18 (by decide) ?_
  refine g_acopy (n0 := 17) (n1 := 17) dX2_becomeLike_20 ml_X2_25 (by decide) (Nat.le_of_ble_eq_true rfl) rfl rfl t.1 t.2.1 t.2.2.1 t.2.2.2.1 t.2.2.2.2.1 ?_
  have t := t.2.2.2.2.2
  refine g_aload_n dX2_becomeLike_23 rfl ?_
  refine g_getR (n := 4) dX2_becomeLike_24 fl_X2_19 rfl (by decide) (by decide) rfl rfl ?_
  refine g_iconst (v := 0) dX2_becomeLike_27 (by decide) ?_
  refine g_aload_n dX2_becomeLike_28 rfl ?_
  refine g_getR (n := 4) dX2_becomeLike_29 fl_X2_19 rfl (by decide) (by decide) rfl rfl ?_
  refine g_iconst (v := 0) dX2_becomeLike_32 (by decide) ?_
  refine g_bipush (v := 16) dX2_becomeLike_33 (by decide) ?_
  refine g_acopy (n0 := 17) (n1 := 17) dX2_becomeLike_35 ml_X2_25 (by decide) (Nat.le_of_ble_eq_true rfl) rfl rfl t.1 t.2.1 t.2.2.1 t.2.2.2.1 t.2.2.2.2.1 ?_
  have t := t.2.2.2.2.2
  refine g_aload_n dX2_becomeLike_38 rfl ?_
  refine g_getR (n := 4) dX2_becomeLike_39 fl_X2_22 rfl (by decide) (by decide) rfl rfl ?_
  refine g_iconst (v := 0) dX2_becomeLike_42 (by decide) ?_
  refine g_aload_n dX2_becomeLike_43 rfl ?_
  refine g_getR (n := 4) dX2_becomeLike_44 fl_X2_22 rfl (by decide) (by decide) rfl rfl ?_
  refine g_iconst (v := 0) dX2_becomeLike_47 (by decide) ?_
  refine g_bipush (v := 16) dX2_becomeLike_48 (by decide) ?_
  refine g_acopy (n0 := 17) (n1 := 17) dX2_becomeLike_50 ml_X2_25 (by decide) (Nat.le_of_ble_eq_true rfl) rfl rfl t.1 t.2.1 t.2.2.1 t.2.2.2.1 t.2.2.2.2.1 ?_
  have t := t.2.2.2.2.2
  exact g_vret (st := []) dX2_becomeLike_53 rfl ⟨_, rfl, t⟩
theorem w_X3_has {Q : Int32 → tS → Prop} {S : tS} (p1 : Int32) (t : ((p1 < 0 → (tk_okQ mX3_has Q) 0 S) ∧ (¬ p1 < 0 → (((S 5 0) ≤ p1 → (tk_okQ mX3_has Q) 0 S) ∧ (¬ (S 5 0) ≤ p1 → (tk_okQ mX3_has Q) 1 S))))) : tk_Ms mX3_has [.ref 5, .int p1] S Q := by
  refine tk_Ms.of (ls := [.ref 5, .int p1]) (by decide) (by first | exact Or.inl rfl | exact Or.inr (Or.inl rfl) | exact Or.inr (Or.inr rfl)) (Nat.le_of_ble_eq_true rfl) rfl ?_
  refine g_iload_n dX3_has_0 rfl ?_
  refine g_if_lt (tgt := 16) dX3_has_1 (by decide) (fun c1 => ?_) (fun c1 => ?_)
  · have t := t.1 c1
    refine g_iconst (v := 0) dX3_has_16 (by decide) ?_
    exact g_iret (st := []) dX3_has_17 (fun e => by cases e) ⟨_, rfl, t⟩
  · have t := t.2 c1
    refine g_iload_n dX3_has_4 rfl ?_
    refine g_aload_n dX3_has_5 rfl ?_
    refine g_getI (n := 6) dX3_has_6 fl_X3_9 rfl (by decide) (by decide) rfl ?_
    refine g_icmp_ge (tgt := 16) dX3_has_9 (by decide) (fun c2 => ?_) (fun c2 => ?_)
    · have t := t.1 c2
      refine g_iconst (v := 0) dX3_has_16 (by decide) ?_
      exact g_iret (st := []) dX3_has_17 (fun e => by cases e) ⟨_, rfl, t⟩
    · have t := t.2 c2
      refine g_iconst (v := 1) dX3_has_12 (by decide) ?_
      refine g_goto (tgt := 17) dX3_has_13 (by decide) ?_
      exact g_iret (st := []) dX3_has_17 (fun e => by cases e) ⟨_, rfl, t⟩
theorem w_X3_add {Q : Int32 → tS → Prop} {S : tS} (p1 : Int32) (p2 : Int32) (t : (((S 5 0) < 8 → (vp_in (S 5 0) 8 ∧ (vp_in (S 5 0) 8 ∧ (vp_in (S 5 0) 8 ∧ (vp_in (S 5 0) 8 ∧ (vp_in (S 5 0) 8 ∧ (tk_okQ mX3_add Q) (((S 5 0) + 1) - 1) (tk_up (tk_up (tk_up (tk_up (tk_up (tk_up S 6 (S 5 0).toNatClampNeg p1) 7 (S 5 0).toNatClampNeg p2) 8 (S 5 0).toNatClampNeg 4) 9 (S 5 0).toNatClampNeg 0) 10 (S 5 0).toNatClampNeg 0) 5 0 ((S 5 0) + 1)))))))) ∧ (¬ (S 5 0) < 8 → (tk_okQ mX3_add Q) (-3) S))) : tk_Ms mX3_add [.ref 5, .int p1, .int p2] S Q := by
  refine tk_Ms.of (ls := [.ref 5, .int p1, .int p2]) (by decide) (by first | exact Or.inl rfl | exact Or.inr (Or.inl rfl) | exact Or.inr (Or.inr rfl)) (Nat.le_of_ble_eq_true rfl) rfl ?_
  refine g_aload_n dX3_add_0 rfl ?_
  refine g_getI (n := 6) dX3_add_1 fl_X3_9 rfl (by decide) (by decide) rfl ?_
  refine g_bipush (v := 8) dX3_add_4 (by decide) ?_
  refine g_icmp_lt (tgt := 12) dX3_add_6 (by decide) (fun c1 => ?_) (fun c1 => ?_)
  · have t := t.1 c1
    refine g_aload_n dX3_add_12 rfl ?_
    refine g_getR (n := 6) dX3_add_13 fl_X3_15 rfl (by decide) (by decide) rfl rfl ?_
    refine g_aload_n dX3_add_16 rfl ?_
    refine g_getI (n := 6) dX3_add_17 fl_X3_9 rfl (by decide) (by decide) rfl ?_
    refine g_iload_n dX3_add_20 rfl ?_
    refine g_iast (n := 8) dX3_add_21 rfl t.1 ?_
    have t := t.2
    refine g_aload_n dX3_add_22 rfl ?_
    refine g_getR (n := 6) dX3_add_23 fl_X3_19 rfl (by decide) (by decide) rfl rfl ?_
    refine g_aload_n dX3_add_26 rfl ?_
    refine g_getI (n := 6) dX3_add_27 fl_X3_9 rfl (by decide) (by decide) rfl ?_
    refine g_iload_n dX3_add_30 rfl ?_
    refine g_iast (n := 8) dX3_add_31 rfl t.1 ?_
    have t := t.2
    refine g_aload_n dX3_add_32 rfl ?_
    refine g_getR (n := 6) dX3_add_33 fl_X3_22 rfl (by decide) (by decide) rfl rfl ?_
    refine g_aload_n dX3_add_36 rfl ?_
    refine g_getI (n := 6) dX3_add_37 fl_X3_9 rfl (by decide) (by decide) rfl ?_
    refine g_iconst (v := 4) dX3_add_40 (by decide) ?_
    refine g_iast (n := 8) dX3_add_41 rfl t.1 ?_
    have t := t.2
    refine g_aload_n dX3_add_42 rfl ?_
    refine g_getR (n := 6) dX3_add_43 fl_X3_25 rfl (by decide) (by decide) rfl rfl ?_
    refine g_aload_n dX3_add_46 rfl ?_
    refine g_getI (n := 6) dX3_add_47 fl_X3_9 rfl (by decide) (by decide) rfl ?_
    refine g_iconst (v := 0) dX3_add_50 (by decide) ?_
    refine g_iast (n := 8) dX3_add_51 rfl t.1 ?_
    have t := t.2
    refine g_aload_n dX3_add_52 rfl ?_
    refine g_getR (n := 6) dX3_add_53 fl_X3_28 rfl (by decide) (by decide) rfl rfl ?_
    refine g_aload_n dX3_add_56 rfl ?_
    refine g_getI (n := 6) dX3_add_57 fl_X3_9 rfl (by decide) (by decide) rfl ?_
    refine g_iconst (v := 0) dX3_add_60 (by decide) ?_
    refine g_iast (n := 8) dX3_add_61 rfl t.1 ?_
    have t := t.2
    refine g_aload_n dX3_add_62 rfl ?_
    refine g_dup dX3_add_63 rfl ?_
    refine g_getI (n := 6) dX3_add_64 fl_X3_9 rfl (by decide) (by decide) rfl ?_
    refine g_iconst (v := 1) dX3_add_67 (by decide) ?_
    refine g_iadd dX3_add_68 ?_
    refine g_putI (n := 6) dX3_add_69 fl_X3_9 rfl (by decide) (by decide) rfl rfl rfl ?_
    refine g_aload_n dX3_add_72 rfl ?_
    refine g_getI (n := 6) dX3_add_73 fl_X3_9 rfl (by decide) (by decide) rfl ?_
    refine g_iconst (v := 1) dX3_add_76 (by decide) ?_
    refine g_isub dX3_add_77 ?_
    exact g_iret (st := []) dX3_add_78 (fun e => by cases e) ⟨_, rfl, t⟩
  · have t := t.2 c1
    refine g_bipush (v := (-3)) dX3_add_9 (by decide) ?_
    exact g_iret (st := []) dX3_add_11 (fun e => by cases e) ⟨_, rfl, t⟩
theorem w_X3_ring {Q : Int32 → tS → Prop} {S : tS} (p1 : Int32) (p2 : Int32) (t : tk_Gs mX3_ring none 5 [.ref 5, .int p1, .int p2, .int 0, .int 0] [] S (tk_okQ mX3_ring Q)) : tk_Ms mX3_ring [.ref 5, .int p1, .int p2] S Q := by
  refine tk_Ms.of (ls := [.ref 5, .int p1, .int p2, .null, .null]) (by decide) (by first | exact Or.inl rfl | exact Or.inr (Or.inl rfl) | exact Or.inr (Or.inr rfl)) (Nat.le_of_ble_eq_true rfl) rfl ?_
  refine g_iconst (v := 0) dX3_ring_0 (by decide) ?_
  refine g_istore_n (ls' := [.ref 5, .int p1, .int p2, .int 0, .null]) dX3_ring_1 rfl (by decide) rfl ?_
  refine g_iconst (v := 0) dX3_ring_2 (by decide) ?_
  refine g_istore (ls' := [.ref 5, .int p1, .int p2, .int 0, .int 0]) dX3_ring_3 rfl (by decide) rfl ?_
  exact t
theorem w_X3_ring_5 {Q : Int32 → tS → Prop} {S : tS} (l1 : Int32) (l2 : Int32) (l3 : Int32) (l4 : Int32)  (t : (((S 5 0) ≤ l4 → Q l3 S) ∧ (¬ (S 5 0) ≤ l4 → (vp_in l4 8 ∧ ((¬ (S 8 l4.toNatClampNeg) = l1 → tk_Gs mX3_ring none 5 [.ref 5, .int l1, .int l2, .int l3, .int (l4 + 1)] [] S Q) ∧ ((S 8 l4.toNatClampNeg) = l1 → ((l2 = 0 → tk_Gs mX3_ring none 5 [.ref 5, .int l1, .int l2, .int (l3 ||| (1 <<< (l4 &&& 31))), .int (l4 + 1)] [] S Q) ∧ (¬ l2 = 0 → (vp_in l4 8 ∧ (((S 7 l4.toNatClampNeg) = 1 → tk_Gs mX3_ring none 5 [.ref 5, .int l1, .int l2, .int l3, .int (l4 + 1)] [] S Q) ∧ (¬ (S 7 l4.toNatClampNeg) = 1 → tk_Gs mX3_ring none 5 [.ref 5, .int l1, .int l2, .int (l3 ||| (1 <<< (l4 &&& 31))), .int (l4 + 1)] [] S Q))))))))))) : tk_Gs mX3_ring none 5 [.ref 5, .int l1, .int l2, .int l3, .int l4] [] S Q := by
  show tk_G _ 0 0 _ _ _ _ (tkSH, S, tkRF) _
  refine g_iload dX3_ring_5 rfl ?_
  refine g_aload_n dX3_ring_7 rfl ?_
  refine g_getI (n := 6) dX3_ring_8 fl_X3_9 rfl (by decide) (by decide) rfl ?_
  refine g_icmp_ge (tgt := 53) dX3_ring_11 (by decide) (fun c1 => ?_) (fun c1 => ?_)
  · have t := t.1 c1
    refine g_iload_n dX3_ring_53 rfl ?_
    exact g_iret (st := []) dX3_ring_54 (fun e => by cases e) ⟨_, rfl, t⟩
  · have t := t.2 c1
    refine g_aload_n dX3_ring_14 rfl ?_
    refine g_getR (n := 6) dX3_ring_15 fl_X3_22 rfl (by decide) (by decide) rfl rfl ?_
    refine g_iload dX3_ring_18 rfl ?_
    refine g_iald (n := 8) dX3_ring_20 rfl t.1 ?_
    have t := t.2
    refine g_iload_n dX3_ring_21 rfl ?_
    refine g_icmp_ne (tgt := 47) dX3_ring_22 (by decide) (fun c2 => ?_) (fun c2 => ?_)
    · have t := t.1 c2
      refine g_iinc (v := l4 + 1) (ls' := [.ref 5, .int l1, .int l2, .int l3, .int (l4 + 1)]) dX3_ring_47 rfl rfl (by decide) rfl rfl ?_
      refine g_goto (tgt := 5) dX3_ring_50 (by decide) ?_
      exact t
    · have t := t.2 c2
      refine g_iload_n dX3_ring_25 rfl ?_
      refine g_if_eq (tgt := 40) dX3_ring_26 (by decide) (fun c3 => ?_) (fun c3 => ?_)
      · have t := t.1 c3
        refine g_iload_n dX3_ring_40 rfl ?_
        refine g_iconst (v := 1) dX3_ring_41 (by decide) ?_
        refine g_iload dX3_ring_42 rfl ?_
        refine g_ishl dX3_ring_44 ?_
        refine g_ior dX3_ring_45 ?_
        refine g_istore_n (ls' := [.ref 5, .int l1, .int l2, .int (l3 ||| (1 <<< (l4 &&& 31))), .int l4]) dX3_ring_46 rfl (by decide) rfl ?_
        refine g_iinc (v := l4 + 1) (ls' := [.ref 5, .int l1, .int l2, .int (l3 ||| (1 <<< (l4 &&& 31))), .int (l4 + 1)]) dX3_ring_47 rfl rfl (by decide) rfl rfl ?_
        refine g_goto (tgt := 5) dX3_ring_50 (by decide) ?_
        exact t
      · have t := t.2 c3
        refine g_aload_n dX3_ring_29 rfl ?_
        refine g_getR (n := 6) dX3_ring_30 fl_X3_19 rfl (by decide) (by decide) rfl rfl ?_
        refine g_iload dX3_ring_33 rfl ?_
        refine g_iald (n := 8) dX3_ring_35 rfl t.1 ?_
        have t := t.2
        refine g_iconst (v := 1) dX3_ring_36 (by decide) ?_
        refine g_icmp_eq (tgt := 47) dX3_ring_37 (by decide) (fun c4 => ?_) (fun c4 => ?_)
        · have t := t.1 c4
          refine g_iinc (v := l4 + 1) (ls' := [.ref 5, .int l1, .int l2, .int l3, .int (l4 + 1)]) dX3_ring_47 rfl rfl (by decide) rfl rfl ?_
          refine g_goto (tgt := 5) dX3_ring_50 (by decide) ?_
          exact t
        · have t := t.2 c4
          refine g_iload_n dX3_ring_40 rfl ?_
          refine g_iconst (v := 1) dX3_ring_41 (by decide) ?_
          refine g_iload dX3_ring_42 rfl ?_
          refine g_ishl dX3_ring_44 ?_
          refine g_ior dX3_ring_45 ?_
          refine g_istore_n (ls' := [.ref 5, .int l1, .int l2, .int (l3 ||| (1 <<< (l4 &&& 31))), .int l4]) dX3_ring_46 rfl (by decide) rfl ?_
          refine g_iinc (v := l4 + 1) (ls' := [.ref 5, .int l1, .int l2, .int (l3 ||| (1 <<< (l4 &&& 31))), .int (l4 + 1)]) dX3_ring_47 rfl rfl (by decide) rfl rfl ?_
          refine g_goto (tgt := 5) dX3_ring_50 (by decide) ?_
          exact t
theorem w_X3_stain {Q : Int32 → tS → Prop} {S : tS} (p1 : Int32) (p2 : Int32) (p3 : Int32) (t : tk_Gs mX3_stain none 3 [.ref 5, .int p1, .int p2, .int p3, .int 0] [] S (tk_okQ mX3_stain Q)) : tk_Ms mX3_stain [.ref 5, .int p1, .int p2, .int p3] S Q := by
  refine tk_Ms.of (ls := [.ref 5, .int p1, .int p2, .int p3, .null]) (by decide) (by first | exact Or.inl rfl | exact Or.inr (Or.inl rfl) | exact Or.inr (Or.inr rfl)) (Nat.le_of_ble_eq_true rfl) rfl ?_
  refine g_iconst (v := 0) dX3_stain_0 (by decide) ?_
  refine g_istore (ls' := [.ref 5, .int p1, .int p2, .int p3, .int 0]) dX3_stain_1 rfl (by decide) rfl ?_
  exact t
theorem w_X3_stain_3 {Q : Int32 → tS → Prop} {S : tS} (l1 : Int32) (l2 : Int32) (l3 : Int32) (l4 : Int32)  (t : (((S 5 0) ≤ l4 → Q 0 S) ∧ (¬ (S 5 0) ≤ l4 → ((((l1 >>> (l4 &&& 31)) &&& 1) = 0 → tk_Gs mX3_stain none 3 [.ref 5, .int l1, .int l2, .int l3, .int (l4 + 1)] [] S Q) ∧ (¬ ((l1 >>> (l4 &&& 31)) &&& 1) = 0 → (vp_in l4 8 ∧ ((¬ (S 7 l4.toNatClampNeg) = 1 → tk_Gs mX3_stain none 3 [.ref 5, .int l1, .int l2, .int l3, .int (l4 + 1)] [] S Q) ∧ ((S 7 l4.toNatClampNeg) = 1 → (vp_in l4 8 ∧ ((l2 ≤ (S 9 l4.toNatClampNeg) → tk_Gs mX3_stain none 3 [.ref 5, .int l1, .int l2, .int l3, .int (l4 + 1)] [] S Q) ∧ (¬ l2 ≤ (S 9 l4.toNatClampNeg) → (vp_in l4 8 ∧ (vp_in l4 8 ∧ tk_Gs mX3_stain none 3 [.ref 5, .int l1, .int l2, .int l3, .int (l4 + 1)] [] (tk_up (tk_up S 9 l4.toNatClampNeg l2) 10 l4.toNatClampNeg l3) Q))))))))))))) : tk_Gs mX3_stain none 3 [.ref 5, .int l1, .int l2, .int l3, .int l4] [] S Q := by
  show tk_G _ 0 0 _ _ _ _ (tkSH, S, tkRF) _
  refine g_iload dX3_stain_3 rfl ?_
  refine g_aload_n dX3_stain_5 rfl ?_
  refine g_getI (n := 6) dX3_stain_6 fl_X3_9 rfl (by decide) (by decide) rfl ?_
  refine g_icmp_ge (tgt := 65) dX3_stain_9 (by decide) (fun c1 => ?_) (fun c1 => ?_)
  · have t := t.1 c1
    exact g_vret (st := []) dX3_stain_65 rfl ⟨_, rfl, t⟩
  · have t := t.2 c1
    refine g_iload_n dX3_stain_12 rfl ?_
    refine g_iload dX3_stain_13 rfl ?_
    refine g_ishr dX3_stain_15 ?_
    refine g_iconst (v := 1) dX3_stain_16 (by decide) ?_
    refine g_iand dX3_stain_17 ?_
    refine g_if_eq (tgt := 59) dX3_stain_18 (by decide) (fun c2 => ?_) (fun c2 => ?_)
    · have t := t.1 c2
      refine g_iinc (v := l4 + 1) (ls' := [.ref 5, .int l1, .int l2, .int l3, .int (l4 + 1)]) dX3_stain_59 rfl rfl (by decide) rfl rfl ?_
      refine g_goto (tgt := 3) dX3_stain_62 (by decide) ?_
      exact t
    · have t := t.2 c2
      refine g_aload_n dX3_stain_21 rfl ?_
      refine g_getR (n := 6) dX3_stain_22 fl_X3_19 rfl (by decide) (by decide) rfl rfl ?_
      refine g_iload dX3_stain_25 rfl ?_
      refine g_iald (n := 8) dX3_stain_27 rfl t.1 ?_
      have t := t.2
      refine g_iconst (v := 1) dX3_stain_28 (by decide) ?_
      refine g_icmp_ne (tgt := 59) dX3_stain_29 (by decide) (fun c3 => ?_) (fun c3 => ?_)
      · have t := t.1 c3
        refine g_iinc (v := l4 + 1) (ls' := [.ref 5, .int l1, .int l2, .int l3, .int (l4 + 1)]) dX3_stain_59 rfl rfl (by decide) rfl rfl ?_
        refine g_goto (tgt := 3) dX3_stain_62 (by decide) ?_
        exact t
      · have t := t.2 c3
        refine g_aload_n dX3_stain_32 rfl ?_
        refine g_getR (n := 6) dX3_stain_33 fl_X3_25 rfl (by decide) (by decide) rfl rfl ?_
        refine g_iload dX3_stain_36 rfl ?_
        refine g_iald (n := 8) dX3_stain_38 rfl t.1 ?_
        have t := t.2
        refine g_iload_n dX3_stain_39 rfl ?_
        refine g_icmp_ge (tgt := 59) dX3_stain_40 (by decide) (fun c4 => ?_) (fun c4 => ?_)
        · have t := t.1 c4
          refine g_iinc (v := l4 + 1) (ls' := [.ref 5, .int l1, .int l2, .int l3, .int (l4 + 1)]) dX3_stain_59 rfl rfl (by decide) rfl rfl ?_
          refine g_goto (tgt := 3) dX3_stain_62 (by decide) ?_
          exact t
        · have t := t.2 c4
          refine g_aload_n dX3_stain_43 rfl ?_
          refine g_getR (n := 6) dX3_stain_44 fl_X3_25 rfl (by decide) (by decide) rfl rfl ?_
          refine g_iload dX3_stain_47 rfl ?_
          refine g_iload_n dX3_stain_49 rfl ?_
          refine g_iast (n := 8) dX3_stain_50 rfl t.1 ?_
          have t := t.2
          refine g_aload_n dX3_stain_51 rfl ?_
          refine g_getR (n := 6) dX3_stain_52 fl_X3_28 rfl (by decide) (by decide) rfl rfl ?_
          refine g_iload dX3_stain_55 rfl ?_
          refine g_iload_n dX3_stain_57 rfl ?_
          refine g_iast (n := 8) dX3_stain_58 rfl t.1 ?_
          have t := t.2
          refine g_iinc (v := l4 + 1) (ls' := [.ref 5, .int l1, .int l2, .int l3, .int (l4 + 1)]) dX3_stain_59 rfl rfl (by decide) rfl rfl ?_
          refine g_goto (tgt := 3) dX3_stain_62 (by decide) ?_
          exact t
theorem w_X3_halve {Q : Int32 → tS → Prop} {S : tS} (p1 : Int32) (t : (vp_in p1 8 ∧ (vp_in p1 8 ∧ (vp_in p1 8 ∧ ((¬ ((tk_up S 9 p1.toNatClampNeg ((S 9 p1.toNatClampNeg) / 2)) 9 p1.toNatClampNeg) = 0 → (tk_okQ mX3_halve Q) 0 (tk_up S 9 p1.toNatClampNeg ((S 9 p1.toNatClampNeg) / 2))) ∧ (((tk_up S 9 p1.toNatClampNeg ((S 9 p1.toNatClampNeg) / 2)) 9 p1.toNatClampNeg) = 0 → (vp_in p1 8 ∧ (tk_okQ mX3_halve Q) 0 (tk_up (tk_up S 9 p1.toNatClampNeg ((S 9 p1.toNatClampNeg) / 2)) 10 p1.toNatClampNeg 0)))))))) : tk_Ms mX3_halve [.ref 5, .int p1] S Q := by
  refine tk_Ms.of (ls := [.ref 5, .int p1]) (by decide) (by first | exact Or.inl rfl | exact Or.inr (Or.inl rfl) | exact Or.inr (Or.inr rfl)) (Nat.le_of_ble_eq_true rfl) rfl ?_
  refine g_aload_n dX3_halve_0 rfl ?_
  refine g_getR (n := 6) dX3_halve_1 fl_X3_25 rfl (by decide) (by decide) rfl rfl ?_
  refine g_iload_n dX3_halve_4 rfl ?_
  refine g_aload_n dX3_halve_5 rfl ?_
  refine g_getR (n := 6) dX3_halve_6 fl_X3_25 rfl (by decide) (by decide) rfl rfl ?_
  refine g_iload_n dX3_halve_9 rfl ?_
  refine g_iald (n := 8) dX3_halve_10 rfl t.1 ?_
  have t := t.2
  refine g_iconst (v := 2) dX3_halve_11 (by decide) ?_
  refine g_idiv dX3_halve_12 (by decide) ?_
  refine g_iast (n := 8) dX3_halve_13 rfl t.1 ?_
  have t := t.2
  refine g_aload_n dX3_halve_14 rfl ?_
  refine g_getR (n := 6) dX3_halve_15 fl_X3_25 rfl (by decide) (by decide) rfl rfl ?_
  refine g_iload_n dX3_halve_18 rfl ?_
  refine g_iald (n := 8) dX3_halve_19 rfl t.1 ?_
  have t := t.2
  refine g_if_ne (tgt := 30) dX3_halve_20 (by decide) (fun c1 => ?_) (fun c1 => ?_)
  · have t := t.1 c1
    exact g_vret (st := []) dX3_halve_30 rfl ⟨_, rfl, t⟩
  · have t := t.2 c1
    refine g_aload_n dX3_halve_23 rfl ?_
    refine g_getR (n := 6) dX3_halve_24 fl_X3_28 rfl (by decide) (by decide) rfl rfl ?_
    refine g_iload_n dX3_halve_27 rfl ?_
    refine g_iconst (v := 0) dX3_halve_28 (by decide) ?_
    refine g_iast (n := 8) dX3_halve_29 rfl t.1 ?_
    have t := t.2
    exact g_vret (st := []) dX3_halve_30 rfl ⟨_, rfl, t⟩
theorem w_X3_stained {Q : Int32 → tS → Prop} {S : tS}  (t : tk_Gs mX3_stained none 4 [.ref 5, .int 0, .int 0] [] S (tk_okQ mX3_stained Q)) : tk_Ms mX3_stained [.ref 5] S Q := by
  refine tk_Ms.of (ls := [.ref 5, .null, .null]) (by decide) (by first | exact Or.inl rfl | exact Or.inr (Or.inl rfl) | exact Or.inr (Or.inr rfl)) (Nat.le_of_ble_eq_true rfl) rfl ?_
  refine g_iconst (v := 0) dX3_stained_0 (by decide) ?_
  refine g_istore_n (ls' := [.ref 5, .int 0, .null]) dX3_stained_1 rfl (by decide) rfl ?_
  refine g_iconst (v := 0) dX3_stained_2 (by decide) ?_
  refine g_istore_n (ls' := [.ref 5, .int 0, .int 0]) dX3_stained_3 rfl (by decide) rfl ?_
  exact t
theorem w_X3_stained_4 {Q : Int32 → tS → Prop} {S : tS} (l1 : Int32) (l2 : Int32)  (t : (((S 5 0) ≤ l2 → Q l1 S) ∧ (¬ (S 5 0) ≤ l2 → (vp_in l2 8 ∧ (((S 9 l2.toNatClampNeg) ≤ 0 → tk_Gs mX3_stained none 4 [.ref 5, .int (l1 + 0), .int (l2 + 1)] [] S Q) ∧ (¬ (S 9 l2.toNatClampNeg) ≤ 0 → tk_Gs mX3_stained none 4 [.ref 5, .int (l1 + 1), .int (l2 + 1)] [] S Q)))))) : tk_Gs mX3_stained none 4 [.ref 5, .int l1, .int l2] [] S Q := by
  show tk_G _ 0 0 _ _ _ _ (tkSH, S, tkRF) _
  refine g_iload_n dX3_stained_4 rfl ?_
  refine g_aload_n dX3_stained_5 rfl ?_
  refine g_getI (n := 6) dX3_stained_6 fl_X3_9 rfl (by decide) (by decide) rfl ?_
  refine g_icmp_ge (tgt := 35) dX3_stained_9 (by decide) (fun c1 => ?_) (fun c1 => ?_)
  · have t := t.1 c1
    refine g_iload_n dX3_stained_35 rfl ?_
    exact g_iret (st := []) dX3_stained_36 (fun e => by cases e) ⟨_, rfl, t⟩
  · have t := t.2 c1
    refine g_iload_n dX3_stained_12 rfl ?_
    refine g_aload_n dX3_stained_13 rfl ?_
    refine g_getR (n := 6) dX3_stained_14 fl_X3_25 rfl (by decide) (by decide) rfl rfl ?_
    refine g_iload_n dX3_stained_17 rfl ?_
    refine g_iald (n := 8) dX3_stained_18 rfl t.1 ?_
    have t := t.2
    refine g_if_le (tgt := 26) dX3_stained_19 (by decide) (fun c2 => ?_) (fun c2 => ?_)
    · have t := t.1 c2
      refine g_iconst (v := 0) dX3_stained_26 (by decide) ?_
      refine g_iadd dX3_stained_27 ?_
      refine g_istore_n (ls' := [.ref 5, .int (l1 + 0), .int l2]) dX3_stained_28 rfl (by decide) rfl ?_
      refine g_iinc (v := l2 + 1) (ls' := [.ref 5, .int (l1 + 0), .int (l2 + 1)]) dX3_stained_29 rfl rfl (by decide) rfl rfl ?_
      refine g_goto (tgt := 4) dX3_stained_32 (by decide) ?_
      exact t
    · have t := t.2 c2
      refine g_iconst (v := 1) dX3_stained_22 (by decide) ?_
      refine g_goto (tgt := 27) dX3_stained_23 (by decide) ?_
      refine g_iadd dX3_stained_27 ?_
      refine g_istore_n (ls' := [.ref 5, .int (l1 + 1), .int l2]) dX3_stained_28 rfl (by decide) rfl ?_
      refine g_iinc (v := l2 + 1) (ls' := [.ref 5, .int (l1 + 1), .int (l2 + 1)]) dX3_stained_29 rfl rfl (by decide) rfl rfl ?_
      refine g_goto (tgt := 4) dX3_stained_32 (by decide) ?_
      exact t
theorem w_X3_showing {Q : Int32 → tS → Prop} {S : tS} (p1 : Int32) (t : tk_Gs mX3_showing none 4 [.ref 5, .int p1, .int 0, .int 0] [] S (tk_okQ mX3_showing Q)) : tk_Ms mX3_showing [.ref 5, .int p1] S Q := by
  refine tk_Ms.of (ls := [.ref 5, .int p1, .null, .null]) (by decide) (by first | exact Or.inl rfl | exact Or.inr (Or.inl rfl) | exact Or.inr (Or.inr rfl)) (Nat.le_of_ble_eq_true rfl) rfl ?_
  refine g_iconst (v := 0) dX3_showing_0 (by decide) ?_
  refine g_istore_n (ls' := [.ref 5, .int p1, .int 0, .null]) dX3_showing_1 rfl (by decide) rfl ?_
  refine g_iconst (v := 0) dX3_showing_2 (by decide) ?_
  refine g_istore_n (ls' := [.ref 5, .int p1, .int 0, .int 0]) dX3_showing_3 rfl (by decide) rfl ?_
  exact t
theorem w_X3_showing_4 {Q : Int32 → tS → Prop} {S : tS} (l1 : Int32) (l2 : Int32) (l3 : Int32)  (t : (((S 5 0) ≤ l3 → Q l2 S) ∧ (¬ (S 5 0) ≤ l3 → (tk_Ms mX3_showsOn [.ref 5, .int l3, .int l1] S (fun x2 S3 => ((x2 ≤ 0 → tk_Gs mX3_showing none 4 [.ref 5, .int l1, .int (l2 + 0), .int (l3 + 1)] [] S3 Q) ∧ (¬ x2 ≤ 0 → tk_Gs mX3_showing none 4 [.ref 5, .int l1, .int (l2 + 1), .int (l3 + 1)] [] S3 Q))))))) : tk_Gs mX3_showing none 4 [.ref 5, .int l1, .int l2, .int l3] [] S Q := by
  show tk_G _ 0 0 _ _ _ _ (tkSH, S, tkRF) _
  refine g_iload_n dX3_showing_4 rfl ?_
  refine g_aload_n dX3_showing_5 rfl ?_
  refine g_getI (n := 6) dX3_showing_6 fl_X3_9 rfl (by decide) (by decide) rfl ?_
  refine g_icmp_ge (tgt := 35) dX3_showing_9 (by decide) (fun c1 => ?_) (fun c1 => ?_)
  · have t := t.1 c1
    refine g_iload_n dX3_showing_35 rfl ?_
    exact g_iret (st := []) dX3_showing_36 (fun e => by cases e) ⟨_, rfl, t⟩
  · have t := t.2 c1
    refine g_iload_n dX3_showing_12 rfl ?_
    refine g_aload_n dX3_showing_13 rfl ?_
    refine g_iload_n dX3_showing_14 rfl ?_
    refine g_iload_n dX3_showing_15 rfl ?_
    refine s_V2i dX3_showing_16 vm_X3_showsOn ml_X3_37 rfl rfl (by decide) (Nat.le_of_ble_eq_true rfl) rfl (tk_Ms.mono t (fun x2 S3 t => ?_))
    refine g_if_le (tgt := 26) dX3_showing_19 (by decide) (fun c4 => ?_) (fun c4 => ?_)
    · have t := t.1 c4
      refine g_iconst (v := 0) dX3_showing_26 (by decide) ?_
      refine g_iadd dX3_showing_27 ?_
      refine g_istore_n (ls' := [.ref 5, .int l1, .int (l2 + 0), .int l3]) dX3_showing_28 rfl (by decide) rfl ?_
      refine g_iinc (v := l3 + 1) (ls' := [.ref 5, .int l1, .int (l2 + 0), .int (l3 + 1)]) dX3_showing_29 rfl rfl (by decide) rfl rfl ?_
      refine g_goto (tgt := 4) dX3_showing_32 (by decide) ?_
      exact t
    · have t := t.2 c4
      refine g_iconst (v := 1) dX3_showing_22 (by decide) ?_
      refine g_goto (tgt := 27) dX3_showing_23 (by decide) ?_
      refine g_iadd dX3_showing_27 ?_
      refine g_istore_n (ls' := [.ref 5, .int l1, .int (l2 + 1), .int l3]) dX3_showing_28 rfl (by decide) rfl ?_
      refine g_iinc (v := l3 + 1) (ls' := [.ref 5, .int l1, .int (l2 + 1), .int (l3 + 1)]) dX3_showing_29 rfl rfl (by decide) rfl rfl ?_
      refine g_goto (tgt := 4) dX3_showing_32 (by decide) ?_
      exact t
theorem w_X3_showsOn {Q : Int32 → tS → Prop} {S : tS} (p1 : Int32) (p2 : Int32) (t : (vp_in p1 8 ∧ (vp_in p1 8 ∧ (vp_in p1 8 ∧ (tk_Ms mX3_shows [.int (S 6 p1.toNatClampNeg), .int (S 9 p1.toNatClampNeg), .int (p2 - (S 10 p1.toNatClampNeg))] S (fun x1 S2 => (tk_okQ mX3_showsOn Q) x1 S2)))))) : tk_Ms mX3_showsOn [.ref 5, .int p1, .int p2] S Q := by
  refine tk_Ms.of (ls := [.ref 5, .int p1, .int p2]) (by decide) (by first | exact Or.inl rfl | exact Or.inr (Or.inl rfl) | exact Or.inr (Or.inr rfl)) (Nat.le_of_ble_eq_true rfl) rfl ?_
  refine g_aload_n dX3_showsOn_0 rfl ?_
  refine g_getR (n := 6) dX3_showsOn_1 fl_X3_15 rfl (by decide) (by decide) rfl rfl ?_
  refine g_iload_n dX3_showsOn_4 rfl ?_
  refine g_iald (n := 8) dX3_showsOn_5 rfl t.1 ?_
  have t := t.2
  refine g_aload_n dX3_showsOn_6 rfl ?_
  refine g_getR (n := 6) dX3_showsOn_7 fl_X3_25 rfl (by decide) (by decide) rfl rfl ?_
  refine g_iload_n dX3_showsOn_10 rfl ?_
  refine g_iald (n := 8) dX3_showsOn_11 rfl t.1 ?_
  have t := t.2
  refine g_iload_n dX3_showsOn_12 rfl ?_
  refine g_aload_n dX3_showsOn_13 rfl ?_
  refine g_getR (n := 6) dX3_showsOn_14 fl_X3_28 rfl (by decide) (by decide) rfl rfl ?_
  refine g_iload_n dX3_showsOn_17 rfl ?_
  refine g_iald (n := 8) dX3_showsOn_18 rfl t.1 ?_
  have t := t.2
  refine g_isub dX3_showsOn_19 ?_
  refine s_S3i dX3_showsOn_20 sm_X3_shows ml_X3_41 rfl (by decide) (Nat.le_of_ble_eq_true rfl) rfl (tk_Ms.mono t (fun x1 S2 t => ?_))
  exact g_iret (st := []) dX3_showsOn_23 (fun e => by cases e) ⟨_, rfl, t⟩
theorem w_X3_shows {Q : Int32 → tS → Prop} {S : tS} (p1 : Int32) (p2 : Int32) (p3 : Int32) (t : ((p1 = 1 → (tk_okQ mX3_shows Q) (if (if 0 < (p3 - 2) then (p3 - 2) else 0) < p2 then (if 0 < (p3 - 2) then (p3 - 2) else 0) else p2) S) ∧ (¬ p1 = 1 → ((¬ p1 = 3 → ((¬ p1 = 2 → (tk_okQ mX3_shows Q) (if p3 < p2 then p3 else p2) S) ∧ (p1 = 2 → (tk_okQ mX3_shows Q) (if (2 * p3) < p2 then (2 * p3) else p2) S))) ∧ (p1 = 3 → (tk_okQ mX3_shows Q) (if (if 0 < (p3 - 2) then (p3 - 2) else 0) < p2 then (if 0 < (p3 - 2) then (p3 - 2) else 0) else p2) S))))) : tk_Ms mX3_shows [.int p1, .int p2, .int p3] S Q := by
  refine tk_Ms.of (ls := [.int p1, .int p2, .int p3, .null]) (by decide) (by first | exact Or.inl rfl | exact Or.inr (Or.inl rfl) | exact Or.inr (Or.inr rfl)) (Nat.le_of_ble_eq_true rfl) rfl ?_
  refine g_iload_n dX3_shows_0 rfl ?_
  refine g_istore_n (ls' := [.int p1, .int p2, .int p3, .int p3]) dX3_shows_1 rfl (by decide) rfl ?_
  refine g_iload_n dX3_shows_2 rfl ?_
  refine g_iconst (v := 1) dX3_shows_3 (by decide) ?_
  refine g_icmp_eq (tgt := 12) dX3_shows_4 (by decide) (fun c1 => ?_) (fun c1 => ?_)
  · have t := t.1 c1
    refine g_iconst (v := 0) dX3_shows_12 (by decide) ?_
    refine g_iload_n dX3_shows_13 rfl ?_
    refine g_iconst (v := 2) dX3_shows_14 (by decide) ?_
    refine g_isub dX3_shows_15 ?_
    refine g_max dX3_shows_16 ml_X3_45 (by decide) (Nat.le_of_ble_eq_true rfl) ?_
    refine g_istore_n (ls' := [.int p1, .int p2, .int p3, .int (if 0 < (p3 - 2) then (p3 - 2) else 0)]) dX3_shows_19 rfl (by decide) rfl ?_
    refine g_goto (tgt := 32) dX3_shows_20 (by decide) ?_
    refine g_iload_n dX3_shows_32 rfl ?_
    refine g_iload_n dX3_shows_33 rfl ?_
    refine g_min dX3_shows_34 ml_X3_50 (by decide) (Nat.le_of_ble_eq_true rfl) ?_
    exact g_iret (st := []) dX3_shows_37 (fun e => by cases e) ⟨_, rfl, t⟩
  · have t := t.2 c1
    refine g_iload_n dX3_shows_7 rfl ?_
    refine g_iconst (v := 3) dX3_shows_8 (by decide) ?_
    refine g_icmp_ne (tgt := 23) dX3_shows_9 (by decide) (fun c2 => ?_) (fun c2 => ?_)
    · have t := t.1 c2
      refine g_iload_n dX3_shows_23 rfl ?_
      refine g_iconst (v := 2) dX3_shows_24 (by decide) ?_
      refine g_icmp_ne (tgt := 32) dX3_shows_25 (by decide) (fun c3 => ?_) (fun c3 => ?_)
      · have t := t.1 c3
        refine g_iload_n dX3_shows_32 rfl ?_
        refine g_iload_n dX3_shows_33 rfl ?_
        refine g_min dX3_shows_34 ml_X3_50 (by decide) (Nat.le_of_ble_eq_true rfl) ?_
        exact g_iret (st := []) dX3_shows_37 (fun e => by cases e) ⟨_, rfl, t⟩
      · have t := t.2 c3
        refine g_iconst (v := 2) dX3_shows_28 (by decide) ?_
        refine g_iload_n dX3_shows_29 rfl ?_
        refine g_imul dX3_shows_30 ?_
        refine g_istore_n (ls' := [.int p1, .int p2, .int p3, .int (2 * p3)]) dX3_shows_31 rfl (by decide) rfl ?_
        refine g_iload_n dX3_shows_32 rfl ?_
        refine g_iload_n dX3_shows_33 rfl ?_
        refine g_min dX3_shows_34 ml_X3_50 (by decide) (Nat.le_of_ble_eq_true rfl) ?_
        exact g_iret (st := []) dX3_shows_37 (fun e => by cases e) ⟨_, rfl, t⟩
    · have t := t.2 c2
      refine g_iconst (v := 0) dX3_shows_12 (by decide) ?_
      refine g_iload_n dX3_shows_13 rfl ?_
      refine g_iconst (v := 2) dX3_shows_14 (by decide) ?_
      refine g_isub dX3_shows_15 ?_
      refine g_max dX3_shows_16 ml_X3_45 (by decide) (Nat.le_of_ble_eq_true rfl) ?_
      refine g_istore_n (ls' := [.int p1, .int p2, .int p3, .int (if 0 < (p3 - 2) then (p3 - 2) else 0)]) dX3_shows_19 rfl (by decide) rfl ?_
      refine g_goto (tgt := 32) dX3_shows_20 (by decide) ?_
      refine g_iload_n dX3_shows_32 rfl ?_
      refine g_iload_n dX3_shows_33 rfl ?_
      refine g_min dX3_shows_34 ml_X3_50 (by decide) (Nat.le_of_ble_eq_true rfl) ?_
      exact g_iret (st := []) dX3_shows_37 (fun e => by cases e) ⟨_, rfl, t⟩
theorem w_X3_becomeLike_5_15 {Q : Int32 → tS → Prop} {S : tS}  (t : (¬ (0 : Int32) < 0 ∧ ¬ (0 : Int32) < 0 ∧ ¬ (8 : Int32) < 0 ∧ (0 : Int32).toNatClampNeg + (8 : Int32).toNatClampNeg ≤ 8 ∧ (0 : Int32).toNatClampNeg + (8 : Int32).toNatClampNeg ≤ 8 ∧ (¬ (0 : Int32) < 0 ∧ ¬ (0 : Int32) < 0 ∧ ¬ (8 : Int32) < 0 ∧ (0 : Int32).toNatClampNeg + (8 : Int32).toNatClampNeg ≤ 8 ∧ (0 : Int32).toNatClampNeg + (8 : Int32).toNatClampNeg ≤ 8 ∧ (¬ (0 : Int32) < 0 ∧ ¬ (0 : Int32) < 0 ∧ ¬ (8 : Int32) < 0 ∧ (0 : Int32).toNatClampNeg + (8 : Int32).toNatClampNeg ≤ 8 ∧ (0 : Int32).toNatClampNeg + (8 : Int32).toNatClampNeg ≤ 8 ∧ (¬ (0 : Int32) < 0 ∧ ¬ (0 : Int32) < 0 ∧ ¬ (8 : Int32) < 0 ∧ (0 : Int32).toNatClampNeg + (8 : Int32).toNatClampNeg ≤ 8 ∧ (0 : Int32).toNatClampNeg + (8 : Int32).toNatClampNeg ≤ 8 ∧ (¬ (0 : Int32) < 0 ∧ ¬ (0 : Int32) < 0 ∧ ¬ (8 : Int32) < 0 ∧ (0 : Int32).toNatClampNeg + (8 : Int32).toNatClampNeg ≤ 8 ∧ (0 : Int32).toNatClampNeg + (8 : Int32).toNatClampNeg ≤ 8 ∧ (tk_okQ mX3_becomeLike Q) 0 (tk_upR (tk_upR (tk_upR (tk_upR (tk_upR (tk_up S 5 0 (S 15 0)) 6 (va_cpy (S 16) (S 6) (0 : Int32).toNatClampNeg (0 : Int32).toNatClampNeg (8 : Int32).toNatClampNeg)) 7 (va_cpy (S 17) (S 7) (0 : Int32).toNatClampNeg (0 : Int32).toNatClampNeg (8 : Int32).toNatClampNeg)) 8 (va_cpy (S 18) (S 8) (0 : Int32).toNatClampNeg (0 : Int32).toNatClampNeg (8 : Int32).toNatClampNeg)) 9 (va_cpy (S 19) (S 9) (0 : Int32).toNatClampNeg (0 : Int32).toNatClampNeg (8 : Int32).toNatClampNeg)) 10 (va_cpy (S 20) (S 10) (0 : Int32).toNatClampNeg (0 : Int32).toNatClampNeg (8 : Int32).toNatClampNeg)))))))) : tk_Ms mX3_becomeLike [.ref 5, .ref 15] S Q := by
  refine tk_Ms.of (ls := [.ref 5, .ref 15]) (by decide) (by first | exact Or.inl rfl | exact Or.inr (Or.inl rfl) | exact Or.inr (Or.inr rfl)) (Nat.le_of_ble_eq_true rfl) rfl ?_
  refine g_aload_n dX3_becomeLike_0 rfl ?_
  refine g_aload_n dX3_becomeLike_1 rfl ?_
  refine g_getI (n := 6) dX3_becomeLike_2 fl_X3_9 rfl (by decide) (by decide) rfl ?_
  refine g_putI (n := 6) dX3_becomeLike_5 fl_X3_9 rfl (by decide) (by decide) rfl rfl rfl ?_
  refine g_aload_n dX3_becomeLike_8 rfl ?_
  refine g_getR (n := 6) dX3_becomeLike_9 fl_X3_15 rfl (by decide) (by decide) rfl rfl ?_
  refine g_iconst (v := 0) dX3_becomeLike_12 (by decide) ?_
  refine g_aload_n dX3_becomeLike_13 rfl ?_
  refine g_getR (n := 6) dX3_becomeLike_14 fl_X3_15 rfl (by decide) (by decide) rfl rfl ?_
  refine g_iconst (v := 0) dX3_becomeLike_17 (by decide) ?_
  refine g_bipush (v := 8) dX3_becomeLike_18 (by decide) ?_
  refine g_acopy (n0 := 8) (n1 := 8) dX3_becomeLike_20 ml_X3_31 (by decide) (Nat.le_of_ble_eq_true rfl) rfl rfl t.1 t.2.1 t.2.2.1 t.2.2.2.1 t.2.2.2.2.1 ?_
  have t := t.2.2.2.2.2
  refine g_aload_n dX3_becomeLike_23 rfl ?_
  refine g_getR (n := 6) dX3_becomeLike_24 fl_X3_19 rfl (by decide) (by decide) rfl rfl ?_
  refine g_iconst (v := 0) dX3_becomeLike_27 (by decide) ?_
  refine g_aload_n dX3_becomeLike_28 rfl ?_
  refine g_getR (n := 6) dX3_becomeLike_29 fl_X3_19 rfl (by decide) (by decide) rfl rfl ?_
  refine g_iconst (v := 0) dX3_becomeLike_32 (by decide) ?_
  refine g_bipush (v := 8) dX3_becomeLike_33 (by decide) ?_
  refine g_acopy (n0 := 8) (n1 := 8) dX3_becomeLike_35 ml_X3_31 (by decide) (Nat.le_of_ble_eq_true rfl) rfl rfl t.1 t.2.1 t.2.2.1 t.2.2.2.1 t.2.2.2.2.1 ?_
  have t := t.2.2.2.2.2
  refine g_aload_n dX3_becomeLike_38 rfl ?_
  refine g_getR (n := 6) dX3_becomeLike_39 fl_X3_22 rfl (by decide) (by decide) rfl rfl ?_
  refine g_iconst (v := 0) dX3_becomeLike_42 (by decide) ?_
  refine g_aload_n dX3_becomeLike_43 rfl ?_
  refine g_getR (n := 6) dX3_becomeLike_44 fl_X3_22 rfl (by decide) (by decide) rfl rfl ?_
  refine g_iconst (v := 0) dX3_becomeLike_47 (by decide) ?_
  refine g_bipush (v := 8) dX3_becomeLike_48 (by decide) ?_
  refine g_acopy (n0 := 8) (n1 := 8) dX3_becomeLike_50 ml_X3_31 (by decide) (Nat.le_of_ble_eq_true rfl) rfl rfl t.1 t.2.1 t.2.2.1 t.2.2.2.1 t.2.2.2.2.1 ?_
  have t := t.2.2.2.2.2
  refine g_aload_n dX3_becomeLike_53 rfl ?_
  refine g_getR (n := 6) dX3_becomeLike_54 fl_X3_25 rfl (by decide) (by decide) rfl rfl ?_
  refine g_iconst (v := 0) dX3_becomeLike_57 (by decide) ?_
  refine g_aload_n dX3_becomeLike_58 rfl ?_
  refine g_getR (n := 6) dX3_becomeLike_59 fl_X3_25 rfl (by decide) (by decide) rfl rfl ?_
  refine g_iconst (v := 0) dX3_becomeLike_62 (by decide) ?_
  refine g_bipush (v := 8) dX3_becomeLike_63 (by decide) ?_
  refine g_acopy (n0 := 8) (n1 := 8) dX3_becomeLike_65 ml_X3_31 (by decide) (Nat.le_of_ble_eq_true rfl) rfl rfl t.1 t.2.1 t.2.2.1 t.2.2.2.1 t.2.2.2.2.1 ?_
  have t := t.2.2.2.2.2
  refine g_aload_n dX3_becomeLike_68 rfl ?_
  refine g_getR (n := 6) dX3_becomeLike_69 fl_X3_28 rfl (by decide) (by decide) rfl rfl ?_
  refine g_iconst (v := 0) dX3_becomeLike_72 (by decide) ?_
  refine g_aload_n dX3_becomeLike_73 rfl ?_
  refine g_getR (n := 6) dX3_becomeLike_74 fl_X3_28 rfl (by decide) (by decide) rfl rfl ?_
  refine g_iconst (v := 0) dX3_becomeLike_77 (by decide) ?_
  refine g_bipush (v := 8) dX3_becomeLike_78 (by decide) ?_
  refine g_acopy (n0 := 8) (n1 := 8) dX3_becomeLike_80 ml_X3_31 (by decide) (Nat.le_of_ble_eq_true rfl) rfl rfl t.1 t.2.1 t.2.2.1 t.2.2.2.1 t.2.2.2.2.1 ?_
  have t := t.2.2.2.2.2
  exact g_vret (st := []) dX3_becomeLike_83 rfl ⟨_, rfl, t⟩
theorem w_X3_becomeLike_15_5 {Q : Int32 → tS → Prop} {S : tS}  (t : (¬ (0 : Int32) < 0 ∧ ¬ (0 : Int32) < 0 ∧ ¬ (8 : Int32) < 0 ∧ (0 : Int32).toNatClampNeg + (8 : Int32).toNatClampNeg ≤ 8 ∧ (0 : Int32).toNatClampNeg + (8 : Int32).toNatClampNeg ≤ 8 ∧ (¬ (0 : Int32) < 0 ∧ ¬ (0 : Int32) < 0 ∧ ¬ (8 : Int32) < 0 ∧ (0 : Int32).toNatClampNeg + (8 : Int32).toNatClampNeg ≤ 8 ∧ (0 : Int32).toNatClampNeg + (8 : Int32).toNatClampNeg ≤ 8 ∧ (¬ (0 : Int32) < 0 ∧ ¬ (0 : Int32) < 0 ∧ ¬ (8 : Int32) < 0 ∧ (0 : Int32).toNatClampNeg + (8 : Int32).toNatClampNeg ≤ 8 ∧ (0 : Int32).toNatClampNeg + (8 : Int32).toNatClampNeg ≤ 8 ∧ (¬ (0 : Int32) < 0 ∧ ¬ (0 : Int32) < 0 ∧ ¬ (8 : Int32) < 0 ∧ (0 : Int32).toNatClampNeg + (8 : Int32).toNatClampNeg ≤ 8 ∧ (0 : Int32).toNatClampNeg + (8 : Int32).toNatClampNeg ≤ 8 ∧ (¬ (0 : Int32) < 0 ∧ ¬ (0 : Int32) < 0 ∧ ¬ (8 : Int32) < 0 ∧ (0 : Int32).toNatClampNeg + (8 : Int32).toNatClampNeg ≤ 8 ∧ (0 : Int32).toNatClampNeg + (8 : Int32).toNatClampNeg ≤ 8 ∧ (tk_okQ mX3_becomeLike Q) 0 (tk_upR (tk_upR (tk_upR (tk_upR (tk_upR (tk_up S 15 0 (S 5 0)) 16 (va_cpy (S 6) (S 16) (0 : Int32).toNatClampNeg (0 : Int32).toNatClampNeg (8 : Int32).toNatClampNeg)) 17 (va_cpy (S 7) (S 17) (0 : Int32).toNatClampNeg (0 : Int32).toNatClampNeg (8 : Int32).toNatClampNeg)) 18 (va_cpy (S 8) (S 18) (0 : Int32).toNatClampNeg (0 : Int32).toNatClampNeg (8 : Int32).toNatClampNeg)) 19 (va_cpy (S 9) (S 19) (0 : Int32).toNatClampNeg (0 : Int32).toNatClampNeg (8 : Int32).toNatClampNeg)) 20 (va_cpy (S 10) (S 20) (0 : Int32).toNatClampNeg (0 : Int32).toNatClampNeg (8 : Int32).toNatClampNeg)))))))) : tk_Ms mX3_becomeLike [.ref 15, .ref 5] S Q := by
  refine tk_Ms.of (ls := [.ref 15, .ref 5]) (by decide) (by first | exact Or.inl rfl | exact Or.inr (Or.inl rfl) | exact Or.inr (Or.inr rfl)) (Nat.le_of_ble_eq_true rfl) rfl ?_
  refine g_aload_n dX3_becomeLike_0 rfl ?_
  refine g_aload_n dX3_becomeLike_1 rfl ?_
  refine g_getI (n := 6) dX3_becomeLike_2 fl_X3_9 rfl (by decide) (by decide) rfl ?_
  refine g_putI (n := 6) dX3_becomeLike_5 fl_X3_9 rfl (by decide) (by decide) rfl rfl rfl ?_
  refine g_aload_n dX3_becomeLike_8 rfl ?_
  refine g_getR (n := 6) dX3_becomeLike_9 fl_X3_15 rfl (by decide) (by decide) rfl rfl ?_
  refine g_iconst (v := 0) dX3_becomeLike_12 (by decide) ?_
  refine g_aload_n dX3_becomeLike_13 rfl ?_
  refine g_getR (n := 6) dX3_becomeLike_14 fl_X3_15 rfl (by decide) (by decide) rfl rfl ?_
  refine g_iconst (v := 0) dX3_becomeLike_17 (by decide) ?_
  refine g_bipush (v := 8) dX3_becomeLike_18 (by decide) ?_
  refine g_acopy (n0 := 8) (n1 := 8) dX3_becomeLike_20 ml_X3_31 (by decide) (Nat.le_of_ble_eq_true rfl) rfl rfl t.1 t.2.1 t.2.2.1 t.2.2.2.1 t.2.2.2.2.1 ?_
  have t := t.2.2.2.2.2
  refine g_aload_n dX3_becomeLike_23 rfl ?_
  refine g_getR (n := 6) dX3_becomeLike_24 fl_X3_19 rfl (by decide) (by decide) rfl rfl ?_
  refine g_iconst (v := 0) dX3_becomeLike_27 (by decide) ?_
  refine g_aload_n dX3_becomeLike_28 rfl ?_
  refine g_getR (n := 6) dX3_becomeLike_29 fl_X3_19 rfl (by decide) (by decide) rfl rfl ?_
  refine g_iconst (v := 0) dX3_becomeLike_32 (by decide) ?_
  refine g_bipush (v := 8) dX3_becomeLike_33 (by decide) ?_
  refine g_acopy (n0 := 8) (n1 := 8) dX3_becomeLike_35 ml_X3_31 (by decide) (Nat.le_of_ble_eq_true rfl) rfl rfl t.1 t.2.1 t.2.2.1 t.2.2.2.1 t.2.2.2.2.1 ?_
  have t := t.2.2.2.2.2
  refine g_aload_n dX3_becomeLike_38 rfl ?_
  refine g_getR (n := 6) dX3_becomeLike_39 fl_X3_22 rfl (by decide) (by decide) rfl rfl ?_
  refine g_iconst (v := 0) dX3_becomeLike_42 (by decide) ?_
  refine g_aload_n dX3_becomeLike_43 rfl ?_
  refine g_getR (n := 6) dX3_becomeLike_44 fl_X3_22 rfl (by decide) (by decide) rfl rfl ?_
  refine g_iconst (v := 0) dX3_becomeLike_47 (by decide) ?_
  refine g_bipush (v := 8) dX3_becomeLike_48 (by decide) ?_
  refine g_acopy (n0 := 8) (n1 := 8) dX3_becomeLike_50 ml_X3_31 (by decide) (Nat.le_of_ble_eq_true rfl) rfl rfl t.1 t.2.1 t.2.2.1 t.2.2.2.1 t.2.2.2.2.1 ?_
  have t := t.2.2.2.2.2
  refine g_aload_n dX3_becomeLike_53 rfl ?_
  refine g_getR (n := 6) dX3_becomeLike_54 fl_X3_25 rfl (by decide) (by decide) rfl rfl ?_
  refine g_iconst (v := 0) dX3_becomeLike_57 (by decide) ?_
  refine g_aload_n dX3_becomeLike_58 rfl ?_
  refine g_getR (n := 6) dX3_becomeLike_59 fl_X3_25 rfl (by decide) (by decide) rfl rfl ?_
  refine g_iconst (v := 0) dX3_becomeLike_62 (by decide) ?_
  refine g_bipush (v := 8) dX3_becomeLike_63 (by decide) ?_
  refine g_acopy (n0 := 8) (n1 := 8) dX3_becomeLike_65 ml_X3_31 (by decide) (Nat.le_of_ble_eq_true rfl) rfl rfl t.1 t.2.1 t.2.2.1 t.2.2.2.1 t.2.2.2.2.1 ?_
  have t := t.2.2.2.2.2
  refine g_aload_n dX3_becomeLike_68 rfl ?_
  refine g_getR (n := 6) dX3_becomeLike_69 fl_X3_28 rfl (by decide) (by decide) rfl rfl ?_
  refine g_iconst (v := 0) dX3_becomeLike_72 (by decide) ?_
  refine g_aload_n dX3_becomeLike_73 rfl ?_
  refine g_getR (n := 6) dX3_becomeLike_74 fl_X3_28 rfl (by decide) (by decide) rfl rfl ?_
  refine g_iconst (v := 0) dX3_becomeLike_77 (by decide) ?_
  refine g_bipush (v := 8) dX3_becomeLike_78 (by decide) ?_
  refine g_acopy (n0 := 8) (n1 := 8) dX3_becomeLike_80 ml_X3_31 (by decide) (Nat.le_of_ble_eq_true rfl) rfl rfl t.1 t.2.1 t.2.2.1 t.2.2.2.1 t.2.2.2.2.1 ?_
  have t := t.2.2.2.2.2
  exact g_vret (st := []) dX3_becomeLike_83 rfl ⟨_, rfl, t⟩
theorem w_X4_renew_37 {Q : Int32 → tS → Prop} {S : tS} (p1 : Int32) (p2 : Int32) (t : tk_Gs mX4_renew none 12 [.ref 37, .int p1, .int p2, .int 0] [] (tk_up (tk_up S 37 0 p1) 37 1 p2) (tk_okQ mX4_renew Q)) : tk_Ms mX4_renew [.ref 37, .int p1, .int p2] S Q := by
  refine tk_Ms.of (ls := [.ref 37, .int p1, .int p2, .null]) (by decide) (by first | exact Or.inl rfl | exact Or.inr (Or.inl rfl) | exact Or.inr (Or.inr rfl)) (Nat.le_of_ble_eq_true rfl) rfl ?_
  refine g_aload_n dX4_renew_0 rfl ?_
  refine g_iload_n dX4_renew_1 rfl ?_
  refine g_putI (n := 3) dX4_renew_2 fl_X4_9 rfl (by decide) (by decide) rfl rfl rfl ?_
  refine g_aload_n dX4_renew_5 rfl ?_
  refine g_iload_n dX4_renew_6 rfl ?_
  refine g_putI (n := 3) dX4_renew_7 fl_X4_15 rfl (by decide) (by decide) rfl rfl rfl ?_
  refine g_iconst (v := 0) dX4_renew_10 (by decide) ?_
  refine g_istore_n (ls' := [.ref 37, .int p1, .int p2, .int 0]) dX4_renew_11 rfl (by decide) rfl ?_
  exact t
theorem w_X4_renew_37_12 {Q : Int32 → tS → Prop} {S : tS} (l1 : Int32) (l2 : Int32) (l3 : Int32)  (t : ((24 ≤ l3 → Q 0 S) ∧ (¬ 24 ≤ l3 → (vp_in l3 24 ∧ tk_Gs mX4_renew none 12 [.ref 37, .int l1, .int l2, .int (l3 + 1)] [] (tk_up S 38 l3.toNatClampNeg 0) Q)))) : tk_Gs mX4_renew none 12 [.ref 37, .int l1, .int l2, .int l3] [] S Q := by
  show tk_G _ 0 0 _ _ _ _ (tkSH, S, tkRF) _
  refine g_iload_n dX4_renew_12 rfl ?_
  refine g_bipush (v := 24) dX4_renew_13 (by decide) ?_
  refine g_icmp_ge (tgt := 31) dX4_renew_15 (by decide) (fun c1 => ?_) (fun c1 => ?_)
  · have t := t.1 c1
    exact g_vret (st := []) dX4_renew_31 rfl ⟨_, rfl, t⟩
  · have t := t.2 c1
    refine g_aload_n dX4_renew_18 rfl ?_
    refine g_getR (n := 3) dX4_renew_19 fl_X4_18 rfl (by decide) (by decide) rfl rfl ?_
    refine g_iload_n dX4_renew_22 rfl ?_
    refine g_iconst (v := 0) dX4_renew_23 (by decide) ?_
    refine g_iast (n := 24) dX4_renew_24 rfl t.1 ?_
    have t := t.2
    refine g_iinc (v := l3 + 1) (ls' := [.ref 37, .int l1, .int l2, .int (l3 + 1)]) dX4_renew_25 rfl rfl (by decide) rfl rfl ?_
    refine g_goto (tgt := 12) dX4_renew_28 (by decide) ?_
    exact t
theorem w_X4_holds_37 {Q : Int32 → tS → Prop} {S : tS} (p1 : Int32) (p2 : Int32) (t : ((p1 < 0 → (tk_okQ mX4_holds Q) 0 S) ∧ (¬ p1 < 0 → ((p2 < 0 → (tk_okQ mX4_holds Q) 0 S) ∧ (¬ p2 < 0 → (((S 37 1) < p1 → (tk_okQ mX4_holds Q) 0 S) ∧ (¬ (S 37 1) < p1 → ((((S 37 1) - p1) < p2 → (tk_okQ mX4_holds Q) 0 S) ∧ (¬ ((S 37 1) - p1) < p2 → (tk_okQ mX4_holds Q) 1 S))))))))) : tk_Ms mX4_holds [.ref 37, .int p1, .int p2] S Q := by
  refine tk_Ms.of (ls := [.ref 37, .int p1, .int p2]) (by decide) (by first | exact Or.inl rfl | exact Or.inr (Or.inl rfl) | exact Or.inr (Or.inr rfl)) (Nat.le_of_ble_eq_true rfl) rfl ?_
  refine g_iload_n dX4_holds_0 rfl ?_
  refine g_if_lt (tgt := 30) dX4_holds_1 (by decide) (fun c1 => ?_) (fun c1 => ?_)
  · have t := t.1 c1
    refine g_iconst (v := 0) dX4_holds_30 (by decide) ?_
    exact g_iret (st := []) dX4_holds_31 (fun e => by cases e) ⟨_, rfl, t⟩
  · have t := t.2 c1
    refine g_iload_n dX4_holds_4 rfl ?_
    refine g_if_lt (tgt := 30) dX4_holds_5 (by decide) (fun c2 => ?_) (fun c2 => ?_)
    · have t := t.1 c2
      refine g_iconst (v := 0) dX4_holds_30 (by decide) ?_
      exact g_iret (st := []) dX4_holds_31 (fun e => by cases e) ⟨_, rfl, t⟩
    · have t := t.2 c2
      refine g_iload_n dX4_holds_8 rfl ?_
      refine g_aload_n dX4_holds_9 rfl ?_
      refine g_getI (n := 3) dX4_holds_10 fl_X4_15 rfl (by decide) (by decide) rfl ?_
      refine g_icmp_gt (tgt := 30) dX4_holds_13 (by decide) (fun c3 => ?_) (fun c3 => ?_)
      · have t := t.1 c3
        refine g_iconst (v := 0) dX4_holds_30 (by decide) ?_
        exact g_iret (st := []) dX4_holds_31 (fun e => by cases e) ⟨_, rfl, t⟩
      · have t := t.2 c3
        refine g_iload_n dX4_holds_16 rfl ?_
        refine g_aload_n dX4_holds_17 rfl ?_
        refine g_getI (n := 3) dX4_holds_18 fl_X4_15 rfl (by decide) (by decide) rfl ?_
        refine g_iload_n dX4_holds_21 rfl ?_
        refine g_isub dX4_holds_22 ?_
        refine g_icmp_gt (tgt := 30) dX4_holds_23 (by decide) (fun c4 => ?_) (fun c4 => ?_)
        · have t := t.1 c4
          refine g_iconst (v := 0) dX4_holds_30 (by decide) ?_
          exact g_iret (st := []) dX4_holds_31 (fun e => by cases e) ⟨_, rfl, t⟩
        · have t := t.2 c4
          refine g_iconst (v := 1) dX4_holds_26 (by decide) ?_
          refine g_goto (tgt := 31) dX4_holds_27 (by decide) ?_
          exact g_iret (st := []) dX4_holds_31 (fun e => by cases e) ⟨_, rfl, t⟩
theorem w_X4_put_37 {Q : Int32 → tS → Prop} {S : tS} (p1 : Int32) (p2 : Int32) (t : ((¬ (S 37 0) = 0 → ((¬ (S 37 0) = 1 → (vp_in p1 24 ∧ (tk_okQ mX4_put Q) 0 (tk_up S 38 p1.toNatClampNeg p2))) ∧ ((S 37 0) = 1 → (vp_in p1 24 ∧ (tk_okQ mX4_put Q) 0 (tk_up S 38 p1.toNatClampNeg p2.toInt16.toInt32))))) ∧ ((S 37 0) = 0 → (vp_in p1 24 ∧ (tk_okQ mX4_put Q) 0 (tk_up S 38 p1.toNatClampNeg p2.toInt8.toInt32))))) : tk_Ms mX4_put [.ref 37, .int p1, .int p2] S Q := by
  refine tk_Ms.of (ls := [.ref 37, .int p1, .int p2]) (by decide) (by first | exact Or.inl rfl | exact Or.inr (Or.inl rfl) | exact Or.inr (Or.inr rfl)) (Nat.le_of_ble_eq_true rfl) rfl ?_
  refine g_aload_n dX4_put_0 rfl ?_
  refine g_getI (n := 3) dX4_put_1 fl_X4_9 rfl (by decide) (by decide) rfl ?_
  refine g_if_ne (tgt := 18) dX4_put_4 (by decide) (fun c1 => ?_) (fun c1 => ?_)
  · have t := t.1 c1
    refine g_aload_n dX4_put_18 rfl ?_
    refine g_getR (n := 3) dX4_put_19 fl_X4_18 rfl (by decide) (by decide) rfl rfl ?_
    refine g_iload_n dX4_put_22 rfl ?_
    refine g_aload_n dX4_put_23 rfl ?_
    refine g_getI (n := 3) dX4_put_24 fl_X4_9 rfl (by decide) (by decide) rfl ?_
    refine g_iconst (v := 1) dX4_put_27 (by decide) ?_
    refine g_icmp_ne (tgt := 36) dX4_put_28 (by decide) (fun c2 => ?_) (fun c2 => ?_)
    · have t := t.1 c2
      refine g_iload_n dX4_put_36 rfl ?_
      refine g_iast (n := 24) dX4_put_37 rfl t.1 ?_
      have t := t.2
      exact g_vret (st := []) dX4_put_38 rfl ⟨_, rfl, t⟩
    · have t := t.2 c2
      refine g_iload_n dX4_put_31 rfl ?_
      refine g_i2s dX4_put_32 ?_
      refine g_goto (tgt := 37) dX4_put_33 (by decide) ?_
      refine g_iast (n := 24) dX4_put_37 rfl t.1 ?_
      have t := t.2
      exact g_vret (st := []) dX4_put_38 rfl ⟨_, rfl, t⟩
  · have t := t.2 c1
    refine g_aload_n dX4_put_7 rfl ?_
    refine g_getR (n := 3) dX4_put_8 fl_X4_18 rfl (by decide) (by decide) rfl rfl ?_
    refine g_iload_n dX4_put_11 rfl ?_
    refine g_iload_n dX4_put_12 rfl ?_
    refine g_i2b dX4_put_13 ?_
    refine g_iast (n := 24) dX4_put_14 rfl t.1 ?_
    have t := t.2
    refine g_goto (tgt := 38) dX4_put_15 (by decide) ?_
    exact g_vret (st := []) dX4_put_38 rfl ⟨_, rfl, t⟩
theorem w_X4_renew_39 {Q : Int32 → tS → Prop} {S : tS} (p1 : Int32) (p2 : Int32) (t : tk_Gs mX4_renew none 12 [.ref 39, .int p1, .int p2, .int 0] [] (tk_up (tk_up S 39 0 p1) 39 1 p2) (tk_okQ mX4_renew Q)) : tk_Ms mX4_renew [.ref 39, .int p1, .int p2] S Q := by
  refine tk_Ms.of (ls := [.ref 39, .int p1, .int p2, .null]) (by decide) (by first | exact Or.inl rfl | exact Or.inr (Or.inl rfl) | exact Or.inr (Or.inr rfl)) (Nat.le_of_ble_eq_true rfl) rfl ?_
  refine g_aload_n dX4_renew_0 rfl ?_
  refine g_iload_n dX4_renew_1 rfl ?_
  refine g_putI (n := 3) dX4_renew_2 fl_X4_9 rfl (by decide) (by decide) rfl rfl rfl ?_
  refine g_aload_n dX4_renew_5 rfl ?_
  refine g_iload_n dX4_renew_6 rfl ?_
  refine g_putI (n := 3) dX4_renew_7 fl_X4_15 rfl (by decide) (by decide) rfl rfl rfl ?_
  refine g_iconst (v := 0) dX4_renew_10 (by decide) ?_
  refine g_istore_n (ls' := [.ref 39, .int p1, .int p2, .int 0]) dX4_renew_11 rfl (by decide) rfl ?_
  exact t
theorem w_X4_renew_39_12 {Q : Int32 → tS → Prop} {S : tS} (l1 : Int32) (l2 : Int32) (l3 : Int32)  (t : ((24 ≤ l3 → Q 0 S) ∧ (¬ 24 ≤ l3 → (vp_in l3 24 ∧ tk_Gs mX4_renew none 12 [.ref 39, .int l1, .int l2, .int (l3 + 1)] [] (tk_up S 40 l3.toNatClampNeg 0) Q)))) : tk_Gs mX4_renew none 12 [.ref 39, .int l1, .int l2, .int l3] [] S Q := by
  show tk_G _ 0 0 _ _ _ _ (tkSH, S, tkRF) _
  refine g_iload_n dX4_renew_12 rfl ?_
  refine g_bipush (v := 24) dX4_renew_13 (by decide) ?_
  refine g_icmp_ge (tgt := 31) dX4_renew_15 (by decide) (fun c1 => ?_) (fun c1 => ?_)
  · have t := t.1 c1
    exact g_vret (st := []) dX4_renew_31 rfl ⟨_, rfl, t⟩
  · have t := t.2 c1
    refine g_aload_n dX4_renew_18 rfl ?_
    refine g_getR (n := 3) dX4_renew_19 fl_X4_18 rfl (by decide) (by decide) rfl rfl ?_
    refine g_iload_n dX4_renew_22 rfl ?_
    refine g_iconst (v := 0) dX4_renew_23 (by decide) ?_
    refine g_iast (n := 24) dX4_renew_24 rfl t.1 ?_
    have t := t.2
    refine g_iinc (v := l3 + 1) (ls' := [.ref 39, .int l1, .int l2, .int (l3 + 1)]) dX4_renew_25 rfl rfl (by decide) rfl rfl ?_
    refine g_goto (tgt := 12) dX4_renew_28 (by decide) ?_
    exact t
theorem w_X4_holds_39 {Q : Int32 → tS → Prop} {S : tS} (p1 : Int32) (p2 : Int32) (t : ((p1 < 0 → (tk_okQ mX4_holds Q) 0 S) ∧ (¬ p1 < 0 → ((p2 < 0 → (tk_okQ mX4_holds Q) 0 S) ∧ (¬ p2 < 0 → (((S 39 1) < p1 → (tk_okQ mX4_holds Q) 0 S) ∧ (¬ (S 39 1) < p1 → ((((S 39 1) - p1) < p2 → (tk_okQ mX4_holds Q) 0 S) ∧ (¬ ((S 39 1) - p1) < p2 → (tk_okQ mX4_holds Q) 1 S))))))))) : tk_Ms mX4_holds [.ref 39, .int p1, .int p2] S Q := by
  refine tk_Ms.of (ls := [.ref 39, .int p1, .int p2]) (by decide) (by first | exact Or.inl rfl | exact Or.inr (Or.inl rfl) | exact Or.inr (Or.inr rfl)) (Nat.le_of_ble_eq_true rfl) rfl ?_
  refine g_iload_n dX4_holds_0 rfl ?_
  refine g_if_lt (tgt := 30) dX4_holds_1 (by decide) (fun c1 => ?_) (fun c1 => ?_)
  · have t := t.1 c1
    refine g_iconst (v := 0) dX4_holds_30 (by decide) ?_
    exact g_iret (st := []) dX4_holds_31 (fun e => by cases e) ⟨_, rfl, t⟩
  · have t := t.2 c1
    refine g_iload_n dX4_holds_4 rfl ?_
    refine g_if_lt (tgt := 30) dX4_holds_5 (by decide) (fun c2 => ?_) (fun c2 => ?_)
    · have t := t.1 c2
      refine g_iconst (v := 0) dX4_holds_30 (by decide) ?_
      exact g_iret (st := []) dX4_holds_31 (fun e => by cases e) ⟨_, rfl, t⟩
    · have t := t.2 c2
      refine g_iload_n dX4_holds_8 rfl ?_
      refine g_aload_n dX4_holds_9 rfl ?_
      refine g_getI (n := 3) dX4_holds_10 fl_X4_15 rfl (by decide) (by decide) rfl ?_
      refine g_icmp_gt (tgt := 30) dX4_holds_13 (by decide) (fun c3 => ?_) (fun c3 => ?_)
      · have t := t.1 c3
        refine g_iconst (v := 0) dX4_holds_30 (by decide) ?_
        exact g_iret (st := []) dX4_holds_31 (fun e => by cases e) ⟨_, rfl, t⟩
      · have t := t.2 c3
        refine g_iload_n dX4_holds_16 rfl ?_
        refine g_aload_n dX4_holds_17 rfl ?_
        refine g_getI (n := 3) dX4_holds_18 fl_X4_15 rfl (by decide) (by decide) rfl ?_
        refine g_iload_n dX4_holds_21 rfl ?_
        refine g_isub dX4_holds_22 ?_
        refine g_icmp_gt (tgt := 30) dX4_holds_23 (by decide) (fun c4 => ?_) (fun c4 => ?_)
        · have t := t.1 c4
          refine g_iconst (v := 0) dX4_holds_30 (by decide) ?_
          exact g_iret (st := []) dX4_holds_31 (fun e => by cases e) ⟨_, rfl, t⟩
        · have t := t.2 c4
          refine g_iconst (v := 1) dX4_holds_26 (by decide) ?_
          refine g_goto (tgt := 31) dX4_holds_27 (by decide) ?_
          exact g_iret (st := []) dX4_holds_31 (fun e => by cases e) ⟨_, rfl, t⟩
theorem w_X4_put_39 {Q : Int32 → tS → Prop} {S : tS} (p1 : Int32) (p2 : Int32) (t : ((¬ (S 39 0) = 0 → ((¬ (S 39 0) = 1 → (vp_in p1 24 ∧ (tk_okQ mX4_put Q) 0 (tk_up S 40 p1.toNatClampNeg p2))) ∧ ((S 39 0) = 1 → (vp_in p1 24 ∧ (tk_okQ mX4_put Q) 0 (tk_up S 40 p1.toNatClampNeg p2.toInt16.toInt32))))) ∧ ((S 39 0) = 0 → (vp_in p1 24 ∧ (tk_okQ mX4_put Q) 0 (tk_up S 40 p1.toNatClampNeg p2.toInt8.toInt32))))) : tk_Ms mX4_put [.ref 39, .int p1, .int p2] S Q := by
  refine tk_Ms.of (ls := [.ref 39, .int p1, .int p2]) (by decide) (by first | exact Or.inl rfl | exact Or.inr (Or.inl rfl) | exact Or.inr (Or.inr rfl)) (Nat.le_of_ble_eq_true rfl) rfl ?_
  refine g_aload_n dX4_put_0 rfl ?_
  refine g_getI (n := 3) dX4_put_1 fl_X4_9 rfl (by decide) (by decide) rfl ?_
  refine g_if_ne (tgt := 18) dX4_put_4 (by decide) (fun c1 => ?_) (fun c1 => ?_)
  · have t := t.1 c1
    refine g_aload_n dX4_put_18 rfl ?_
    refine g_getR (n := 3) dX4_put_19 fl_X4_18 rfl (by decide) (by decide) rfl rfl ?_
    refine g_iload_n dX4_put_22 rfl ?_
    refine g_aload_n dX4_put_23 rfl ?_
    refine g_getI (n := 3) dX4_put_24 fl_X4_9 rfl (by decide) (by decide) rfl ?_
    refine g_iconst (v := 1) dX4_put_27 (by decide) ?_
    refine g_icmp_ne (tgt := 36) dX4_put_28 (by decide) (fun c2 => ?_) (fun c2 => ?_)
    · have t := t.1 c2
      refine g_iload_n dX4_put_36 rfl ?_
      refine g_iast (n := 24) dX4_put_37 rfl t.1 ?_
      have t := t.2
      exact g_vret (st := []) dX4_put_38 rfl ⟨_, rfl, t⟩
    · have t := t.2 c2
      refine g_iload_n dX4_put_31 rfl ?_
      refine g_i2s dX4_put_32 ?_
      refine g_goto (tgt := 37) dX4_put_33 (by decide) ?_
      refine g_iast (n := 24) dX4_put_37 rfl t.1 ?_
      have t := t.2
      exact g_vret (st := []) dX4_put_38 rfl ⟨_, rfl, t⟩
  · have t := t.2 c1
    refine g_aload_n dX4_put_7 rfl ?_
    refine g_getR (n := 3) dX4_put_8 fl_X4_18 rfl (by decide) (by decide) rfl rfl ?_
    refine g_iload_n dX4_put_11 rfl ?_
    refine g_iload_n dX4_put_12 rfl ?_
    refine g_i2b dX4_put_13 ?_
    refine g_iast (n := 24) dX4_put_14 rfl t.1 ?_
    have t := t.2
    refine g_goto (tgt := 38) dX4_put_15 (by decide) ?_
    exact g_vret (st := []) dX4_put_38 rfl ⟨_, rfl, t⟩
theorem w_X4_renew_41 {Q : Int32 → tS → Prop} {S : tS} (p1 : Int32) (p2 : Int32) (t : tk_Gs mX4_renew none 12 [.ref 41, .int p1, .int p2, .int 0] [] (tk_up (tk_up S 41 0 p1) 41 1 p2) (tk_okQ mX4_renew Q)) : tk_Ms mX4_renew [.ref 41, .int p1, .int p2] S Q := by
  refine tk_Ms.of (ls := [.ref 41, .int p1, .int p2, .null]) (by decide) (by first | exact Or.inl rfl | exact Or.inr (Or.inl rfl) | exact Or.inr (Or.inr rfl)) (Nat.le_of_ble_eq_true rfl) rfl ?_
  refine g_aload_n dX4_renew_0 rfl ?_
  refine g_iload_n dX4_renew_1 rfl ?_
  refine g_putI (n := 3) dX4_renew_2 fl_X4_9 rfl (by decide) (by decide) rfl rfl rfl ?_
  refine g_aload_n dX4_renew_5 rfl ?_
  refine g_iload_n dX4_renew_6 rfl ?_
  refine g_putI (n := 3) dX4_renew_7 fl_X4_15 rfl (by decide) (by decide) rfl rfl rfl ?_
  refine g_iconst (v := 0) dX4_renew_10 (by decide) ?_
  refine g_istore_n (ls' := [.ref 41, .int p1, .int p2, .int 0]) dX4_renew_11 rfl (by decide) rfl ?_
  exact t
theorem w_X4_renew_41_12 {Q : Int32 → tS → Prop} {S : tS} (l1 : Int32) (l2 : Int32) (l3 : Int32)  (t : ((24 ≤ l3 → Q 0 S) ∧ (¬ 24 ≤ l3 → (vp_in l3 24 ∧ tk_Gs mX4_renew none 12 [.ref 41, .int l1, .int l2, .int (l3 + 1)] [] (tk_up S 42 l3.toNatClampNeg 0) Q)))) : tk_Gs mX4_renew none 12 [.ref 41, .int l1, .int l2, .int l3] [] S Q := by
  show tk_G _ 0 0 _ _ _ _ (tkSH, S, tkRF) _
  refine g_iload_n dX4_renew_12 rfl ?_
  refine g_bipush (v := 24) dX4_renew_13 (by decide) ?_
  refine g_icmp_ge (tgt := 31) dX4_renew_15 (by decide) (fun c1 => ?_) (fun c1 => ?_)
  · have t := t.1 c1
    exact g_vret (st := []) dX4_renew_31 rfl ⟨_, rfl, t⟩
  · have t := t.2 c1
    refine g_aload_n dX4_renew_18 rfl ?_
    refine g_getR (n := 3) dX4_renew_19 fl_X4_18 rfl (by decide) (by decide) rfl rfl ?_
    refine g_iload_n dX4_renew_22 rfl ?_
    refine g_iconst (v := 0) dX4_renew_23 (by decide) ?_
    refine g_iast (n := 24) dX4_renew_24 rfl t.1 ?_
    have t := t.2
    refine g_iinc (v := l3 + 1) (ls' := [.ref 41, .int l1, .int l2, .int (l3 + 1)]) dX4_renew_25 rfl rfl (by decide) rfl rfl ?_
    refine g_goto (tgt := 12) dX4_renew_28 (by decide) ?_
    exact t
theorem w_X4_holds_41 {Q : Int32 → tS → Prop} {S : tS} (p1 : Int32) (p2 : Int32) (t : ((p1 < 0 → (tk_okQ mX4_holds Q) 0 S) ∧ (¬ p1 < 0 → ((p2 < 0 → (tk_okQ mX4_holds Q) 0 S) ∧ (¬ p2 < 0 → (((S 41 1) < p1 → (tk_okQ mX4_holds Q) 0 S) ∧ (¬ (S 41 1) < p1 → ((((S 41 1) - p1) < p2 → (tk_okQ mX4_holds Q) 0 S) ∧ (¬ ((S 41 1) - p1) < p2 → (tk_okQ mX4_holds Q) 1 S))))))))) : tk_Ms mX4_holds [.ref 41, .int p1, .int p2] S Q := by
  refine tk_Ms.of (ls := [.ref 41, .int p1, .int p2]) (by decide) (by first | exact Or.inl rfl | exact Or.inr (Or.inl rfl) | exact Or.inr (Or.inr rfl)) (Nat.le_of_ble_eq_true rfl) rfl ?_
  refine g_iload_n dX4_holds_0 rfl ?_
  refine g_if_lt (tgt := 30) dX4_holds_1 (by decide) (fun c1 => ?_) (fun c1 => ?_)
  · have t := t.1 c1
    refine g_iconst (v := 0) dX4_holds_30 (by decide) ?_
    exact g_iret (st := []) dX4_holds_31 (fun e => by cases e) ⟨_, rfl, t⟩
  · have t := t.2 c1
    refine g_iload_n dX4_holds_4 rfl ?_
    refine g_if_lt (tgt := 30) dX4_holds_5 (by decide) (fun c2 => ?_) (fun c2 => ?_)
    · have t := t.1 c2
      refine g_iconst (v := 0) dX4_holds_30 (by decide) ?_
      exact g_iret (st := []) dX4_holds_31 (fun e => by cases e) ⟨_, rfl, t⟩
    · have t := t.2 c2
      refine g_iload_n dX4_holds_8 rfl ?_
      refine g_aload_n dX4_holds_9 rfl ?_
      refine g_getI (n := 3) dX4_holds_10 fl_X4_15 rfl (by decide) (by decide) rfl ?_
      refine g_icmp_gt (tgt := 30) dX4_holds_13 (by decide) (fun c3 => ?_) (fun c3 => ?_)
      · have t := t.1 c3
        refine g_iconst (v := 0) dX4_holds_30 (by decide) ?_
        exact g_iret (st := []) dX4_holds_31 (fun e => by cases e) ⟨_, rfl, t⟩
      · have t := t.2 c3
        refine g_iload_n dX4_holds_16 rfl ?_
        refine g_aload_n dX4_holds_17 rfl ?_
        refine g_getI (n := 3) dX4_holds_18 fl_X4_15 rfl (by decide) (by decide) rfl ?_
        refine g_iload_n dX4_holds_21 rfl ?_
        refine g_isub dX4_holds_22 ?_
        refine g_icmp_gt (tgt := 30) dX4_holds_23 (by decide) (fun c4 => ?_) (fun c4 => ?_)
        · have t := t.1 c4
          refine g_iconst (v := 0) dX4_holds_30 (by decide) ?_
          exact g_iret (st := []) dX4_holds_31 (fun e => by cases e) ⟨_, rfl, t⟩
        · have t := t.2 c4
          refine g_iconst (v := 1) dX4_holds_26 (by decide) ?_
          refine g_goto (tgt := 31) dX4_holds_27 (by decide) ?_
          exact g_iret (st := []) dX4_holds_31 (fun e => by cases e) ⟨_, rfl, t⟩
theorem w_X4_put_41 {Q : Int32 → tS → Prop} {S : tS} (p1 : Int32) (p2 : Int32) (t : ((¬ (S 41 0) = 0 → ((¬ (S 41 0) = 1 → (vp_in p1 24 ∧ (tk_okQ mX4_put Q) 0 (tk_up S 42 p1.toNatClampNeg p2))) ∧ ((S 41 0) = 1 → (vp_in p1 24 ∧ (tk_okQ mX4_put Q) 0 (tk_up S 42 p1.toNatClampNeg p2.toInt16.toInt32))))) ∧ ((S 41 0) = 0 → (vp_in p1 24 ∧ (tk_okQ mX4_put Q) 0 (tk_up S 42 p1.toNatClampNeg p2.toInt8.toInt32))))) : tk_Ms mX4_put [.ref 41, .int p1, .int p2] S Q := by
  refine tk_Ms.of (ls := [.ref 41, .int p1, .int p2]) (by decide) (by first | exact Or.inl rfl | exact Or.inr (Or.inl rfl) | exact Or.inr (Or.inr rfl)) (Nat.le_of_ble_eq_true rfl) rfl ?_
  refine g_aload_n dX4_put_0 rfl ?_
  refine g_getI (n := 3) dX4_put_1 fl_X4_9 rfl (by decide) (by decide) rfl ?_
  refine g_if_ne (tgt := 18) dX4_put_4 (by decide) (fun c1 => ?_) (fun c1 => ?_)
  · have t := t.1 c1
    refine g_aload_n dX4_put_18 rfl ?_
    refine g_getR (n := 3) dX4_put_19 fl_X4_18 rfl (by decide) (by decide) rfl rfl ?_
    refine g_iload_n dX4_put_22 rfl ?_
    refine g_aload_n dX4_put_23 rfl ?_
    refine g_getI (n := 3) dX4_put_24 fl_X4_9 rfl (by decide) (by decide) rfl ?_
    refine g_iconst (v := 1) dX4_put_27 (by decide) ?_
    refine g_icmp_ne (tgt := 36) dX4_put_28 (by decide) (fun c2 => ?_) (fun c2 => ?_)
    · have t := t.1 c2
      refine g_iload_n dX4_put_36 rfl ?_
      refine g_iast (n := 24) dX4_put_37 rfl t.1 ?_
      have t := t.2
      exact g_vret (st := []) dX4_put_38 rfl ⟨_, rfl, t⟩
    · have t := t.2 c2
      refine g_iload_n dX4_put_31 rfl ?_
      refine g_i2s dX4_put_32 ?_
      refine g_goto (tgt := 37) dX4_put_33 (by decide) ?_
      refine g_iast (n := 24) dX4_put_37 rfl t.1 ?_
      have t := t.2
      exact g_vret (st := []) dX4_put_38 rfl ⟨_, rfl, t⟩
  · have t := t.2 c1
    refine g_aload_n dX4_put_7 rfl ?_
    refine g_getR (n := 3) dX4_put_8 fl_X4_18 rfl (by decide) (by decide) rfl rfl ?_
    refine g_iload_n dX4_put_11 rfl ?_
    refine g_iload_n dX4_put_12 rfl ?_
    refine g_i2b dX4_put_13 ?_
    refine g_iast (n := 24) dX4_put_14 rfl t.1 ?_
    have t := t.2
    refine g_goto (tgt := 38) dX4_put_15 (by decide) ?_
    exact g_vret (st := []) dX4_put_38 rfl ⟨_, rfl, t⟩
theorem w_X4_renew_43 {Q : Int32 → tS → Prop} {S : tS} (p1 : Int32) (p2 : Int32) (t : tk_Gs mX4_renew none 12 [.ref 43, .int p1, .int p2, .int 0] [] (tk_up (tk_up S 43 0 p1) 43 1 p2) (tk_okQ mX4_renew Q)) : tk_Ms mX4_renew [.ref 43, .int p1, .int p2] S Q := by
  refine tk_Ms.of (ls := [.ref 43, .int p1, .int p2, .null]) (by decide) (by first | exact Or.inl rfl | exact Or.inr (Or.inl rfl) | exact Or.inr (Or.inr rfl)) (Nat.le_of_ble_eq_true rfl) rfl ?_
  refine g_aload_n dX4_renew_0 rfl ?_
  refine g_iload_n dX4_renew_1 rfl ?_
  refine g_putI (n := 3) dX4_renew_2 fl_X4_9 rfl (by decide) (by decide) rfl rfl rfl ?_
  refine g_aload_n dX4_renew_5 rfl ?_
  refine g_iload_n dX4_renew_6 rfl ?_
  refine g_putI (n := 3) dX4_renew_7 fl_X4_15 rfl (by decide) (by decide) rfl rfl rfl ?_
  refine g_iconst (v := 0) dX4_renew_10 (by decide) ?_
  refine g_istore_n (ls' := [.ref 43, .int p1, .int p2, .int 0]) dX4_renew_11 rfl (by decide) rfl ?_
  exact t
theorem w_X4_renew_43_12 {Q : Int32 → tS → Prop} {S : tS} (l1 : Int32) (l2 : Int32) (l3 : Int32)  (t : ((24 ≤ l3 → Q 0 S) ∧ (¬ 24 ≤ l3 → (vp_in l3 24 ∧ tk_Gs mX4_renew none 12 [.ref 43, .int l1, .int l2, .int (l3 + 1)] [] (tk_up S 44 l3.toNatClampNeg 0) Q)))) : tk_Gs mX4_renew none 12 [.ref 43, .int l1, .int l2, .int l3] [] S Q := by
  show tk_G _ 0 0 _ _ _ _ (tkSH, S, tkRF) _
  refine g_iload_n dX4_renew_12 rfl ?_
  refine g_bipush (v := 24) dX4_renew_13 (by decide) ?_
  refine g_icmp_ge (tgt := 31) dX4_renew_15 (by decide) (fun c1 => ?_) (fun c1 => ?_)
  · have t := t.1 c1
    exact g_vret (st := []) dX4_renew_31 rfl ⟨_, rfl, t⟩
  · have t := t.2 c1
    refine g_aload_n dX4_renew_18 rfl ?_
    refine g_getR (n := 3) dX4_renew_19 fl_X4_18 rfl (by decide) (by decide) rfl rfl ?_
    refine g_iload_n dX4_renew_22 rfl ?_
    refine g_iconst (v := 0) dX4_renew_23 (by decide) ?_
    refine g_iast (n := 24) dX4_renew_24 rfl t.1 ?_
    have t := t.2
    refine g_iinc (v := l3 + 1) (ls' := [.ref 43, .int l1, .int l2, .int (l3 + 1)]) dX4_renew_25 rfl rfl (by decide) rfl rfl ?_
    refine g_goto (tgt := 12) dX4_renew_28 (by decide) ?_
    exact t
theorem w_X4_holds_43 {Q : Int32 → tS → Prop} {S : tS} (p1 : Int32) (p2 : Int32) (t : ((p1 < 0 → (tk_okQ mX4_holds Q) 0 S) ∧ (¬ p1 < 0 → ((p2 < 0 → (tk_okQ mX4_holds Q) 0 S) ∧ (¬ p2 < 0 → (((S 43 1) < p1 → (tk_okQ mX4_holds Q) 0 S) ∧ (¬ (S 43 1) < p1 → ((((S 43 1) - p1) < p2 → (tk_okQ mX4_holds Q) 0 S) ∧ (¬ ((S 43 1) - p1) < p2 → (tk_okQ mX4_holds Q) 1 S))))))))) : tk_Ms mX4_holds [.ref 43, .int p1, .int p2] S Q := by
  refine tk_Ms.of (ls := [.ref 43, .int p1, .int p2]) (by decide) (by first | exact Or.inl rfl | exact Or.inr (Or.inl rfl) | exact Or.inr (Or.inr rfl)) (Nat.le_of_ble_eq_true rfl) rfl ?_
  refine g_iload_n dX4_holds_0 rfl ?_
  refine g_if_lt (tgt := 30) dX4_holds_1 (by decide) (fun c1 => ?_) (fun c1 => ?_)
  · have t := t.1 c1
    refine g_iconst (v := 0) dX4_holds_30 (by decide) ?_
    exact g_iret (st := []) dX4_holds_31 (fun e => by cases e) ⟨_, rfl, t⟩
  · have t := t.2 c1
    refine g_iload_n dX4_holds_4 rfl ?_
    refine g_if_lt (tgt := 30) dX4_holds_5 (by decide) (fun c2 => ?_) (fun c2 => ?_)
    · have t := t.1 c2
      refine g_iconst (v := 0) dX4_holds_30 (by decide) ?_
      exact g_iret (st := []) dX4_holds_31 (fun e => by cases e) ⟨_, rfl, t⟩
    · have t := t.2 c2
      refine g_iload_n dX4_holds_8 rfl ?_
      refine g_aload_n dX4_holds_9 rfl ?_
      refine g_getI (n := 3) dX4_holds_10 fl_X4_15 rfl (by decide) (by decide) rfl ?_
      refine g_icmp_gt (tgt := 30) dX4_holds_13 (by decide) (fun c3 => ?_) (fun c3 => ?_)
      · have t := t.1 c3
        refine g_iconst (v := 0) dX4_holds_30 (by decide) ?_
        exact g_iret (st := []) dX4_holds_31 (fun e => by cases e) ⟨_, rfl, t⟩
      · have t := t.2 c3
        refine g_iload_n dX4_holds_16 rfl ?_
        refine g_aload_n dX4_holds_17 rfl ?_
        refine g_getI (n := 3) dX4_holds_18 fl_X4_15 rfl (by decide) (by decide) rfl ?_
        refine g_iload_n dX4_holds_21 rfl ?_
        refine g_isub dX4_holds_22 ?_
        refine g_icmp_gt (tgt := 30) dX4_holds_23 (by decide) (fun c4 => ?_) (fun c4 => ?_)
        · have t := t.1 c4
          refine g_iconst (v := 0) dX4_holds_30 (by decide) ?_
          exact g_iret (st := []) dX4_holds_31 (fun e => by cases e) ⟨_, rfl, t⟩
        · have t := t.2 c4
          refine g_iconst (v := 1) dX4_holds_26 (by decide) ?_
          refine g_goto (tgt := 31) dX4_holds_27 (by decide) ?_
          exact g_iret (st := []) dX4_holds_31 (fun e => by cases e) ⟨_, rfl, t⟩
theorem w_X4_put_43 {Q : Int32 → tS → Prop} {S : tS} (p1 : Int32) (p2 : Int32) (t : ((¬ (S 43 0) = 0 → ((¬ (S 43 0) = 1 → (vp_in p1 24 ∧ (tk_okQ mX4_put Q) 0 (tk_up S 44 p1.toNatClampNeg p2))) ∧ ((S 43 0) = 1 → (vp_in p1 24 ∧ (tk_okQ mX4_put Q) 0 (tk_up S 44 p1.toNatClampNeg p2.toInt16.toInt32))))) ∧ ((S 43 0) = 0 → (vp_in p1 24 ∧ (tk_okQ mX4_put Q) 0 (tk_up S 44 p1.toNatClampNeg p2.toInt8.toInt32))))) : tk_Ms mX4_put [.ref 43, .int p1, .int p2] S Q := by
  refine tk_Ms.of (ls := [.ref 43, .int p1, .int p2]) (by decide) (by first | exact Or.inl rfl | exact Or.inr (Or.inl rfl) | exact Or.inr (Or.inr rfl)) (Nat.le_of_ble_eq_true rfl) rfl ?_
  refine g_aload_n dX4_put_0 rfl ?_
  refine g_getI (n := 3) dX4_put_1 fl_X4_9 rfl (by decide) (by decide) rfl ?_
  refine g_if_ne (tgt := 18) dX4_put_4 (by decide) (fun c1 => ?_) (fun c1 => ?_)
  · have t := t.1 c1
    refine g_aload_n dX4_put_18 rfl ?_
    refine g_getR (n := 3) dX4_put_19 fl_X4_18 rfl (by decide) (by decide) rfl rfl ?_
    refine g_iload_n dX4_put_22 rfl ?_
    refine g_aload_n dX4_put_23 rfl ?_
    refine g_getI (n := 3) dX4_put_24 fl_X4_9 rfl (by decide) (by decide) rfl ?_
    refine g_iconst (v := 1) dX4_put_27 (by decide) ?_
    refine g_icmp_ne (tgt := 36) dX4_put_28 (by decide) (fun c2 => ?_) (fun c2 => ?_)
    · have t := t.1 c2
      refine g_iload_n dX4_put_36 rfl ?_
      refine g_iast (n := 24) dX4_put_37 rfl t.1 ?_
      have t := t.2
      exact g_vret (st := []) dX4_put_38 rfl ⟨_, rfl, t⟩
    · have t := t.2 c2
      refine g_iload_n dX4_put_31 rfl ?_
      refine g_i2s dX4_put_32 ?_
      refine g_goto (tgt := 37) dX4_put_33 (by decide) ?_
      refine g_iast (n := 24) dX4_put_37 rfl t.1 ?_
      have t := t.2
      exact g_vret (st := []) dX4_put_38 rfl ⟨_, rfl, t⟩
  · have t := t.2 c1
    refine g_aload_n dX4_put_7 rfl ?_
    refine g_getR (n := 3) dX4_put_8 fl_X4_18 rfl (by decide) (by decide) rfl rfl ?_
    refine g_iload_n dX4_put_11 rfl ?_
    refine g_iload_n dX4_put_12 rfl ?_
    refine g_i2b dX4_put_13 ?_
    refine g_iast (n := 24) dX4_put_14 rfl t.1 ?_
    have t := t.2
    refine g_goto (tgt := 38) dX4_put_15 (by decide) ?_
    exact g_vret (st := []) dX4_put_38 rfl ⟨_, rfl, t⟩
theorem w_X5_add {Q : Int32 → tS → Prop} {S : tS} (p1 : Int32) (t : ((160 ≤ (S 21 0) → (tk_okQ mX5_add Q) 0 S) ∧ (¬ 160 ≤ (S 21 0) → (vp_in (S 21 0) 160 ∧ (tk_okQ mX5_add Q) 0 (tk_up (tk_up S 22 (S 21 0).toNatClampNeg (vp_nar .byte p1.toInt8.toInt32)) 21 0 ((S 21 0) + 1)))))) : tk_Ms mX5_add [.ref 21, .int p1] S Q := by
  refine tk_Ms.of (ls := [.ref 21, .int p1]) (by decide) (by first | exact Or.inl rfl | exact Or.inr (Or.inl rfl) | exact Or.inr (Or.inr rfl)) (Nat.le_of_ble_eq_true rfl) rfl ?_
  refine g_aload_n dX5_add_0 rfl ?_
  refine g_getI (n := 3) dX5_add_1 fl_X5_9 rfl (by decide) (by decide) rfl ?_
  refine g_sipush (v := 160) dX5_add_4 (by decide) ?_
  refine g_icmp_ge (tgt := 31) dX5_add_7 (by decide) (fun c1 => ?_) (fun c1 => ?_)
  · have t := t.1 c1
    exact g_vret (st := []) dX5_add_31 rfl ⟨_, rfl, t⟩
  · have t := t.2 c1
    refine g_aload_n dX5_add_10 rfl ?_
    refine g_getR (n := 3) dX5_add_11 fl_X5_18 rfl (by decide) (by decide) rfl rfl ?_
    refine g_aload_n dX5_add_14 rfl ?_
    refine g_getI (n := 3) dX5_add_15 fl_X5_9 rfl (by decide) (by decide) rfl ?_
    refine g_iload_n dX5_add_18 rfl ?_
    refine g_i2b dX5_add_19 ?_
    refine g_bast (n := 160) dX5_add_20 rfl t.1 ?_
    have t := t.2
    refine g_aload_n dX5_add_21 rfl ?_
    refine g_dup dX5_add_22 rfl ?_
    refine g_getI (n := 3) dX5_add_23 fl_X5_9 rfl (by decide) (by decide) rfl ?_
    refine g_iconst (v := 1) dX5_add_26 (by decide) ?_
    refine g_iadd dX5_add_27 ?_
    refine g_putI (n := 3) dX5_add_28 fl_X5_9 rfl (by decide) (by decide) rfl rfl rfl ?_
    exact g_vret (st := []) dX5_add_31 rfl ⟨_, rfl, t⟩
theorem w_X5_empty {Q : Int32 → tS → Prop} {S : tS}  (t : (tk_okQ mX5_empty Q) 0 (tk_up S 21 0 0)) : tk_Ms mX5_empty [.ref 21] S Q := by
  refine tk_Ms.of (ls := [.ref 21]) (by decide) (by first | exact Or.inl rfl | exact Or.inr (Or.inl rfl) | exact Or.inr (Or.inr rfl)) (Nat.le_of_ble_eq_true rfl) rfl ?_
  refine g_aload_n dX5_empty_0 rfl ?_
  refine g_iconst (v := 0) dX5_empty_1 (by decide) ?_
  refine g_putI (n := 3) dX5_empty_2 fl_X5_9 rfl (by decide) (by decide) rfl rfl rfl ?_
  exact g_vret (st := []) dX5_empty_5 rfl ⟨_, rfl, t⟩
theorem w_X5_ahead {Q : Int32 → tS → Prop} {S : tS}  (t : tk_Gs mX5_ahead none 0 [.ref 21] [] S (tk_okQ mX5_ahead Q)) : tk_Ms mX5_ahead [.ref 21] S Q := by
  refine tk_Ms.of (ls := [.ref 21]) (by decide) (by first | exact Or.inl rfl | exact Or.inr (Or.inl rfl) | exact Or.inr (Or.inr rfl)) (Nat.le_of_ble_eq_true rfl) rfl ?_
  exact t
theorem w_X5_ahead_0 {Q : Int32 → tS → Prop} {S : tS}   (t : (((S 21 0) ≤ (S 21 1) → (((S 21 0) ≤ (S 21 1) → Q (-1) S) ∧ (¬ (S 21 0) ≤ (S 21 1) → (vp_in (S 21 1) 160 ∧ Q (S 22 (S 21 1).toNatClampNeg) S)))) ∧ (¬ (S 21 0) ≤ (S 21 1) → (vp_in (S 21 1) 160 ∧ ((¬ (S 22 (S 21 1).toNatClampNeg) = 32 → (((S 21 0) ≤ (S 21 1) → Q (-1) S) ∧ (¬ (S 21 0) ≤ (S 21 1) → (vp_in (S 21 1) 160 ∧ Q (S 22 (S 21 1).toNatClampNeg) S)))) ∧ ((S 22 (S 21 1).toNatClampNeg) = 32 → tk_Gs mX5_ahead none 0 [.ref 21] [] (tk_up S 21 1 ((S 21 1) + 1)) Q)))))) : tk_Gs mX5_ahead none 0 [.ref 21] [] S Q := by
  show tk_G _ 0 0 _ _ _ _ (tkSH, S, tkRF) _
  refine g_aload_n dX5_ahead_0 rfl ?_
  refine g_getI (n := 3) dX5_ahead_1 fl_X5_15 rfl (by decide) (by decide) rfl ?_
  refine g_aload_n dX5_ahead_4 rfl ?_
  refine g_getI (n := 3) dX5_ahead_5 fl_X5_9 rfl (by decide) (by decide) rfl ?_
  refine g_icmp_ge (tgt := 38) dX5_ahead_8 (by decide) (fun c1 => ?_) (fun c1 => ?_)
  · have t := t.1 c1
    refine g_aload_n dX5_ahead_38 rfl ?_
    refine g_getI (n := 3) dX5_ahead_39 fl_X5_15 rfl (by decide) (by decide) rfl ?_
    refine g_aload_n dX5_ahead_42 rfl ?_
    refine g_getI (n := 3) dX5_ahead_43 fl_X5_9 rfl (by decide) (by decide) rfl ?_
    refine g_icmp_ge (tgt := 61) dX5_ahead_46 (by decide) (fun c2 => ?_) (fun c2 => ?_)
    · have t := t.1 c2
      refine g_iconst (v := (-1)) dX5_ahead_61 (by decide) ?_
      exact g_iret (st := []) dX5_ahead_62 (fun e => by cases e) ⟨_, rfl, t⟩
    · have t := t.2 c2
      refine g_aload_n dX5_ahead_49 rfl ?_
      refine g_getR (n := 3) dX5_ahead_50 fl_X5_18 rfl (by decide) (by decide) rfl rfl ?_
      refine g_aload_n dX5_ahead_53 rfl ?_
      refine g_getI (n := 3) dX5_ahead_54 fl_X5_15 rfl (by decide) (by decide) rfl ?_
      refine g_bald (n := 160) dX5_ahead_57 rfl t.1 ?_
      have t := t.2
      refine g_goto (tgt := 62) dX5_ahead_58 (by decide) ?_
      exact g_iret (st := []) dX5_ahead_62 (fun e => by cases e) ⟨_, rfl, t⟩
  · have t := t.2 c1
    refine g_aload_n dX5_ahead_11 rfl ?_
    refine g_getR (n := 3) dX5_ahead_12 fl_X5_18 rfl (by decide) (by decide) rfl rfl ?_
    refine g_aload_n dX5_ahead_15 rfl ?_
    refine g_getI (n := 3) dX5_ahead_16 fl_X5_15 rfl (by decide) (by decide) rfl ?_
    refine g_bald (n := 160) dX5_ahead_19 rfl t.1 ?_
    have t := t.2
    refine g_bipush (v := 32) dX5_ahead_20 (by decide) ?_
    refine g_icmp_ne (tgt := 38) dX5_ahead_22 (by decide) (fun c3 => ?_) (fun c3 => ?_)
    · have t := t.1 c3
      refine g_aload_n dX5_ahead_38 rfl ?_
      refine g_getI (n := 3) dX5_ahead_39 fl_X5_15 rfl (by decide) (by decide) rfl ?_
      refine g_aload_n dX5_ahead_42 rfl ?_
      refine g_getI (n := 3) dX5_ahead_43 fl_X5_9 rfl (by decide) (by decide) rfl ?_
      refine g_icmp_ge (tgt := 61) dX5_ahead_46 (by decide) (fun c4 => ?_) (fun c4 => ?_)
      · have t := t.1 c4
        refine g_iconst (v := (-1)) dX5_ahead_61 (by decide) ?_
        exact g_iret (st := []) dX5_ahead_62 (fun e => by cases e) ⟨_, rfl, t⟩
      · have t := t.2 c4
        refine g_aload_n dX5_ahead_49 rfl ?_
        refine g_getR (n := 3) dX5_ahead_50 fl_X5_18 rfl (by decide) (by decide) rfl rfl ?_
        refine g_aload_n dX5_ahead_53 rfl ?_
        refine g_getI (n := 3) dX5_ahead_54 fl_X5_15 rfl (by decide) (by decide) rfl ?_
        refine g_bald (n := 160) dX5_ahead_57 rfl t.1 ?_
        have t := t.2
        refine g_goto (tgt := 62) dX5_ahead_58 (by decide) ?_
        exact g_iret (st := []) dX5_ahead_62 (fun e => by cases e) ⟨_, rfl, t⟩
    · have t := t.2 c3
      refine g_aload_n dX5_ahead_25 rfl ?_
      refine g_dup dX5_ahead_26 rfl ?_
      refine g_getI (n := 3) dX5_ahead_27 fl_X5_15 rfl (by decide) (by decide) rfl ?_
      refine g_iconst (v := 1) dX5_ahead_30 (by decide) ?_
      refine g_iadd dX5_ahead_31 ?_
      refine g_putI (n := 3) dX5_ahead_32 fl_X5_15 rfl (by decide) (by decide) rfl rfl rfl ?_
      refine g_goto (tgt := 0) dX5_ahead_35 (by decide) ?_
      exact t
theorem w_X5_fault {Q : Int32 → tS → Prop} {S : tS}  (t : (tk_Ms mX5_ahead [.ref 21] S (fun x1 S2 => (tk_okQ mX5_fault Q) ((-20) - (S2 21 1)) S2))) : tk_Ms mX5_fault [.ref 21] S Q := by
  refine tk_Ms.of (ls := [.ref 21]) (by decide) (by first | exact Or.inl rfl | exact Or.inr (Or.inl rfl) | exact Or.inr (Or.inr rfl)) (Nat.le_of_ble_eq_true rfl) rfl ?_
  refine g_aload_n dX5_fault_0 rfl ?_
  refine s_V0i dX5_fault_1 vm_X5_ahead ml_X5_22 rfl rfl (by decide) (Nat.le_of_ble_eq_true rfl) rfl (tk_Ms.mono t (fun x1 S2 t => ?_))
  refine g_pop dX5_fault_4 rfl ?_
  refine g_bipush (v := (-20)) dX5_fault_5 (by decide) ?_
  refine g_aload_n dX5_fault_7 rfl ?_
  refine g_getI (n := 3) dX5_fault_8 fl_X5_15 rfl (by decide) (by decide) rfl ?_
  refine g_isub dX5_fault_11 ?_
  exact g_iret (st := []) dX5_fault_12 (fun e => by cases e) ⟨_, rfl, t⟩
theorem w_X5_take {Q : Int32 → tS → Prop} {S : tS} (p1 : Int32) (t : (tk_Ms mX5_ahead [.ref 21] S (fun x1 S2 => ((x1 = p1 → (tk_okQ mX5_take Q) 1 (tk_up S2 21 1 ((S2 21 1) + 1))) ∧ (¬ x1 = p1 → (tk_okQ mX5_take Q) 0 S2))))) : tk_Ms mX5_take [.ref 21, .int p1] S Q := by
  refine tk_Ms.of (ls := [.ref 21, .int p1]) (by decide) (by first | exact Or.inl rfl | exact Or.inr (Or.inl rfl) | exact Or.inr (Or.inr rfl)) (Nat.le_of_ble_eq_true rfl) rfl ?_
  refine g_aload_n dX5_take_0 rfl ?_
  refine s_V0i dX5_take_1 vm_X5_ahead ml_X5_22 rfl rfl (by decide) (Nat.le_of_ble_eq_true rfl) rfl (tk_Ms.mono t (fun x1 S2 t => ?_))
  refine g_iload_n dX5_take_4 rfl ?_
  refine g_icmp_eq (tgt := 10) dX5_take_5 (by decide) (fun c3 => ?_) (fun c3 => ?_)
  · have t := t.1 c3
    refine g_aload_n dX5_take_10 rfl ?_
    refine g_dup dX5_take_11 rfl ?_
    refine g_getI (n := 3) dX5_take_12 fl_X5_15 rfl (by decide) (by decide) rfl ?_
    refine g_iconst (v := 1) dX5_take_15 (by decide) ?_
    refine g_iadd dX5_take_16 ?_
    refine g_putI (n := 3) dX5_take_17 fl_X5_15 rfl (by decide) (by decide) rfl rfl rfl ?_
    refine g_iconst (v := 1) dX5_take_20 (by decide) ?_
    exact g_iret (st := []) dX5_take_21 (fun e => by cases e) ⟨_, rfl, t⟩
  · have t := t.2 c3
    refine g_iconst (v := 0) dX5_take_8 (by decide) ?_
    exact g_iret (st := []) dX5_take_9 (fun e => by cases e) ⟨_, rfl, t⟩
theorem w_X5_placeAhead {Q : Int32 → tS → Prop} {S : tS}  (t : (tk_Ms mX5_ahead [.ref 21] S (fun x1 S2 => ((¬ x1 = 103 → (tk_Ms mX5_isDigit [.int x1] S2 (fun x4 S5 => ((x4 = 0 → (tk_okQ mX5_placeAhead Q) (-1) S5) ∧ (¬ x4 = 0 → (tk_okQ mX5_placeAhead Q) (x1 - 48) S5))))) ∧ (x1 = 103 → (tk_okQ mX5_placeAhead Q) 10 S2))))) : tk_Ms mX5_placeAhead [.ref 21] S Q := by
  refine tk_Ms.of (ls := [.ref 21, .null]) (by decide) (by first | exact Or.inl rfl | exact Or.inr (Or.inl rfl) | exact Or.inr (Or.inr rfl)) (Nat.le_of_ble_eq_true rfl) rfl ?_
  refine g_aload_n dX5_placeAhead_0 rfl ?_
  refine s_V0i dX5_placeAhead_1 vm_X5_ahead ml_X5_22 rfl rfl (by decide) (Nat.le_of_ble_eq_true rfl) rfl (tk_Ms.mono t (fun x1 S2 t => ?_))
  refine g_istore_n (ls' := [.ref 21, .int x1]) dX5_placeAhead_4 rfl (by decide) rfl ?_
  refine g_iload_n dX5_placeAhead_5 rfl ?_
  refine g_bipush (v := 103) dX5_placeAhead_6 (by decide) ?_
  refine g_icmp_ne (tgt := 14) dX5_placeAhead_8 (by decide) (fun c3 => ?_) (fun c3 => ?_)
  · have t := t.1 c3
    refine g_iload_n dX5_placeAhead_14 rfl ?_
    refine s_S1i dX5_placeAhead_15 sm_X5_isDigit ml_X5_26 rfl (by decide) (Nat.le_of_ble_eq_true rfl) rfl (tk_Ms.mono t (fun x4 S5 t => ?_))
    refine g_if_eq (tgt := 28) dX5_placeAhead_18 (by decide) (fun c6 => ?_) (fun c6 => ?_)
    · have t := t.1 c6
      refine g_iconst (v := (-1)) dX5_placeAhead_28 (by decide) ?_
      exact g_iret (st := []) dX5_placeAhead_29 (fun e => by cases e) ⟨_, rfl, t⟩
    · have t := t.2 c6
      refine g_iload_n dX5_placeAhead_21 rfl ?_
      refine g_bipush (v := 48) dX5_placeAhead_22 (by decide) ?_
      refine g_isub dX5_placeAhead_24 ?_
      refine g_goto (tgt := 29) dX5_placeAhead_25 (by decide) ?_
      exact g_iret (st := []) dX5_placeAhead_29 (fun e => by cases e) ⟨_, rfl, t⟩
  · have t := t.2 c3
    refine g_bipush (v := 10) dX5_placeAhead_11 (by decide) ?_
    exact g_iret (st := []) dX5_placeAhead_13 (fun e => by cases e) ⟨_, rfl, t⟩
theorem w_X5_digit {Q : Int32 → tS → Prop} {S : tS} (p1 : Int32) (t : (tk_Ms mX5_ahead [.ref 21] S (fun x1 S2 => (tk_Ms mX5_isDigit [.int x1] S2 (fun x3 S4 => ((x3 = 0 → (tk_okQ mX5_digit Q) (-1) S4) ∧ (¬ x3 = 0 → (((x1 - 48) < p1 → (tk_okQ mX5_digit Q) (x1 - 48) (tk_up S4 21 1 ((S4 21 1) + 1))) ∧ (¬ (x1 - 48) < p1 → (tk_okQ mX5_digit Q) (-1) S4))))))))) : tk_Ms mX5_digit [.ref 21, .int p1] S Q := by
  refine tk_Ms.of (ls := [.ref 21, .int p1, .null]) (by decide) (by first | exact Or.inl rfl | exact Or.inr (Or.inl rfl) | exact Or.inr (Or.inr rfl)) (Nat.le_of_ble_eq_true rfl) rfl ?_
  refine g_aload_n dX5_digit_0 rfl ?_
  refine s_V0i dX5_digit_1 vm_X5_ahead ml_X5_22 rfl rfl (by decide) (Nat.le_of_ble_eq_true rfl) rfl (tk_Ms.mono t (fun x1 S2 t => ?_))
  refine g_istore_n (ls' := [.ref 21, .int p1, .int x1]) dX5_digit_4 rfl (by decide) rfl ?_
  refine g_iload_n dX5_digit_5 rfl ?_
  refine s_S1i dX5_digit_6 sm_X5_isDigit ml_X5_26 rfl (by decide) (Nat.le_of_ble_eq_true rfl) rfl (tk_Ms.mono t (fun x3 S4 t => ?_))
  refine g_if_eq (tgt := 20) dX5_digit_9 (by decide) (fun c5 => ?_) (fun c5 => ?_)
  · have t := t.1 c5
    refine g_iconst (v := (-1)) dX5_digit_20 (by decide) ?_
    exact g_iret (st := []) dX5_digit_21 (fun e => by cases e) ⟨_, rfl, t⟩
  · have t := t.2 c5
    refine g_iload_n dX5_digit_12 rfl ?_
    refine g_bipush (v := 48) dX5_digit_13 (by decide) ?_
    refine g_isub dX5_digit_15 ?_
    refine g_iload_n dX5_digit_16 rfl ?_
    refine g_icmp_lt (tgt := 22) dX5_digit_17 (by decide) (fun c6 => ?_) (fun c6 => ?_)
    · have t := t.1 c6
      refine g_aload_n dX5_digit_22 rfl ?_
      refine g_dup dX5_digit_23 rfl ?_
      refine g_getI (n := 3) dX5_digit_24 fl_X5_15 rfl (by decide) (by decide) rfl ?_
      refine g_iconst (v := 1) dX5_digit_27 (by decide) ?_
      refine g_iadd dX5_digit_28 ?_
      refine g_putI (n := 3) dX5_digit_29 fl_X5_15 rfl (by decide) (by decide) rfl rfl rfl ?_
      refine g_iload_n dX5_digit_32 rfl ?_
      refine g_bipush (v := 48) dX5_digit_33 (by decide) ?_
      refine g_isub dX5_digit_35 ?_
      exact g_iret (st := []) dX5_digit_36 (fun e => by cases e) ⟨_, rfl, t⟩
    · have t := t.2 c6
      refine g_iconst (v := (-1)) dX5_digit_20 (by decide) ?_
      exact g_iret (st := []) dX5_digit_21 (fun e => by cases e) ⟨_, rfl, t⟩
theorem w_X5_numberUpTo {Q : Int32 → tS → Prop} {S : tS} (p1 : Int32) (t : (tk_Ms mX5_ahead [.ref 21] S (fun x1 S2 => (tk_Ms mX5_isDigit [.int x1] S2 (fun x3 S4 => ((¬ x3 = 0 → tk_Gs mX5_numberUpTo none 19 [.ref 21, .int p1, .int (S4 21 1), .int 0] [] S4 (tk_okQ mX5_numberUpTo Q)) ∧ (x3 = 0 → (tk_okQ mX5_numberUpTo Q) (-1) S4))))))) : tk_Ms mX5_numberUpTo [.ref 21, .int p1] S Q := by
  refine tk_Ms.of (ls := [.ref 21, .int p1, .null, .null]) (by decide) (by first | exact Or.inl rfl | exact Or.inr (Or.inl rfl) | exact Or.inr (Or.inr rfl)) (Nat.le_of_ble_eq_true rfl) rfl ?_
  refine g_aload_n dX5_numberUpTo_0 rfl ?_
  refine s_V0i dX5_numberUpTo_1 vm_X5_ahead ml_X5_22 rfl rfl (by decide) (Nat.le_of_ble_eq_true rfl) rfl (tk_Ms.mono t (fun x1 S2 t => ?_))
  refine s_S1i dX5_numberUpTo_4 sm_X5_isDigit ml_X5_26 rfl (by decide) (Nat.le_of_ble_eq_true rfl) rfl (tk_Ms.mono t (fun x3 S4 t => ?_))
  refine g_if_ne (tgt := 12) dX5_numberUpTo_7 (by decide) (fun c5 => ?_) (fun c5 => ?_)
  · have t := t.1 c5
    refine g_aload_n dX5_numberUpTo_12 rfl ?_
    refine g_getI (n := 3) dX5_numberUpTo_13 fl_X5_15 rfl (by decide) (by decide) rfl ?_
    refine g_istore_n (ls' := [.ref 21, .int p1, .int (S4 21 1), .null]) dX5_numberUpTo_16 rfl (by decide) rfl ?_
    refine g_iconst (v := 0) dX5_numberUpTo_17 (by decide) ?_
    refine g_istore_n (ls' := [.ref 21, .int p1, .int (S4 21 1), .int 0]) dX5_numberUpTo_18 rfl (by decide) rfl ?_
    exact t
  · have t := t.2 c5
    refine g_iconst (v := (-1)) dX5_numberUpTo_10 (by decide) ?_
    exact g_iret (st := []) dX5_numberUpTo_11 (fun e => by cases e) ⟨_, rfl, t⟩
theorem w_X5_numberUpTo_19 {Q : Int32 → tS → Prop} {S : tS} (l1 : Int32) (l2 : Int32) (l3 : Int32)  (t : (((S 21 0) ≤ (S 21 1) → ((l3 ≤ l1 → Q l3 S) ∧ (¬ l3 ≤ l1 → Q (-1) (tk_up S 21 1 l2)))) ∧ (¬ (S 21 0) ≤ (S 21 1) → (vp_in (S 21 1) 160 ∧ (tk_Ms mX5_isDigit [.int (S 22 (S 21 1).toNatClampNeg)] S (fun x3 S4 => ((x3 = 0 → ((l3 ≤ l1 → Q l3 S4) ∧ (¬ l3 ≤ l1 → Q (-1) (tk_up S4 21 1 l2)))) ∧ (¬ x3 = 0 → (vp_in (S4 21 1) 160 ∧ tk_Gs mX5_numberUpTo none 19 [.ref 21, .int l1, .int l2, .int (if (l1 + 1) < (((10 * l3) + (S4 22 (S4 21 1).toNatClampNeg)) - 48) then (l1 + 1) else (((10 * l3) + (S4 22 (S4 21 1).toNatClampNeg)) - 48))] [] (tk_up S4 21 1 ((S4 21 1) + 1)) Q))))))))) : tk_Gs mX5_numberUpTo none 19 [.ref 21, .int l1, .int l2, .int l3] [] S Q := by
  show tk_G _ 0 0 _ _ _ _ (tkSH, S, tkRF) _
  refine g_aload_n dX5_numberUpTo_19 rfl ?_
  refine g_getI (n := 3) dX5_numberUpTo_20 fl_X5_15 rfl (by decide) (by decide) rfl ?_
  refine g_aload_n dX5_numberUpTo_23 rfl ?_
  refine g_getI (n := 3) dX5_numberUpTo_24 fl_X5_9 rfl (by decide) (by decide) rfl ?_
  refine g_icmp_ge (tgt := 82) dX5_numberUpTo_27 (by decide) (fun c1 => ?_) (fun c1 => ?_)
  · have t := t.1 c1
    refine g_iload_n dX5_numberUpTo_82 rfl ?_
    refine g_iload_n dX5_numberUpTo_83 rfl ?_
    refine g_icmp_le (tgt := 94) dX5_numberUpTo_84 (by decide) (fun c2 => ?_) (fun c2 => ?_)
    · have t := t.1 c2
      refine g_iload_n dX5_numberUpTo_94 rfl ?_
      exact g_iret (st := []) dX5_numberUpTo_95 (fun e => by cases e) ⟨_, rfl, t⟩
    · have t := t.2 c2
      refine g_aload_n dX5_numberUpTo_87 rfl ?_
      refine g_iload_n dX5_numberUpTo_88 rfl ?_
      refine g_putI (n := 3) dX5_numberUpTo_89 fl_X5_15 rfl (by decide) (by decide) rfl rfl rfl ?_
      refine g_iconst (v := (-1)) dX5_numberUpTo_92 (by decide) ?_
      exact g_iret (st := []) dX5_numberUpTo_93 (fun e => by cases e) ⟨_, rfl, t⟩
  · have t := t.2 c1
    refine g_aload_n dX5_numberUpTo_30 rfl ?_
    refine g_getR (n := 3) dX5_numberUpTo_31 fl_X5_18 rfl (by decide) (by decide) rfl rfl ?_
    refine g_aload_n dX5_numberUpTo_34 rfl ?_
    refine g_getI (n := 3) dX5_numberUpTo_35 fl_X5_15 rfl (by decide) (by decide) rfl ?_
    refine g_bald (n := 160) dX5_numberUpTo_38 rfl t.1 ?_
    have t := t.2
    refine s_S1i dX5_numberUpTo_39 sm_X5_isDigit ml_X5_26 rfl (by decide) (Nat.le_of_ble_eq_true rfl) rfl (tk_Ms.mono t (fun x3 S4 t => ?_))
    refine g_if_eq (tgt := 82) dX5_numberUpTo_42 (by decide) (fun c5 => ?_) (fun c5 => ?_)
    · have t := t.1 c5
      refine g_iload_n dX5_numberUpTo_82 rfl ?_
      refine g_iload_n dX5_numberUpTo_83 rfl ?_
      refine g_icmp_le (tgt := 94) dX5_numberUpTo_84 (by decide) (fun c6 => ?_) (fun c6 => ?_)
      · have t := t.1 c6
        refine g_iload_n dX5_numberUpTo_94 rfl ?_
        exact g_iret (st := []) dX5_numberUpTo_95 (fun e => by cases e) ⟨_, rfl, t⟩
      · have t := t.2 c6
        refine g_aload_n dX5_numberUpTo_87 rfl ?_
        refine g_iload_n dX5_numberUpTo_88 rfl ?_
        refine g_putI (n := 3) dX5_numberUpTo_89 fl_X5_15 rfl (by decide) (by decide) rfl rfl rfl ?_
        refine g_iconst (v := (-1)) dX5_numberUpTo_92 (by decide) ?_
        exact g_iret (st := []) dX5_numberUpTo_93 (fun e => by cases e) ⟨_, rfl, t⟩
    · have t := t.2 c5
      refine g_bipush (v := 10) dX5_numberUpTo_45 (by decide) ?_
      refine g_iload_n dX5_numberUpTo_47 rfl ?_
      refine g_imul dX5_numberUpTo_48 ?_
      refine g_aload_n dX5_numberUpTo_49 rfl ?_
      refine g_getR (n := 3) dX5_numberUpTo_50 fl_X5_18 rfl (by decide) (by decide) rfl rfl ?_
      refine g_aload_n dX5_numberUpTo_53 rfl ?_
      refine g_getI (n := 3) dX5_numberUpTo_54 fl_X5_15 rfl (by decide) (by decide) rfl ?_
      refine g_bald (n := 160) dX5_numberUpTo_57 rfl t.1 ?_
      have t := t.2
      refine g_iadd dX5_numberUpTo_58 ?_
      refine g_bipush (v := 48) dX5_numberUpTo_59 (by decide) ?_
      refine g_isub dX5_numberUpTo_61 ?_
      refine g_iload_n dX5_numberUpTo_62 rfl ?_
      refine g_iconst (v := 1) dX5_numberUpTo_63 (by decide) ?_
      refine g_iadd dX5_numberUpTo_64 ?_
      refine g_min dX5_numberUpTo_65 ml_X5_30 (by decide) (Nat.le_of_ble_eq_true rfl) ?_
      refine g_istore_n (ls' := [.ref 21, .int l1, .int l2, .int (if (l1 + 1) < (((10 * l3) + (S4 22 (S4 21 1).toNatClampNeg)) - 48) then (l1 + 1) else (((10 * l3) + (S4 22 (S4 21 1).toNatClampNeg)) - 48))]) dX5_numberUpTo_68 rfl (by decide) rfl ?_
      refine g_aload_n dX5_numberUpTo_69 rfl ?_
      refine g_dup dX5_numberUpTo_70 rfl ?_
      refine g_getI (n := 3) dX5_numberUpTo_71 fl_X5_15 rfl (by decide) (by decide) rfl ?_
      refine g_iconst (v := 1) dX5_numberUpTo_74 (by decide) ?_
      refine g_iadd dX5_numberUpTo_75 ?_
      refine g_putI (n := 3) dX5_numberUpTo_76 fl_X5_15 rfl (by decide) (by decide) rfl rfl rfl ?_
      refine g_goto (tgt := 19) dX5_numberUpTo_79 (by decide) ?_
      exact t
theorem w_X5_isDigit {Q : Int32 → tS → Prop} {S : tS} (p1 : Int32) (t : ((p1 < 48 → (tk_okQ mX5_isDigit Q) 0 S) ∧ (¬ p1 < 48 → ((57 < p1 → (tk_okQ mX5_isDigit Q) 0 S) ∧ (¬ 57 < p1 → (tk_okQ mX5_isDigit Q) 1 S))))) : tk_Ms mX5_isDigit [.int p1] S Q := by
  refine tk_Ms.of (ls := [.int p1]) (by decide) (by first | exact Or.inl rfl | exact Or.inr (Or.inl rfl) | exact Or.inr (Or.inr rfl)) (Nat.le_of_ble_eq_true rfl) rfl ?_
  refine g_iload_n dX5_isDigit_0 rfl ?_
  refine g_bipush (v := 48) dX5_isDigit_1 (by decide) ?_
  refine g_icmp_lt (tgt := 16) dX5_isDigit_3 (by decide) (fun c1 => ?_) (fun c1 => ?_)
  · have t := t.1 c1
    refine g_iconst (v := 0) dX5_isDigit_16 (by decide) ?_
    exact g_iret (st := []) dX5_isDigit_17 (fun e => by cases e) ⟨_, rfl, t⟩
  · have t := t.2 c1
    refine g_iload_n dX5_isDigit_6 rfl ?_
    refine g_bipush (v := 57) dX5_isDigit_7 (by decide) ?_
    refine g_icmp_gt (tgt := 16) dX5_isDigit_9 (by decide) (fun c2 => ?_) (fun c2 => ?_)
    · have t := t.1 c2
      refine g_iconst (v := 0) dX5_isDigit_16 (by decide) ?_
      exact g_iret (st := []) dX5_isDigit_17 (fun e => by cases e) ⟨_, rfl, t⟩
    · have t := t.2 c2
      refine g_iconst (v := 1) dX5_isDigit_12 (by decide) ?_
      refine g_goto (tgt := 17) dX5_isDigit_13 (by decide) ?_
      exact g_iret (st := []) dX5_isDigit_17 (fun e => by cases e) ⟨_, rfl, t⟩
theorem w_X6_measure {Q : Int32 → tS → Prop} {S : tS} (p1 : Int32) (p2 : Int32) (t : tk_Gs mX6_measure none 3 [.ref 28, .ref 1, .int p1, .int p2, .int 0, .null] [] S (tk_okQ mX6_measure Q)) : tk_Ms mX6_measure [.ref 28, .ref 1, .int p1, .int p2] S Q := by
  refine tk_Ms.of (ls := [.ref 28, .ref 1, .int p1, .int p2, .null, .null]) (by decide) (by first | exact Or.inl rfl | exact Or.inr (Or.inl rfl) | exact Or.inr (Or.inr rfl)) (Nat.le_of_ble_eq_true rfl) rfl ?_
  refine g_iconst (v := 0) dX6_measure_0 (by decide) ?_
  refine g_istore (ls' := [.ref 28, .ref 1, .int p1, .int p2, .int 0, .null]) dX6_measure_1 rfl (by decide) rfl ?_
  exact t
theorem w_X6_measure_3 {Q : Int32 → tS → Prop} {S : tS} (l2 : Int32) (l3 : Int32) (l4 : Int32)  (t : ((11 ≤ l4 → tk_Gs mX6_measure none 37 [.ref 28, .ref 1, .int l2, .int l3, .int 0, .null] [] S Q) ∧ (¬ 11 ≤ l4 → ((¬ l4 = l2 → (vp_in l4 11 ∧ tk_Gs mX6_measure none 3 [.ref 28, .ref 1, .int l2, .int l3, .int (l4 + 1), .null] [] (tk_up S 29 l4.toNatClampNeg (-1)) Q)) ∧ (l4 = l2 → (vp_in l4 11 ∧ tk_Gs mX6_measure none 3 [.ref 28, .ref 1, .int l2, .int l3, .int (l4 + 1), .null] [] (tk_up S 29 l4.toNatClampNeg 0) Q)))))) : tk_Gs mX6_measure none 3 [.ref 28, .ref 1, .int l2, .int l3, .int l4, .null] [] S Q := by
  show tk_G _ 0 0 _ _ _ _ (tkSH, S, tkRF) _
  refine g_iload dX6_measure_3 rfl ?_
  refine g_bipush (v := 11) dX6_measure_5 (by decide) ?_
  refine g_icmp_ge (tgt := 34) dX6_measure_7 (by decide) (fun c1 => ?_) (fun c1 => ?_)
  · have t := t.1 c1
    refine g_iconst (v := 0) dX6_measure_34 (by decide) ?_
    refine g_istore (ls' := [.ref 28, .ref 1, .int l2, .int l3, .int 0, .null]) dX6_measure_35 rfl (by decide) rfl ?_
    exact t
  · have t := t.2 c1
    refine g_aload_n dX6_measure_10 rfl ?_
    refine g_getR (n := 1) dX6_measure_11 fl_X6_9 rfl (by decide) (by decide) rfl rfl ?_
    refine g_iload dX6_measure_14 rfl ?_
    refine g_iload dX6_measure_16 rfl ?_
    refine g_iload_n dX6_measure_18 rfl ?_
    refine g_icmp_ne (tgt := 26) dX6_measure_19 (by decide) (fun c2 => ?_) (fun c2 => ?_)
    · have t := t.1 c2
      refine g_iconst (v := (-1)) dX6_measure_26 (by decide) ?_
      refine g_iast (n := 11) dX6_measure_27 rfl t.1 ?_
      have t := t.2
      refine g_iinc (v := l4 + 1) (ls' := [.ref 28, .ref 1, .int l2, .int l3, .int (l4 + 1), .null]) dX6_measure_28 rfl rfl (by decide) rfl rfl ?_
      refine g_goto (tgt := 3) dX6_measure_31 (by decide) ?_
      exact t
    · have t := t.2 c2
      refine g_iconst (v := 0) dX6_measure_22 (by decide) ?_
      refine g_goto (tgt := 27) dX6_measure_23 (by decide) ?_
      refine g_iast (n := 11) dX6_measure_27 rfl t.1 ?_
      have t := t.2
      refine g_iinc (v := l4 + 1) (ls' := [.ref 28, .ref 1, .int l2, .int l3, .int (l4 + 1), .null]) dX6_measure_28 rfl rfl (by decide) rfl rfl ?_
      refine g_goto (tgt := 3) dX6_measure_31 (by decide) ?_
      exact t
theorem w_X6_measure_37 {Q : Int32 → tS → Prop} {S : tS} (l2 : Int32) (l3 : Int32) (l4 : Int32)  (t : ((10 ≤ l4 → Q 0 S) ∧ (¬ 10 ≤ l4 → tk_Gs mX6_measure none 47 [.ref 28, .ref 1, .int l2, .int l3, .int l4, .int 0] [] S Q))) : tk_Gs mX6_measure none 37 [.ref 28, .ref 1, .int l2, .int l3, .int l4, .null] [] S Q := by
  show tk_G _ 0 0 _ _ _ _ (tkSH, S, tkRF) _
  refine g_iload dX6_measure_37 rfl ?_
  refine g_bipush (v := 10) dX6_measure_39 (by decide) ?_
  refine g_icmp_ge (tgt := 116) dX6_measure_41 (by decide) (fun c1 => ?_) (fun c1 => ?_)
  · have t := t.1 c1
    exact g_vret (st := []) dX6_measure_116 rfl ⟨_, rfl, t⟩
  · have t := t.2 c1
    refine g_iconst (v := 0) dX6_measure_44 (by decide) ?_
    refine g_istore (ls' := [.ref 28, .ref 1, .int l2, .int l3, .int l4, .int 0]) dX6_measure_45 rfl (by decide) rfl ?_
    exact t
theorem w_X6_measure_47 {Q : Int32 → tS → Prop} {S : tS} (l2 : Int32) (l3 : Int32) (l4 : Int32) (l5 : Int32)  (t : ((16 < l5 → tk_Gs mX6_measure none 37 [.ref 28, .ref 1, .int l2, .int l3, .int (l4 + 1), .null] [] S Q) ∧ (¬ 16 < l5 → (tk_Ms mX2_canPass [.ref 1, .int l5, .int l3] S (fun x2 S3 => ((x2 = 0 → tk_Gs mX6_measure none 47 [.ref 28, .ref 1, .int l2, .int l3, .int l4, .int (l5 + 1)] [] S3 Q) ∧ (¬ x2 = 0 → (vp_in l5 17 ∧ (vp_in l5 17 ∧ (tk_Ms mX6_spread [.ref 28, .int (S3 2 l5.toNatClampNeg), .int (S3 3 l5.toNatClampNeg), .int l4] S3 (fun _ S6 => (vp_in l5 17 ∧ (vp_in l5 17 ∧ (tk_Ms mX6_spread [.ref 28, .int (S6 3 l5.toNatClampNeg), .int (S6 2 l5.toNatClampNeg), .int l4] S6 (fun _ S8 => tk_Gs mX6_measure none 47 [.ref 28, .ref 1, .int l2, .int l3, .int l4, .int (l5 + 1)] [] S8 Q))))))))))))))) : tk_Gs mX6_measure none 47 [.ref 28, .ref 1, .int l2, .int l3, .int l4, .int l5] [] S Q := by
  show tk_G _ 0 0 _ _ _ _ (tkSH, S, tkRF) _
  refine g_iload dX6_measure_47 rfl ?_
  refine g_bipush (v := 16) dX6_measure_49 (by decide) ?_
  refine g_icmp_gt (tgt := 110) dX6_measure_51 (by decide) (fun c1 => ?_) (fun c1 => ?_)
  · have t := t.1 c1
    refine g_iinc (v := l4 + 1) (ls' := [.ref 28, .ref 1, .int l2, .int l3, .int (l4 + 1), .int l5]) dX6_measure_110 rfl rfl (by decide) rfl rfl ?_
    refine g_goto (tgt := 37) dX6_measure_113 (by decide) ?_
    refine g_drop (ls' := [.ref 28, .ref 1, .int l2, .int l3, .int (l4 + 1), .null]) ⟨Or.inl rfl, Or.inl rfl, Or.inl rfl, Or.inl rfl, Or.inl rfl, Or.inr rfl, trivial⟩ ?_
    exact t
  · have t := t.2 c1
    refine g_aload_n dX6_measure_54 rfl ?_
    refine g_iload dX6_measure_55 rfl ?_
    refine g_iload_n dX6_measure_57 rfl ?_
    refine s_V2i dX6_measure_58 vm_X2_canPass ml_X6_15 rfl rfl (by decide) (Nat.le_of_ble_eq_true rfl) rfl (tk_Ms.mono t (fun x2 S3 t => ?_))
    refine g_if_eq (tgt := 104) dX6_measure_61 (by decide) (fun c4 => ?_) (fun c4 => ?_)
    · have t := t.1 c4
      refine g_iinc (v := l5 + 1) (ls' := [.ref 28, .ref 1, .int l2, .int l3, .int l4, .int (l5 + 1)]) dX6_measure_104 rfl rfl (by decide) rfl rfl ?_
      refine g_goto (tgt := 47) dX6_measure_107 (by decide) ?_
      exact t
    · have t := t.2 c4
      refine g_aload_n dX6_measure_64 rfl ?_
      refine g_aload_n dX6_measure_65 rfl ?_
      refine g_getR (n := 4) dX6_measure_66 fl_X6_21 rfl (by decide) (by decide) rfl rfl ?_
      refine g_iload dX6_measure_69 rfl ?_
      refine g_iald (n := 17) dX6_measure_71 rfl t.1 ?_
      have t := t.2
      refine g_aload_n dX6_measure_72 rfl ?_
      refine g_getR (n := 4) dX6_measure_73 fl_X6_24 rfl (by decide) (by decide) rfl rfl ?_
      refine g_iload dX6_measure_76 rfl ?_
      refine g_iald (n := 17) dX6_measure_78 rfl t.1 ?_
      have t := t.2
      refine g_iload dX6_measure_79 rfl ?_
      refine s_V3v dX6_measure_81 vm_X6_spread ml_X6_27 rfl rfl (by decide) (Nat.le_of_ble_eq_true rfl) rfl (tk_Ms.mono t (fun _ S6 t => ?_))
      refine g_aload_n dX6_measure_84 rfl ?_
      refine g_aload_n dX6_measure_85 rfl ?_
      refine g_getR (n := 4) dX6_measure_86 fl_X6_24 rfl (by decide) (by decide) rfl rfl ?_
      refine g_iload dX6_measure_89 rfl ?_
      refine g_iald (n := 17) dX6_measure_91 rfl t.1 ?_
      have t := t.2
      refine g_aload_n dX6_measure_92 rfl ?_
      refine g_getR (n := 4) dX6_measure_93 fl_X6_21 rfl (by decide) (by decide) rfl rfl ?_
      refine g_iload dX6_measure_96 rfl ?_
      refine g_iald (n := 17) dX6_measure_98 rfl t.1 ?_
      have t := t.2
      refine g_iload dX6_measure_99 rfl ?_
      refine s_V3v dX6_measure_101 vm_X6_spread ml_X6_27 rfl rfl (by decide) (Nat.le_of_ble_eq_true rfl) rfl (tk_Ms.mono t (fun _ S8 t => ?_))
      refine g_iinc (v := l5 + 1) (ls' := [.ref 28, .ref 1, .int l2, .int l3, .int l4, .int (l5 + 1)]) dX6_measure_104 rfl rfl (by decide) rfl rfl ?_
      refine g_goto (tgt := 47) dX6_measure_107 (by decide) ?_
      exact t
theorem w_X6_spread {Q : Int32 → tS → Prop} {S : tS} (p1 : Int32) (p2 : Int32) (p3 : Int32) (t : (vp_in p1 11 ∧ ((¬ (S 29 p1.toNatClampNeg) = p3 → (tk_okQ mX6_spread Q) 0 S) ∧ ((S 29 p1.toNatClampNeg) = p3 → (vp_in p2 11 ∧ ((¬ (S 29 p2.toNatClampNeg) = (-1) → (tk_okQ mX6_spread Q) 0 S) ∧ ((S 29 p2.toNatClampNeg) = (-1) → (vp_in p2 11 ∧ (tk_okQ mX6_spread Q) 0 (tk_up S 29 p2.toNatClampNeg (p3 + 1)))))))))) : tk_Ms mX6_spread [.ref 28, .int p1, .int p2, .int p3] S Q := by
  refine tk_Ms.of (ls := [.ref 28, .int p1, .int p2, .int p3]) (by decide) (by first | exact Or.inl rfl | exact Or.inr (Or.inl rfl) | exact Or.inr (Or.inr rfl)) (Nat.le_of_ble_eq_true rfl) rfl ?_
  refine g_aload_n dX6_spread_0 rfl ?_
  refine g_getR (n := 1) dX6_spread_1 fl_X6_9 rfl (by decide) (by decide) rfl rfl ?_
  refine g_iload_n dX6_spread_4 rfl ?_
  refine g_iald (n := 11) dX6_spread_5 rfl t.1 ?_
  have t := t.2
  refine g_iload_n dX6_spread_6 rfl ?_
  refine g_icmp_ne (tgt := 29) dX6_spread_7 (by decide) (fun c1 => ?_) (fun c1 => ?_)
  · have t := t.1 c1
    exact g_vret (st := []) dX6_spread_29 rfl ⟨_, rfl, t⟩
  · have t := t.2 c1
    refine g_aload_n dX6_spread_10 rfl ?_
    refine g_getR (n := 1) dX6_spread_11 fl_X6_9 rfl (by decide) (by decide) rfl rfl ?_
    refine g_iload_n dX6_spread_14 rfl ?_
    refine g_iald (n := 11) dX6_spread_15 rfl t.1 ?_
    have t := t.2
    refine g_iconst (v := (-1)) dX6_spread_16 (by decide) ?_
    refine g_icmp_ne (tgt := 29) dX6_spread_17 (by decide) (fun c2 => ?_) (fun c2 => ?_)
    · have t := t.1 c2
      exact g_vret (st := []) dX6_spread_29 rfl ⟨_, rfl, t⟩
    · have t := t.2 c2
      refine g_aload_n dX6_spread_20 rfl ?_
      refine g_getR (n := 1) dX6_spread_21 fl_X6_9 rfl (by decide) (by decide) rfl rfl ?_
      refine g_iload_n dX6_spread_24 rfl ?_
      refine g_iload_n dX6_spread_25 rfl ?_
      refine g_iconst (v := 1) dX6_spread_26 (by decide) ?_
      refine g_iadd dX6_spread_27 ?_
      refine g_iast (n := 11) dX6_spread_28 rfl t.1 ?_
      have t := t.2
      exact g_vret (st := []) dX6_spread_29 rfl ⟨_, rfl, t⟩
theorem w_X6_locksFromHall {Q : Int32 → tS → Prop} {S : tS} (p1 : Int32) (t : (vp_in 0 11 ∧ tk_Gs mX6_locksFromHall none 13 [.ref 28, .ref 1, .int p1, .int 0, .int 0, .int (S 29 0), .null] [] S (tk_okQ mX6_locksFromHall Q))) : tk_Ms mX6_locksFromHall [.ref 28, .ref 1, .int p1] S Q := by
  refine tk_Ms.of (ls := [.ref 28, .ref 1, .int p1, .null, .null, .null, .null]) (by decide) (by first | exact Or.inl rfl | exact Or.inr (Or.inl rfl) | exact Or.inr (Or.inr rfl)) (Nat.le_of_ble_eq_true rfl) rfl ?_
  refine g_iconst (v := 0) dX6_locksFromHall_0 (by decide) ?_
  refine g_istore_n (ls' := [.ref 28, .ref 1, .int p1, .int 0, .null, .null, .null]) dX6_locksFromHall_1 rfl (by decide) rfl ?_
  refine g_iconst (v := 0) dX6_locksFromHall_2 (by decide) ?_
  refine g_istore (ls' := [.ref 28, .ref 1, .int p1, .int 0, .int 0, .null, .null]) dX6_locksFromHall_3 rfl (by decide) rfl ?_
  refine g_aload_n dX6_locksFromHall_5 rfl ?_
  refine g_getR (n := 1) dX6_locksFromHall_6 fl_X6_9 rfl (by decide) (by decide) rfl rfl ?_
  refine g_iconst (v := 0) dX6_locksFromHall_9 (by decide) ?_
  refine g_iald (n := 11) dX6_locksFromHall_10 rfl t.1 ?_
  have t := t.2
  refine g_istore (ls' := [.ref 28, .ref 1, .int p1, .int 0, .int 0, .int (S 29 0), .null]) dX6_locksFromHall_11 rfl (by decide) rfl ?_
  exact t
theorem w_X6_locksFromHall_13 {Q : Int32 → tS → Prop} {S : tS} (l2 : Int32) (l3 : Int32) (l4 : Int32) (l5 : Int32)  (t : ((l5 ≤ 0 → Q l3 S) ∧ (¬ l5 ≤ 0 → (tk_Ms mX6_doorNearer [.ref 28, .ref 1, .int l2, .int l4, .int l5] S (fun x2 S3 => (vp_in x2 17 ∧ (((S3 4 x2.toNatClampNeg) = 8 → (vp_in x2 17 ∧ ((¬ (S3 2 x2.toNatClampNeg) = l4 → (vp_in x2 17 ∧ tk_Gs mX6_locksFromHall none 13 [.ref 28, .ref 1, .int l2, .int l3, .int (S3 2 x2.toNatClampNeg), .int (l5 + (-1)), .null] [] S3 Q)) ∧ ((S3 2 x2.toNatClampNeg) = l4 → (vp_in x2 17 ∧ tk_Gs mX6_locksFromHall none 13 [.ref 28, .ref 1, .int l2, .int l3, .int (S3 3 x2.toNatClampNeg), .int (l5 + (-1)), .null] [] S3 Q))))) ∧ (¬ (S3 4 x2.toNatClampNeg) = 8 → (vp_in x2 17 ∧ (vp_in x2 17 ∧ ((¬ (S3 2 x2.toNatClampNeg) = l4 → (vp_in x2 17 ∧ tk_Gs mX6_locksFromHall none 13 [.ref 28, .ref 1, .int l2, .int (l3 ||| (1 <<< ((S3 4 x2.toNatClampNeg) &&& 31))), .int (S3 2 x2.toNatClampNeg), .int (l5 + (-1)), .null] [] S3 Q)) ∧ ((S3 2 x2.toNatClampNeg) = l4 → (vp_in x2 17 ∧ tk_Gs mX6_locksFromHall none 13 [.ref 28, .ref 1, .int l2, .int (l3 ||| (1 <<< ((S3 4 x2.toNatClampNeg) &&& 31))), .int (S3 3 x2.toNatClampNeg), .int (l5 + (-1)), .null] [] S3 Q))))))))))))) : tk_Gs mX6_locksFromHall none 13 [.ref 28, .ref 1, .int l2, .int l3, .int l4, .int l5, .null] [] S Q := by
  show tk_G _ 0 0 _ _ _ _ (tkSH, S, tkRF) _
  refine g_iload dX6_locksFromHall_13 rfl ?_
  refine g_if_le (tgt := 91) dX6_locksFromHall_15 (by decide) (fun c1 => ?_) (fun c1 => ?_)
  · have t := t.1 c1
    refine g_iload_n dX6_locksFromHall_91 rfl ?_
    exact g_iret (st := []) dX6_locksFromHall_92 (fun e => by cases e) ⟨_, rfl, t⟩
  · have t := t.2 c1
    refine g_aload_n dX6_locksFromHall_18 rfl ?_
    refine g_aload_n dX6_locksFromHall_19 rfl ?_
    refine g_iload_n dX6_locksFromHall_20 rfl ?_
    refine g_iload dX6_locksFromHall_21 rfl ?_
    refine g_iload dX6_locksFromHall_23 rfl ?_
    refine s_V4i dX6_locksFromHall_25 vm_X6_doorNearer ml_X6_31 rfl rfl (by decide) (Nat.le_of_ble_eq_true rfl) rfl (tk_Ms.mono t (fun x2 S3 t => ?_))
    refine g_istore (ls' := [.ref 28, .ref 1, .int l2, .int l3, .int l4, .int l5, .int x2]) dX6_locksFromHall_28 rfl (by decide) rfl ?_
    refine g_aload_n dX6_locksFromHall_30 rfl ?_
    refine g_getR (n := 4) dX6_locksFromHall_31 fl_X6_35 rfl (by decide) (by decide) rfl rfl ?_
    refine g_iload dX6_locksFromHall_34 rfl ?_
    refine g_iald (n := 17) dX6_locksFromHall_36 rfl t.1 ?_
    have t := t.2
    refine g_bipush (v := 8) dX6_locksFromHall_37 (by decide) ?_
    refine g_icmp_eq (tgt := 54) dX6_locksFromHall_39 (by decide) (fun c4 => ?_) (fun c4 => ?_)
    · have t := t.1 c4
      refine g_aload_n dX6_locksFromHall_54 rfl ?_
      refine g_getR (n := 4) dX6_locksFromHall_55 fl_X6_21 rfl (by decide) (by decide) rfl rfl ?_
      refine g_iload dX6_locksFromHall_58 rfl ?_
      refine g_iald (n := 17) dX6_locksFromHall_60 rfl t.1 ?_
      have t := t.2
      refine g_iload dX6_locksFromHall_61 rfl ?_
      refine g_icmp_ne (tgt := 76) dX6_locksFromHall_63 (by decide) (fun c5 => ?_) (fun c5 => ?_)
      · have t := t.1 c5
        refine g_aload_n dX6_locksFromHall_76 rfl ?_
        refine g_getR (n := 4) dX6_locksFromHall_77 fl_X6_21 rfl (by decide) (by decide) rfl rfl ?_
        refine g_iload dX6_locksFromHall_80 rfl ?_
        refine g_iald (n := 17) dX6_locksFromHall_82 rfl t.1 ?_
        have t := t.2
        refine g_istore (ls' := [.ref 28, .ref 1, .int l2, .int l3, .int (S3 2 x2.toNatClampNeg), .int l5, .int x2]) dX6_locksFromHall_83 rfl (by decide) rfl ?_
        refine g_iinc (v := l5 + (-1)) (ls' := [.ref 28, .ref 1, .int l2, .int l3, .int (S3 2 x2.toNatClampNeg), .int (l5 + (-1)), .int x2]) dX6_locksFromHall_85 rfl rfl (by decide) rfl rfl ?_
        refine g_goto (tgt := 13) dX6_locksFromHall_88 (by decide) ?_
        refine g_drop (ls' := [.ref 28, .ref 1, .int l2, .int l3, .int (S3 2 x2.toNatClampNeg), .int (l5 + (-1)), .null]) ⟨Or.inl rfl, Or.inl rfl, Or.inl rfl, Or.inl rfl, Or.inl rfl, Or.inl rfl, Or.inr rfl, trivial⟩ ?_
        exact t
      · have t := t.2 c5
        refine g_aload_n dX6_locksFromHall_66 rfl ?_
        refine g_getR (n := 4) dX6_locksFromHall_67 fl_X6_24 rfl (by decide) (by decide) rfl rfl ?_
        refine g_iload dX6_locksFromHall_70 rfl ?_
        refine g_iald (n := 17) dX6_locksFromHall_72 rfl t.1 ?_
        have t := t.2
        refine g_goto (tgt := 83) dX6_locksFromHall_73 (by decide) ?_
        refine g_istore (ls' := [.ref 28, .ref 1, .int l2, .int l3, .int (S3 3 x2.toNatClampNeg), .int l5, .int x2]) dX6_locksFromHall_83 rfl (by decide) rfl ?_
        refine g_iinc (v := l5 + (-1)) (ls' := [.ref 28, .ref 1, .int l2, .int l3, .int (S3 3 x2.toNatClampNeg), .int (l5 + (-1)), .int x2]) dX6_locksFromHall_85 rfl rfl (by decide) rfl rfl ?_
        refine g_goto (tgt := 13) dX6_locksFromHall_88 (by decide) ?_
        refine g_drop (ls' := [.ref 28, .ref 1, .int l2, .int l3, .int (S3 3 x2.toNatClampNeg), .int (l5 + (-1)), .null]) ⟨Or.inl rfl, Or.inl rfl, Or.inl rfl, Or.inl rfl, Or.inl rfl, Or.inl rfl, Or.inr rfl, trivial⟩ ?_
        exact t
    · have t := t.2 c4
      refine g_iload_n dX6_locksFromHall_42 rfl ?_
      refine g_iconst (v := 1) dX6_locksFromHall_43 (by decide) ?_
      refine g_aload_n dX6_locksFromHall_44 rfl ?_
      refine g_getR (n := 4) dX6_locksFromHall_45 fl_X6_35 rfl (by decide) (by decide) rfl rfl ?_
      refine g_iload dX6_locksFromHall_48 rfl ?_
      refine g_iald (n := 17) dX6_locksFromHall_50 rfl t.1 ?_
      have t := t.2
      refine g_ishl dX6_locksFromHall_51 ?_
      refine g_ior dX6_locksFromHall_52 ?_
      refine g_istore_n (ls' := [.ref 28, .ref 1, .int l2, .int (l3 ||| (1 <<< ((S3 4 x2.toNatClampNeg) &&& 31))), .int l4, .int l5, .int x2]) dX6_locksFromHall_53 rfl (by decide) rfl ?_
      refine g_aload_n dX6_locksFromHall_54 rfl ?_
      refine g_getR (n := 4) dX6_locksFromHall_55 fl_X6_21 rfl (by decide) (by decide) rfl rfl ?_
      refine g_iload dX6_locksFromHall_58 rfl ?_
      refine g_iald (n := 17) dX6_locksFromHall_60 rfl t.1 ?_
      have t := t.2
      refine g_iload dX6_locksFromHall_61 rfl ?_
      refine g_icmp_ne (tgt := 76) dX6_locksFromHall_63 (by decide) (fun c6 => ?_) (fun c6 => ?_)
      · have t := t.1 c6
        refine g_aload_n dX6_locksFromHall_76 rfl ?_
        refine g_getR (n := 4) dX6_locksFromHall_77 fl_X6_21 rfl (by decide) (by decide) rfl rfl ?_
        refine g_iload dX6_locksFromHall_80 rfl ?_
        refine g_iald (n := 17) dX6_locksFromHall_82 rfl t.1 ?_
        have t := t.2
        refine g_istore (ls' := [.ref 28, .ref 1, .int l2, .int (l3 ||| (1 <<< ((S3 4 x2.toNatClampNeg) &&& 31))), .int (S3 2 x2.toNatClampNeg), .int l5, .int x2]) dX6_locksFromHall_83 rfl (by decide) rfl ?_
        refine g_iinc (v := l5 + (-1)) (ls' := [.ref 28, .ref 1, .int l2, .int (l3 ||| (1 <<< ((S3 4 x2.toNatClampNeg) &&& 31))), .int (S3 2 x2.toNatClampNeg), .int (l5 + (-1)), .int x2]) dX6_locksFromHall_85 rfl rfl (by decide) rfl rfl ?_
        refine g_goto (tgt := 13) dX6_locksFromHall_88 (by decide) ?_
        refine g_drop (ls' := [.ref 28, .ref 1, .int l2, .int (l3 ||| (1 <<< ((S3 4 x2.toNatClampNeg) &&& 31))), .int (S3 2 x2.toNatClampNeg), .int (l5 + (-1)), .null]) ⟨Or.inl rfl, Or.inl rfl, Or.inl rfl, Or.inl rfl, Or.inl rfl, Or.inl rfl, Or.inr rfl, trivial⟩ ?_
        exact t
      · have t := t.2 c6
        refine g_aload_n dX6_locksFromHall_66 rfl ?_
        refine g_getR (n := 4) dX6_locksFromHall_67 fl_X6_24 rfl (by decide) (by decide) rfl rfl ?_
        refine g_iload dX6_locksFromHall_70 rfl ?_
        refine g_iald (n := 17) dX6_locksFromHall_72 rfl t.1 ?_
        have t := t.2
        refine g_goto (tgt := 83) dX6_locksFromHall_73 (by decide) ?_
        refine g_istore (ls' := [.ref 28, .ref 1, .int l2, .int (l3 ||| (1 <<< ((S3 4 x2.toNatClampNeg) &&& 31))), .int (S3 3 x2.toNatClampNeg), .int l5, .int x2]) dX6_locksFromHall_83 rfl (by decide) rfl ?_
        refine g_iinc (v := l5 + (-1)) (ls' := [.ref 28, .ref 1, .int l2, .int (l3 ||| (1 <<< ((S3 4 x2.toNatClampNeg) &&& 31))), .int (S3 3 x2.toNatClampNeg), .int (l5 + (-1)), .int x2]) dX6_locksFromHall_85 rfl rfl (by decide) rfl rfl ?_
        refine g_goto (tgt := 13) dX6_locksFromHall_88 (by decide) ?_
        refine g_drop (ls' := [.ref 28, .ref 1, .int l2, .int (l3 ||| (1 <<< ((S3 4 x2.toNatClampNeg) &&& 31))), .int (S3 3 x2.toNatClampNeg), .int (l5 + (-1)), .null]) ⟨Or.inl rfl, Or.inl rfl, Or.inl rfl, Or.inl rfl, Or.inl rfl, Or.inl rfl, Or.inr rfl, trivial⟩ ?_
        exact t
theorem w_X6_doorNearer {Q : Int32 → tS → Prop} {S : tS} (p1 : Int32) (p2 : Int32) (p3 : Int32) (t : tk_Gs mX6_doorNearer none 3 [.ref 28, .ref 1, .int p1, .int p2, .int p3, .int 0, .null] [] S (tk_okQ mX6_doorNearer Q)) : tk_Ms mX6_doorNearer [.ref 28, .ref 1, .int p1, .int p2, .int p3] S Q := by
  refine tk_Ms.of (ls := [.ref 28, .ref 1, .int p1, .int p2, .int p3, .null, .null]) (by decide) (by first | exact Or.inl rfl | exact Or.inr (Or.inl rfl) | exact Or.inr (Or.inr rfl)) (Nat.le_of_ble_eq_true rfl) rfl ?_
  refine g_iconst (v := 0) dX6_doorNearer_0 (by decide) ?_
  refine g_istore (ls' := [.ref 28, .ref 1, .int p1, .int p2, .int p3, .int 0, .null]) dX6_doorNearer_1 rfl (by decide) rfl ?_
  exact t
theorem w_X6_doorNearer_3 {Q : Int32 → tS → Prop} {S : tS} (l2 : Int32) (l3 : Int32) (l4 : Int32) (l5 : Int32)  (t : ((16 ≤ l5 → Q 16 S) ∧ (¬ 16 ≤ l5 → (tk_Ms mX2_canPass [.ref 1, .int l5, .int l2] S (fun x2 S3 => ((x2 = 0 → tk_Gs mX6_doorNearer none 3 [.ref 28, .ref 1, .int l2, .int l3, .int l4, .int (l5 + 1), .null] [] S3 Q) ∧ (¬ x2 = 0 → (tk_Ms mX2_isAt [.ref 1, .int l5, .int l3] S3 (fun x5 S6 => ((x5 = 0 → tk_Gs mX6_doorNearer none 3 [.ref 28, .ref 1, .int l2, .int l3, .int l4, .int (l5 + 1), .null] [] S6 Q) ∧ (¬ x5 = 0 → (vp_in l5 17 ∧ ((¬ (S6 2 l5.toNatClampNeg) = l3 → (vp_in l5 17 ∧ (vp_in (S6 2 l5.toNatClampNeg) 11 ∧ ((¬ (S6 29 (S6 2 l5.toNatClampNeg).toNatClampNeg) = (l4 - 1) → tk_Gs mX6_doorNearer none 3 [.ref 28, .ref 1, .int l2, .int l3, .int l4, .int (l5 + 1), .null] [] S6 Q) ∧ ((S6 29 (S6 2 l5.toNatClampNeg).toNatClampNeg) = (l4 - 1) → Q l5 S6))))) ∧ ((S6 2 l5.toNatClampNeg) = l3 → (vp_in l5 17 ∧ (vp_in (S6 3 l5.toNatClampNeg) 11 ∧ ((¬ (S6 29 (S6 3 l5.toNatClampNeg).toNatClampNeg) = (l4 - 1) → tk_Gs mX6_doorNearer none 3 [.ref 28, .ref 1, .int l2, .int l3, .int l4, .int (l5 + 1), .null] [] S6 Q) ∧ ((S6 29 (S6 3 l5.toNatClampNeg).toNatClampNeg) = (l4 - 1) → Q l5 S6)))))))))))))))))) : tk_Gs mX6_doorNearer none 3 [.ref 28, .ref 1, .int l2, .int l3, .int l4, .int l5, .null] [] S Q := by
  show tk_G _ 0 0 _ _ _ _ (tkSH, S, tkRF) _
  refine g_iload dX6_doorNearer_3 rfl ?_
  refine g_bipush (v := 16) dX6_doorNearer_5 (by decide) ?_
  refine g_icmp_ge (tgt := 83) dX6_doorNearer_7 (by decide) (fun c1 => ?_) (fun c1 => ?_)
  · have t := t.1 c1
    refine g_bipush (v := 16) dX6_doorNearer_83 (by decide) ?_
    exact g_iret (st := []) dX6_doorNearer_85 (fun e => by cases e) ⟨_, rfl, t⟩
  · have t := t.2 c1
    refine g_aload_n dX6_doorNearer_10 rfl ?_
    refine g_iload dX6_doorNearer_11 rfl ?_
    refine g_iload_n dX6_doorNearer_13 rfl ?_
    refine s_V2i dX6_doorNearer_14 vm_X2_canPass ml_X6_15 rfl rfl (by decide) (Nat.le_of_ble_eq_true rfl) rfl (tk_Ms.mono t (fun x2 S3 t => ?_))
    refine g_if_eq (tgt := 77) dX6_doorNearer_17 (by decide) (fun c4 => ?_) (fun c4 => ?_)
    · have t := t.1 c4
      refine g_iinc (v := l5 + 1) (ls' := [.ref 28, .ref 1, .int l2, .int l3, .int l4, .int (l5 + 1), .null]) dX6_doorNearer_77 rfl rfl (by decide) rfl rfl ?_
      refine g_goto (tgt := 3) dX6_doorNearer_80 (by decide) ?_
      exact t
    · have t := t.2 c4
      refine g_aload_n dX6_doorNearer_20 rfl ?_
      refine g_iload dX6_doorNearer_21 rfl ?_
      refine g_iload_n dX6_doorNearer_23 rfl ?_
      refine s_V2i dX6_doorNearer_24 vm_X2_isAt ml_X6_38 rfl rfl (by decide) (Nat.le_of_ble_eq_true rfl) rfl (tk_Ms.mono t (fun x5 S6 t => ?_))
      refine g_if_eq (tgt := 77) dX6_doorNearer_27 (by decide) (fun c7 => ?_) (fun c7 => ?_)
      · have t := t.1 c7
        refine g_iinc (v := l5 + 1) (ls' := [.ref 28, .ref 1, .int l2, .int l3, .int l4, .int (l5 + 1), .null]) dX6_doorNearer_77 rfl rfl (by decide) rfl rfl ?_
        refine g_goto (tgt := 3) dX6_doorNearer_80 (by decide) ?_
        exact t
      · have t := t.2 c7
        refine g_aload_n dX6_doorNearer_30 rfl ?_
        refine g_getR (n := 4) dX6_doorNearer_31 fl_X6_21 rfl (by decide) (by decide) rfl rfl ?_
        refine g_iload dX6_doorNearer_34 rfl ?_
        refine g_iald (n := 17) dX6_doorNearer_36 rfl t.1 ?_
        have t := t.2
        refine g_iload_n dX6_doorNearer_37 rfl ?_
        refine g_icmp_ne (tgt := 51) dX6_doorNearer_38 (by decide) (fun c8 => ?_) (fun c8 => ?_)
        · have t := t.1 c8
          refine g_aload_n dX6_doorNearer_51 rfl ?_
          refine g_getR (n := 4) dX6_doorNearer_52 fl_X6_21 rfl (by decide) (by decide) rfl rfl ?_
          refine g_iload dX6_doorNearer_55 rfl ?_
          refine g_iald (n := 17) dX6_doorNearer_57 rfl t.1 ?_
          have t := t.2
          refine g_istore (ls' := [.ref 28, .ref 1, .int l2, .int l3, .int l4, .int l5, .int (S6 2 l5.toNatClampNeg)]) dX6_doorNearer_58 rfl (by decide) rfl ?_
          refine g_aload_n dX6_doorNearer_60 rfl ?_
          refine g_getR (n := 1) dX6_doorNearer_61 fl_X6_9 rfl (by decide) (by decide) rfl rfl ?_
          refine g_iload dX6_doorNearer_64 rfl ?_
          refine g_iald (n := 11) dX6_doorNearer_66 rfl t.1 ?_
          have t := t.2
          refine g_iload dX6_doorNearer_67 rfl ?_
          refine g_iconst (v := 1) dX6_doorNearer_69 (by decide) ?_
          refine g_isub dX6_doorNearer_70 ?_
          refine g_icmp_ne (tgt := 77) dX6_doorNearer_71 (by decide) (fun c9 => ?_) (fun c9 => ?_)
          · have t := t.1 c9
            refine g_iinc (v := l5 + 1) (ls' := [.ref 28, .ref 1, .int l2, .int l3, .int l4, .int (l5 + 1), .int (S6 2 l5.toNatClampNeg)]) dX6_doorNearer_77 rfl rfl (by decide) rfl rfl ?_
            refine g_goto (tgt := 3) dX6_doorNearer_80 (by decide) ?_
            refine g_drop (ls' := [.ref 28, .ref 1, .int l2, .int l3, .int l4, .int (l5 + 1), .null]) ⟨Or.inl rfl, Or.inl rfl, Or.inl rfl, Or.inl rfl, Or.inl rfl, Or.inl rfl, Or.inr rfl, trivial⟩ ?_
            exact t
          · have t := t.2 c9
            refine g_iload dX6_doorNearer_74 rfl ?_
            exact g_iret (st := []) dX6_doorNearer_76 (fun e => by cases e) ⟨_, rfl, t⟩
        · have t := t.2 c8
          refine g_aload_n dX6_doorNearer_41 rfl ?_
          refine g_getR (n := 4) dX6_doorNearer_42 fl_X6_24 rfl (by decide) (by decide) rfl rfl ?_
          refine g_iload dX6_doorNearer_45 rfl ?_
          refine g_iald (n := 17) dX6_doorNearer_47 rfl t.1 ?_
          have t := t.2
          refine g_goto (tgt := 58) dX6_doorNearer_48 (by decide) ?_
          refine g_istore (ls' := [.ref 28, .ref 1, .int l2, .int l3, .int l4, .int l5, .int (S6 3 l5.toNatClampNeg)]) dX6_doorNearer_58 rfl (by decide) rfl ?_
          refine g_aload_n dX6_doorNearer_60 rfl ?_
          refine g_getR (n := 1) dX6_doorNearer_61 fl_X6_9 rfl (by decide) (by decide) rfl rfl ?_
          refine g_iload dX6_doorNearer_64 rfl ?_
          refine g_iald (n := 11) dX6_doorNearer_66 rfl t.1 ?_
          have t := t.2
          refine g_iload dX6_doorNearer_67 rfl ?_
          refine g_iconst (v := 1) dX6_doorNearer_69 (by decide) ?_
          refine g_isub dX6_doorNearer_70 ?_
          refine g_icmp_ne (tgt := 77) dX6_doorNearer_71 (by decide) (fun c10 => ?_) (fun c10 => ?_)
          · have t := t.1 c10
            refine g_iinc (v := l5 + 1) (ls' := [.ref 28, .ref 1, .int l2, .int l3, .int l4, .int (l5 + 1), .int (S6 3 l5.toNatClampNeg)]) dX6_doorNearer_77 rfl rfl (by decide) rfl rfl ?_
            refine g_goto (tgt := 3) dX6_doorNearer_80 (by decide) ?_
            refine g_drop (ls' := [.ref 28, .ref 1, .int l2, .int l3, .int l4, .int (l5 + 1), .null]) ⟨Or.inl rfl, Or.inl rfl, Or.inl rfl, Or.inl rfl, Or.inl rfl, Or.inl rfl, Or.inr rfl, trivial⟩ ?_
            exact t
          · have t := t.2 c10
            refine g_iload dX6_doorNearer_74 rfl ?_
            exact g_iret (st := []) dX6_doorNearer_76 (fun e => by cases e) ⟨_, rfl, t⟩
