theorem w_X8_in {Q : Int32 → tS → Prop} {S : tS} (p1 : Int64) (p2 : Int64) (p3 : Int64) (t : (((lg_cmp p1 p2) < 0 → (tk_okQ mX8_in Q) 0 S) ∧ (¬ (lg_cmp p1 p2) < 0 → ((0 < (lg_cmp p1 p3) → (tk_okQ mX8_in Q) 0 S) ∧ (¬ 0 < (lg_cmp p1 p3) → (tk_okQ mX8_in Q) 1 S))))) : tk_Ms mX8_in [.long p1, .long p2, .long p3] S Q := by
  refine tk_Ms.of (ls := [.long p1, .null, .long p2, .null, .long p3, .null]) (by decide) (by first | exact Or.inl rfl | exact Or.inr (Or.inl rfl) | exact Or.inr (Or.inr rfl)) (Nat.le_of_ble_eq_true rfl) rfl ?_
  refine g_lload_n dX8_in_0 rfl ?_
  refine g_lload_n dX8_in_1 rfl ?_
  refine g_lcmp dX8_in_2 ?_
  refine g_if_lt (tgt := 17) dX8_in_3 (by decide) (fun c1 => ?_) (fun c1 => ?_)
  · have t := t.1 c1
    refine g_iconst (v := 0) dX8_in_17 (by decide) ?_
    exact g_iret (st := []) dX8_in_18 (fun e => by cases e) ⟨_, rfl, t⟩
  · have t := t.2 c1
    refine g_lload_n dX8_in_6 rfl ?_
    refine g_lload dX8_in_7 rfl ?_
    refine g_lcmp dX8_in_9 ?_
    refine g_if_gt (tgt := 17) dX8_in_10 (by decide) (fun c2 => ?_) (fun c2 => ?_)
    · have t := t.1 c2
      refine g_iconst (v := 0) dX8_in_17 (by decide) ?_
      exact g_iret (st := []) dX8_in_18 (fun e => by cases e) ⟨_, rfl, t⟩
    · have t := t.2 c2
      refine g_iconst (v := 1) dX8_in_13 (by decide) ?_
      refine g_goto (tgt := 18) dX8_in_14 (by decide) ?_
      exact g_iret (st := []) dX8_in_18 (fun e => by cases e) ⟨_, rfl, t⟩
theorem w_X8_has {Q : Int32 → tS → Prop} {S : tS} (p1 : Int32) (p2 : Int32) (t : ((¬ ((p1 >>> (p2 &&& 31)) &&& 1) = 1 → (tk_okQ mX8_has Q) 0 S) ∧ (((p1 >>> (p2 &&& 31)) &&& 1) = 1 → (tk_okQ mX8_has Q) 1 S))) : tk_Ms mX8_has [.int p1, .int p2] S Q := by
  refine tk_Ms.of (ls := [.int p1, .int p2]) (by decide) (by first | exact Or.inl rfl | exact Or.inr (Or.inl rfl) | exact Or.inr (Or.inr rfl)) (Nat.le_of_ble_eq_true rfl) rfl ?_
  refine g_iload_n dX8_has_0 rfl ?_
  refine g_iload_n dX8_has_1 rfl ?_
  refine g_ishr dX8_has_2 ?_
  refine g_iconst (v := 1) dX8_has_3 (by decide) ?_
  refine g_iand dX8_has_4 ?_
  refine g_iconst (v := 1) dX8_has_5 (by decide) ?_
  refine g_icmp_ne (tgt := 13) dX8_has_6 (by decide) (fun c1 => ?_) (fun c1 => ?_)
  · have t := t.1 c1
    refine g_iconst (v := 0) dX8_has_13 (by decide) ?_
    exact g_iret (st := []) dX8_has_14 (fun e => by cases e) ⟨_, rfl, t⟩
  · have t := t.2 c1
    refine g_iconst (v := 1) dX8_has_9 (by decide) ?_
    refine g_goto (tgt := 14) dX8_has_10 (by decide) ?_
    exact g_iret (st := []) dX8_has_14 (fun e => by cases e) ⟨_, rfl, t⟩
theorem w_X8_isPlace {Q : Int32 → tS → Prop} {S : tS} (p1 : Int32) (t : (tk_Ms mX8_in [.long ((p1 : Int32).toInt64), .long (0 : Int64), .long (10 : Int64)] S (fun x1 S2 => (tk_okQ mX8_isPlace Q) x1 S2))) : tk_Ms mX8_isPlace [.int p1] S Q := by
  refine tk_Ms.of (ls := [.int p1]) (by decide) (by first | exact Or.inl rfl | exact Or.inr (Or.inl rfl) | exact Or.inr (Or.inr rfl)) (Nat.le_of_ble_eq_true rfl) rfl ?_
  refine g_iload_n dX8_isPlace_0 rfl ?_
  refine g_i2l dX8_isPlace_1 ?_
  refine g_lconst (v := 0) dX8_isPlace_2 (by decide) ?_
  refine g_ldc2 (v := 10) dX8_isPlace_3 kl_X8_64 ?_
  refine s_S3i dX8_isPlace_6 sm_X8_in ml_X8_66 rfl (by decide) (Nat.le_of_ble_eq_true rfl) rfl (tk_Ms.mono t (fun x1 S2 t => ?_))
  exact g_iret (st := []) dX8_isPlace_9 (fun e => by cases e) ⟨_, rfl, t⟩
theorem w_X8_isKey {Q : Int32 → tS → Prop} {S : tS} (p1 : Int32) (t : (tk_Ms mX8_in [.long ((p1 : Int32).toInt64), .long (0 : Int64), .long (((S 45 9) - 1 : Int32).toInt64)] S (fun x1 S2 => (tk_okQ mX8_isKey Q) x1 S2))) : tk_Ms mX8_isKey [.ref 45, .int p1] S Q := by
  refine tk_Ms.of (ls := [.ref 45, .int p1]) (by decide) (by first | exact Or.inl rfl | exact Or.inr (Or.inl rfl) | exact Or.inr (Or.inr rfl)) (Nat.le_of_ble_eq_true rfl) rfl ?_
  refine g_iload_n dX8_isKey_0 rfl ?_
  refine g_i2l dX8_isKey_1 ?_
  refine g_lconst (v := 0) dX8_isKey_2 (by decide) ?_
  refine g_aload_n dX8_isKey_3 rfl ?_
  refine g_getI (n := 25) dX8_isKey_4 fl_X8_70 rfl (by decide) (by decide) rfl ?_
  refine g_iconst (v := 1) dX8_isKey_7 (by decide) ?_
  refine g_isub dX8_isKey_8 ?_
  refine g_i2l dX8_isKey_9 ?_
  refine s_S3i dX8_isKey_10 sm_X8_in ml_X8_66 rfl (by decide) (Nat.le_of_ble_eq_true rfl) rfl (tk_Ms.mono t (fun x1 S2 t => ?_))
  exact g_iret (st := []) dX8_isKey_13 (fun e => by cases e) ⟨_, rfl, t⟩
theorem w_X8_canJoin {Q : Int32 → tS → Prop} {S : tS} (p1 : Int32) (p2 : Int32) (t : ((¬ p1 = 0 → ((¬ p1 = 10 → ((p1 = p2 → (tk_okQ mX8_canJoin Q) 0 S) ∧ (¬ p1 = p2 → ((¬ (0 : Int32) = 0 → (tk_okQ mX8_canJoin Q) 0 S) ∧ ((0 : Int32) = 0 → (tk_okQ mX8_canJoin Q) 1 S))))) ∧ (p1 = 10 → ((¬ p2 = 0 → ((p1 = p2 → (tk_okQ mX8_canJoin Q) 0 S) ∧ (¬ p1 = p2 → ((¬ (0 : Int32) = 0 → (tk_okQ mX8_canJoin Q) 0 S) ∧ ((0 : Int32) = 0 → (tk_okQ mX8_canJoin Q) 1 S))))) ∧ (p2 = 0 → ((p1 = p2 → (tk_okQ mX8_canJoin Q) 0 S) ∧ (¬ p1 = p2 → ((¬ (1 : Int32) = 0 → (tk_okQ mX8_canJoin Q) 0 S) ∧ ((1 : Int32) = 0 → (tk_okQ mX8_canJoin Q) 1 S))))))))) ∧ (p1 = 0 → ((p2 = 10 → ((p1 = p2 → (tk_okQ mX8_canJoin Q) 0 S) ∧ (¬ p1 = p2 → ((¬ (1 : Int32) = 0 → (tk_okQ mX8_canJoin Q) 0 S) ∧ ((1 : Int32) = 0 → (tk_okQ mX8_canJoin Q) 1 S))))) ∧ (¬ p2 = 10 → ((¬ p1 = 10 → ((p1 = p2 → (tk_okQ mX8_canJoin Q) 0 S) ∧ (¬ p1 = p2 → ((¬ (0 : Int32) = 0 → (tk_okQ mX8_canJoin Q) 0 S) ∧ ((0 : Int32) = 0 → (tk_okQ mX8_canJoin Q) 1 S))))) ∧ (p1 = 10 → ((¬ p2 = 0 → ((p1 = p2 → (tk_okQ mX8_canJoin Q) 0 S) ∧ (¬ p1 = p2 → ((¬ (0 : Int32) = 0 → (tk_okQ mX8_canJoin Q) 0 S) ∧ ((0 : Int32) = 0 → (tk_okQ mX8_canJoin Q) 1 S))))) ∧ (p2 = 0 → ((p1 = p2 → (tk_okQ mX8_canJoin Q) 0 S) ∧ (¬ p1 = p2 → ((¬ (1 : Int32) = 0 → (tk_okQ mX8_canJoin Q) 0 S) ∧ ((1 : Int32) = 0 → (tk_okQ mX8_canJoin Q) 1 S))))))))))))) : tk_Ms mX8_canJoin [.int p1, .int p2] S Q := by
  refine tk_Ms.of (ls := [.int p1, .int p2, .null]) (by decide) (by first | exact Or.inl rfl | exact Or.inr (Or.inl rfl) | exact Or.inr (Or.inr rfl)) (Nat.le_of_ble_eq_true rfl) rfl ?_
  refine g_iload_n dX8_canJoin_0 rfl ?_
  refine g_if_ne (tgt := 10) dX8_canJoin_1 (by decide) (fun c1 => ?_) (fun c1 => ?_)
  · have t := t.1 c1
    refine g_iload_n dX8_canJoin_10 rfl ?_
    refine g_bipush (v := 10) dX8_canJoin_11 (by decide) ?_
    refine g_icmp_ne (tgt := 24) dX8_canJoin_13 (by decide) (fun c2 => ?_) (fun c2 => ?_)
    · have t := t.1 c2
      refine g_iconst (v := 0) dX8_canJoin_24 (by decide) ?_
      refine g_istore_n (ls' := [.int p1, .int p2, .int 0]) dX8_canJoin_25 rfl (by decide) rfl ?_
      refine g_iload_n dX8_canJoin_26 rfl ?_
      refine g_iload_n dX8_canJoin_27 rfl ?_
      refine g_icmp_eq (tgt := 39) dX8_canJoin_28 (by decide) (fun c3 => ?_) (fun c3 => ?_)
      · have t := t.1 c3
        refine g_iconst (v := 0) dX8_canJoin_39 (by decide) ?_
        exact g_iret (st := []) dX8_canJoin_40 (fun e => by cases e) ⟨_, rfl, t⟩
      · have t := t.2 c3
        refine g_iload_n dX8_canJoin_31 rfl ?_
        refine g_if_ne (tgt := 39) dX8_canJoin_32 (by decide) (fun c4 => ?_) (fun c4 => ?_)
        · have t := t.1 c4
          refine g_iconst (v := 0) dX8_canJoin_39 (by decide) ?_
          exact g_iret (st := []) dX8_canJoin_40 (fun e => by cases e) ⟨_, rfl, t⟩
        · have t := t.2 c4
          refine g_iconst (v := 1) dX8_canJoin_35 (by decide) ?_
          refine g_goto (tgt := 40) dX8_canJoin_36 (by decide) ?_
          exact g_iret (st := []) dX8_canJoin_40 (fun e => by cases e) ⟨_, rfl, t⟩
    · have t := t.2 c2
      refine g_iload_n dX8_canJoin_16 rfl ?_
      refine g_if_ne (tgt := 24) dX8_canJoin_17 (by decide) (fun c5 => ?_) (fun c5 => ?_)
      · have t := t.1 c5
        refine g_iconst (v := 0) dX8_canJoin_24 (by decide) ?_
        refine g_istore_n (ls' := [.int p1, .int p2, .int 0]) dX8_canJoin_25 rfl (by decide) rfl ?_
        refine g_iload_n dX8_canJoin_26 rfl ?_
        refine g_iload_n dX8_canJoin_27 rfl ?_
        refine g_icmp_eq (tgt := 39) dX8_canJoin_28 (by decide) (fun c6 => ?_) (fun c6 => ?_)
        · have t := t.1 c6
          refine g_iconst (v := 0) dX8_canJoin_39 (by decide) ?_
          exact g_iret (st := []) dX8_canJoin_40 (fun e => by cases e) ⟨_, rfl, t⟩
        · have t := t.2 c6
          refine g_iload_n dX8_canJoin_31 rfl ?_
          refine g_if_ne (tgt := 39) dX8_canJoin_32 (by decide) (fun c7 => ?_) (fun c7 => ?_)
          · have t := t.1 c7
            refine g_iconst (v := 0) dX8_canJoin_39 (by decide) ?_
            exact g_iret (st := []) dX8_canJoin_40 (fun e => by cases e) ⟨_, rfl, t⟩
          · have t := t.2 c7
            refine g_iconst (v := 1) dX8_canJoin_35 (by decide) ?_
            refine g_goto (tgt := 40) dX8_canJoin_36 (by decide) ?_
            exact g_iret (st := []) dX8_canJoin_40 (fun e => by cases e) ⟨_, rfl, t⟩
      · have t := t.2 c5
        refine g_iconst (v := 1) dX8_canJoin_20 (by decide) ?_
        refine g_goto (tgt := 25) dX8_canJoin_21 (by decide) ?_
        refine g_istore_n (ls' := [.int p1, .int p2, .int 1]) dX8_canJoin_25 rfl (by decide) rfl ?_
        refine g_iload_n dX8_canJoin_26 rfl ?_
        refine g_iload_n dX8_canJoin_27 rfl ?_
        refine g_icmp_eq (tgt := 39) dX8_canJoin_28 (by decide) (fun c8 => ?_) (fun c8 => ?_)
        · have t := t.1 c8
          refine g_iconst (v := 0) dX8_canJoin_39 (by decide) ?_
          exact g_iret (st := []) dX8_canJoin_40 (fun e => by cases e) ⟨_, rfl, t⟩
        · have t := t.2 c8
          refine g_iload_n dX8_canJoin_31 rfl ?_
          refine g_if_ne (tgt := 39) dX8_canJoin_32 (by decide) (fun c9 => ?_) (fun c9 => ?_)
          · have t := t.1 c9
            refine g_iconst (v := 0) dX8_canJoin_39 (by decide) ?_
            exact g_iret (st := []) dX8_canJoin_40 (fun e => by cases e) ⟨_, rfl, t⟩
          · have t := t.2 c9
            refine g_iconst (v := 1) dX8_canJoin_35 (by decide) ?_
            refine g_goto (tgt := 40) dX8_canJoin_36 (by decide) ?_
            exact g_iret (st := []) dX8_canJoin_40 (fun e => by cases e) ⟨_, rfl, t⟩
  · have t := t.2 c1
    refine g_iload_n dX8_canJoin_4 rfl ?_
    refine g_bipush (v := 10) dX8_canJoin_5 (by decide) ?_
    refine g_icmp_eq (tgt := 20) dX8_canJoin_7 (by decide) (fun c10 => ?_) (fun c10 => ?_)
    · have t := t.1 c10
      refine g_iconst (v := 1) dX8_canJoin_20 (by decide) ?_
      refine g_goto (tgt := 25) dX8_canJoin_21 (by decide) ?_
      refine g_istore_n (ls' := [.int p1, .int p2, .int 1]) dX8_canJoin_25 rfl (by decide) rfl ?_
      refine g_iload_n dX8_canJoin_26 rfl ?_
      refine g_iload_n dX8_canJoin_27 rfl ?_
      refine g_icmp_eq (tgt := 39) dX8_canJoin_28 (by decide) (fun c11 => ?_) (fun c11 => ?_)
      · have t := t.1 c11
        refine g_iconst (v := 0) dX8_canJoin_39 (by decide) ?_
        exact g_iret (st := []) dX8_canJoin_40 (fun e => by cases e) ⟨_, rfl, t⟩
      · have t := t.2 c11
        refine g_iload_n dX8_canJoin_31 rfl ?_
        refine g_if_ne (tgt := 39) dX8_canJoin_32 (by decide) (fun c12 => ?_) (fun c12 => ?_)
        · have t := t.1 c12
          refine g_iconst (v := 0) dX8_canJoin_39 (by decide) ?_
          exact g_iret (st := []) dX8_canJoin_40 (fun e => by cases e) ⟨_, rfl, t⟩
        · have t := t.2 c12
          refine g_iconst (v := 1) dX8_canJoin_35 (by decide) ?_
          refine g_goto (tgt := 40) dX8_canJoin_36 (by decide) ?_
          exact g_iret (st := []) dX8_canJoin_40 (fun e => by cases e) ⟨_, rfl, t⟩
    · have t := t.2 c10
      refine g_iload_n dX8_canJoin_10 rfl ?_
      refine g_bipush (v := 10) dX8_canJoin_11 (by decide) ?_
      refine g_icmp_ne (tgt := 24) dX8_canJoin_13 (by decide) (fun c13 => ?_) (fun c13 => ?_)
      · have t := t.1 c13
        refine g_iconst (v := 0) dX8_canJoin_24 (by decide) ?_
        refine g_istore_n (ls' := [.int p1, .int p2, .int 0]) dX8_canJoin_25 rfl (by decide) rfl ?_
        refine g_iload_n dX8_canJoin_26 rfl ?_
        refine g_iload_n dX8_canJoin_27 rfl ?_
        refine g_icmp_eq (tgt := 39) dX8_canJoin_28 (by decide) (fun c14 => ?_) (fun c14 => ?_)
        · have t := t.1 c14
          refine g_iconst (v := 0) dX8_canJoin_39 (by decide) ?_
          exact g_iret (st := []) dX8_canJoin_40 (fun e => by cases e) ⟨_, rfl, t⟩
        · have t := t.2 c14
          refine g_iload_n dX8_canJoin_31 rfl ?_
          refine g_if_ne (tgt := 39) dX8_canJoin_32 (by decide) (fun c15 => ?_) (fun c15 => ?_)
          · have t := t.1 c15
            refine g_iconst (v := 0) dX8_canJoin_39 (by decide) ?_
            exact g_iret (st := []) dX8_canJoin_40 (fun e => by cases e) ⟨_, rfl, t⟩
          · have t := t.2 c15
            refine g_iconst (v := 1) dX8_canJoin_35 (by decide) ?_
            refine g_goto (tgt := 40) dX8_canJoin_36 (by decide) ?_
            exact g_iret (st := []) dX8_canJoin_40 (fun e => by cases e) ⟨_, rfl, t⟩
      · have t := t.2 c13
        refine g_iload_n dX8_canJoin_16 rfl ?_
        refine g_if_ne (tgt := 24) dX8_canJoin_17 (by decide) (fun c16 => ?_) (fun c16 => ?_)
        · have t := t.1 c16
          refine g_iconst (v := 0) dX8_canJoin_24 (by decide) ?_
          refine g_istore_n (ls' := [.int p1, .int p2, .int 0]) dX8_canJoin_25 rfl (by decide) rfl ?_
          refine g_iload_n dX8_canJoin_26 rfl ?_
          refine g_iload_n dX8_canJoin_27 rfl ?_
          refine g_icmp_eq (tgt := 39) dX8_canJoin_28 (by decide) (fun c17 => ?_) (fun c17 => ?_)
          · have t := t.1 c17
            refine g_iconst (v := 0) dX8_canJoin_39 (by decide) ?_
            exact g_iret (st := []) dX8_canJoin_40 (fun e => by cases e) ⟨_, rfl, t⟩
          · have t := t.2 c17
            refine g_iload_n dX8_canJoin_31 rfl ?_
            refine g_if_ne (tgt := 39) dX8_canJoin_32 (by decide) (fun c18 => ?_) (fun c18 => ?_)
            · have t := t.1 c18
              refine g_iconst (v := 0) dX8_canJoin_39 (by decide) ?_
              exact g_iret (st := []) dX8_canJoin_40 (fun e => by cases e) ⟨_, rfl, t⟩
            · have t := t.2 c18
              refine g_iconst (v := 1) dX8_canJoin_35 (by decide) ?_
              refine g_goto (tgt := 40) dX8_canJoin_36 (by decide) ?_
              exact g_iret (st := []) dX8_canJoin_40 (fun e => by cases e) ⟨_, rfl, t⟩
        · have t := t.2 c16
          refine g_iconst (v := 1) dX8_canJoin_20 (by decide) ?_
          refine g_goto (tgt := 25) dX8_canJoin_21 (by decide) ?_
          refine g_istore_n (ls' := [.int p1, .int p2, .int 1]) dX8_canJoin_25 rfl (by decide) rfl ?_
          refine g_iload_n dX8_canJoin_26 rfl ?_
          refine g_iload_n dX8_canJoin_27 rfl ?_
          refine g_icmp_eq (tgt := 39) dX8_canJoin_28 (by decide) (fun c19 => ?_) (fun c19 => ?_)
          · have t := t.1 c19
            refine g_iconst (v := 0) dX8_canJoin_39 (by decide) ?_
            exact g_iret (st := []) dX8_canJoin_40 (fun e => by cases e) ⟨_, rfl, t⟩
          · have t := t.2 c19
            refine g_iload_n dX8_canJoin_31 rfl ?_
            refine g_if_ne (tgt := 39) dX8_canJoin_32 (by decide) (fun c20 => ?_) (fun c20 => ?_)
            · have t := t.1 c20
              refine g_iconst (v := 0) dX8_canJoin_39 (by decide) ?_
              exact g_iret (st := []) dX8_canJoin_40 (fun e => by cases e) ⟨_, rfl, t⟩
            · have t := t.2 c20
              refine g_iconst (v := 1) dX8_canJoin_35 (by decide) ?_
              refine g_goto (tgt := 40) dX8_canJoin_36 (by decide) ?_
              exact g_iret (st := []) dX8_canJoin_40 (fun e => by cases e) ⟨_, rfl, t⟩
theorem w_X8_door {Q : Int32 → tS → Prop} {S : tS} (p1 : Int32) (p2 : Int32) (p3 : Int32) (t : (tk_Ms mX8_isPlace [.int p1] S (fun x1 S2 => ((x1 = 0 → (tk_okQ mX8_door Q) (-1) S2) ∧ (¬ x1 = 0 → (tk_Ms mX8_isPlace [.int p2] S2 (fun x4 S5 => ((x4 = 0 → (tk_okQ mX8_door Q) (-1) S5) ∧ (¬ x4 = 0 → (tk_Ms mX8_canJoin [.int p1, .int p2] S5 (fun x7 S8 => ((x7 = 0 → (tk_okQ mX8_door Q) (-1) S8) ∧ (¬ x7 = 0 → (tk_Ms mX8_in [.long ((p3 : Int32).toInt64), .long (0 : Int64), .long (8 : Int64)] S8 (fun x10 S11 => ((¬ x10 = 0 → ((¬ (S11 45 3) = 16 → (vp_in (S11 45 3) 17 ∧ (vp_in (S11 45 3) 17 ∧ (vp_in (S11 45 3) 17 ∧ (tk_okQ mX8_door Q) (((S11 45 3) + 1) - 1) (tk_up (tk_up (tk_up (tk_up S11 46 (S11 45 3).toNatClampNeg p1) 47 (S11 45 3).toNatClampNeg p2) 48 (S11 45 3).toNatClampNeg p3) 45 3 ((S11 45 3) + 1)))))) ∧ ((S11 45 3) = 16 → (tk_okQ mX8_door Q) (-3) S11))) ∧ (x10 = 0 → (tk_okQ mX8_door Q) (-1) S11))))))))))))))))) : tk_Ms mX8_door [.ref 45, .int p1, .int p2, .int p3] S Q := by
  refine tk_Ms.of (ls := [.ref 45, .int p1, .int p2, .int p3]) (by decide) (by first | exact Or.inl rfl | exact Or.inr (Or.inl rfl) | exact Or.inr (Or.inr rfl)) (Nat.le_of_ble_eq_true rfl) rfl ?_
  refine g_iload_n dX8_door_0 rfl ?_
  refine s_S1i dX8_door_1 sm_X8_isPlace ml_X8_74 rfl (by decide) (Nat.le_of_ble_eq_true rfl) rfl (tk_Ms.mono t (fun x1 S2 t => ?_))
  refine g_if_eq (tgt := 34) dX8_door_4 (by decide) (fun c3 => ?_) (fun c3 => ?_)
  · have t := t.1 c3
    refine g_iconst (v := (-1)) dX8_door_34 (by decide) ?_
    exact g_iret (st := []) dX8_door_35 (fun e => by cases e) ⟨_, rfl, t⟩
  · have t := t.2 c3
    refine g_iload_n dX8_door_7 rfl ?_
    refine s_S1i dX8_door_8 sm_X8_isPlace ml_X8_74 rfl (by decide) (Nat.le_of_ble_eq_true rfl) rfl (tk_Ms.mono t (fun x4 S5 t => ?_))
    refine g_if_eq (tgt := 34) dX8_door_11 (by decide) (fun c6 => ?_) (fun c6 => ?_)
    · have t := t.1 c6
      refine g_iconst (v := (-1)) dX8_door_34 (by decide) ?_
      exact g_iret (st := []) dX8_door_35 (fun e => by cases e) ⟨_, rfl, t⟩
    · have t := t.2 c6
      refine g_iload_n dX8_door_14 rfl ?_
      refine g_iload_n dX8_door_15 rfl ?_
      refine s_S2i dX8_door_16 sm_X8_canJoin ml_X8_78 rfl (by decide) (Nat.le_of_ble_eq_true rfl) rfl (tk_Ms.mono t (fun x7 S8 t => ?_))
      refine g_if_eq (tgt := 34) dX8_door_19 (by decide) (fun c9 => ?_) (fun c9 => ?_)
      · have t := t.1 c9
        refine g_iconst (v := (-1)) dX8_door_34 (by decide) ?_
        exact g_iret (st := []) dX8_door_35 (fun e => by cases e) ⟨_, rfl, t⟩
      · have t := t.2 c9
        refine g_iload_n dX8_door_22 rfl ?_
        refine g_i2l dX8_door_23 ?_
        refine g_lconst (v := 0) dX8_door_24 (by decide) ?_
        refine g_ldc2 (v := 8) dX8_door_25 kl_X8_82 ?_
        refine s_S3i dX8_door_28 sm_X8_in ml_X8_66 rfl (by decide) (Nat.le_of_ble_eq_true rfl) rfl (tk_Ms.mono t (fun x10 S11 t => ?_))
        refine g_if_ne (tgt := 36) dX8_door_31 (by decide) (fun c12 => ?_) (fun c12 => ?_)
        · have t := t.1 c12
          refine g_aload_n dX8_door_36 rfl ?_
          refine g_getI (n := 25) dX8_door_37 fl_X8_84 rfl (by decide) (by decide) rfl ?_
          refine g_bipush (v := 16) dX8_door_40 (by decide) ?_
          refine g_icmp_ne (tgt := 48) dX8_door_42 (by decide) (fun c13 => ?_) (fun c13 => ?_)
          · have t := t.1 c13
            refine g_aload_n dX8_door_48 rfl ?_
            refine g_getR (n := 25) dX8_door_49 fl_X8_7 rfl (by decide) (by decide) rfl rfl ?_
            refine g_aload_n dX8_door_52 rfl ?_
            refine g_getI (n := 25) dX8_door_53 fl_X8_84 rfl (by decide) (by decide) rfl ?_
            refine g_iload_n dX8_door_56 rfl ?_
            refine g_iast (n := 17) dX8_door_57 rfl t.1 ?_
            have t := t.2
            refine g_aload_n dX8_door_58 rfl ?_
            refine g_getR (n := 25) dX8_door_59 fl_X8_13 rfl (by decide) (by decide) rfl rfl ?_
            refine g_aload_n dX8_door_62 rfl ?_
            refine g_getI (n := 25) dX8_door_63 fl_X8_84 rfl (by decide) (by decide) rfl ?_
            refine g_iload_n dX8_door_66 rfl ?_
            refine g_iast (n := 17) dX8_door_67 rfl t.1 ?_
            have t := t.2
            refine g_aload_n dX8_door_68 rfl ?_
            refine g_getR (n := 25) dX8_door_69 fl_X8_16 rfl (by decide) (by decide) rfl rfl ?_
            refine g_aload_n dX8_door_72 rfl ?_
            refine g_getI (n := 25) dX8_door_73 fl_X8_84 rfl (by decide) (by decide) rfl ?_
            refine g_iload_n dX8_door_76 rfl ?_
            refine g_iast (n := 17) dX8_door_77 rfl t.1 ?_
            have t := t.2
            refine g_aload_n dX8_door_78 rfl ?_
            refine g_dup dX8_door_79 rfl ?_
            refine g_getI (n := 25) dX8_door_80 fl_X8_84 rfl (by decide) (by decide) rfl ?_
            refine g_iconst (v := 1) dX8_door_83 (by decide) ?_
            refine g_iadd dX8_door_84 ?_
            refine g_putI (n := 25) dX8_door_85 fl_X8_84 rfl (by decide) (by decide) rfl rfl rfl ?_
            refine g_aload_n dX8_door_88 rfl ?_
            refine g_getI (n := 25) dX8_door_89 fl_X8_84 rfl (by decide) (by decide) rfl ?_
            refine g_iconst (v := 1) dX8_door_92 (by decide) ?_
            refine g_isub dX8_door_93 ?_
            exact g_iret (st := []) dX8_door_94 (fun e => by cases e) ⟨_, rfl, t⟩
          · have t := t.2 c13
            refine g_bipush (v := (-3)) dX8_door_45 (by decide) ?_
            exact g_iret (st := []) dX8_door_47 (fun e => by cases e) ⟨_, rfl, t⟩
        · have t := t.2 c12
          refine g_iconst (v := (-1)) dX8_door_34 (by decide) ?_
          exact g_iret (st := []) dX8_door_35 (fun e => by cases e) ⟨_, rfl, t⟩
theorem w_X8_key {Q : Int32 → tS → Prop} {S : tS} (p1 : Int32) (p2 : Int32) (t : (tk_Ms mX8_in [.long ((p1 : Int32).toInt64), .long (0 : Int64), .long (3 : Int64)] S (fun x1 S2 => ((x1 = 0 → (tk_okQ mX8_key Q) (-1) S2) ∧ (¬ x1 = 0 → (tk_Ms mX8_in [.long ((p2 : Int32).toInt64), .long (0 : Int64), .long (1 : Int64)] S2 (fun x4 S5 => ((¬ x4 = 0 → ((¬ (S5 45 9) = 8 → (vp_in (S5 45 9) 8 ∧ (vp_in (S5 45 9) 8 ∧ (vp_in (S5 45 9) 8 ∧ (vp_in (S5 45 9) 8 ∧ (vp_in (S5 45 9) 8 ∧ (tk_okQ mX8_key Q) (((S5 45 9) + 1) - 1) (tk_up (tk_up (tk_up (tk_up (tk_up (tk_up S5 49 (S5 45 9).toNatClampNeg p1) 50 (S5 45 9).toNatClampNeg p2) 51 (S5 45 9).toNatClampNeg 4) 52 (S5 45 9).toNatClampNeg 0) 53 (S5 45 9).toNatClampNeg 0) 45 9 ((S5 45 9) + 1)))))))) ∧ ((S5 45 9) = 8 → (tk_okQ mX8_key Q) (-3) S5))) ∧ (x4 = 0 → (tk_okQ mX8_key Q) (-1) S5))))))))) : tk_Ms mX8_key [.ref 45, .int p1, .int p2] S Q := by
  refine tk_Ms.of (ls := [.ref 45, .int p1, .int p2]) (by decide) (by first | exact Or.inl rfl | exact Or.inr (Or.inl rfl) | exact Or.inr (Or.inr rfl)) (Nat.le_of_ble_eq_true rfl) rfl ?_
  refine g_iload_n dX8_key_0 rfl ?_
  refine g_i2l dX8_key_1 ?_
  refine g_lconst (v := 0) dX8_key_2 (by decide) ?_
  refine g_ldc2 (v := 3) dX8_key_3 kl_X8_87 ?_
  refine s_S3i dX8_key_6 sm_X8_in ml_X8_66 rfl (by decide) (Nat.le_of_ble_eq_true rfl) rfl (tk_Ms.mono t (fun x1 S2 t => ?_))
  refine g_if_eq (tgt := 22) dX8_key_9 (by decide) (fun c3 => ?_) (fun c3 => ?_)
  · have t := t.1 c3
    refine g_iconst (v := (-1)) dX8_key_22 (by decide) ?_
    exact g_iret (st := []) dX8_key_23 (fun e => by cases e) ⟨_, rfl, t⟩
  · have t := t.2 c3
    refine g_iload_n dX8_key_12 rfl ?_
    refine g_i2l dX8_key_13 ?_
    refine g_lconst (v := 0) dX8_key_14 (by decide) ?_
    refine g_lconst (v := 1) dX8_key_15 (by decide) ?_
    refine s_S3i dX8_key_16 sm_X8_in ml_X8_66 rfl (by decide) (Nat.le_of_ble_eq_true rfl) rfl (tk_Ms.mono t (fun x4 S5 t => ?_))
    refine g_if_ne (tgt := 24) dX8_key_19 (by decide) (fun c6 => ?_) (fun c6 => ?_)
    · have t := t.1 c6
      refine g_aload_n dX8_key_24 rfl ?_
      refine g_getI (n := 25) dX8_key_25 fl_X8_70 rfl (by decide) (by decide) rfl ?_
      refine g_bipush (v := 8) dX8_key_28 (by decide) ?_
      refine g_icmp_ne (tgt := 36) dX8_key_30 (by decide) (fun c7 => ?_) (fun c7 => ?_)
      · have t := t.1 c7
        refine g_aload_n dX8_key_36 rfl ?_
        refine g_getR (n := 25) dX8_key_37 fl_X8_19 rfl (by decide) (by decide) rfl rfl ?_
        refine g_aload_n dX8_key_40 rfl ?_
        refine g_getI (n := 25) dX8_key_41 fl_X8_70 rfl (by decide) (by decide) rfl ?_
        refine g_iload_n dX8_key_44 rfl ?_
        refine g_iast (n := 8) dX8_key_45 rfl t.1 ?_
        have t := t.2
        refine g_aload_n dX8_key_46 rfl ?_
        refine g_getR (n := 25) dX8_key_47 fl_X8_22 rfl (by decide) (by decide) rfl rfl ?_
        refine g_aload_n dX8_key_50 rfl ?_
        refine g_getI (n := 25) dX8_key_51 fl_X8_70 rfl (by decide) (by decide) rfl ?_
        refine g_iload_n dX8_key_54 rfl ?_
        refine g_iast (n := 8) dX8_key_55 rfl t.1 ?_
        have t := t.2
        refine g_aload_n dX8_key_56 rfl ?_
        refine g_getR (n := 25) dX8_key_57 fl_X8_25 rfl (by decide) (by decide) rfl rfl ?_
        refine g_aload_n dX8_key_60 rfl ?_
        refine g_getI (n := 25) dX8_key_61 fl_X8_70 rfl (by decide) (by decide) rfl ?_
        refine g_iconst (v := 4) dX8_key_64 (by decide) ?_
        refine g_iast (n := 8) dX8_key_65 rfl t.1 ?_
        have t := t.2
        refine g_aload_n dX8_key_66 rfl ?_
        refine g_getR (n := 25) dX8_key_67 fl_X8_28 rfl (by decide) (by decide) rfl rfl ?_
        refine g_aload_n dX8_key_70 rfl ?_
        refine g_getI (n := 25) dX8_key_71 fl_X8_70 rfl (by decide) (by decide) rfl ?_
        refine g_iconst (v := 0) dX8_key_74 (by decide) ?_
        refine g_iast (n := 8) dX8_key_75 rfl t.1 ?_
        have t := t.2
        refine g_aload_n dX8_key_76 rfl ?_
        refine g_getR (n := 25) dX8_key_77 fl_X8_31 rfl (by decide) (by decide) rfl rfl ?_
        refine g_aload_n dX8_key_80 rfl ?_
        refine g_getI (n := 25) dX8_key_81 fl_X8_70 rfl (by decide) (by decide) rfl ?_
        refine g_iconst (v := 0) dX8_key_84 (by decide) ?_
        refine g_iast (n := 8) dX8_key_85 rfl t.1 ?_
        have t := t.2
        refine g_aload_n dX8_key_86 rfl ?_
        refine g_dup dX8_key_87 rfl ?_
        refine g_getI (n := 25) dX8_key_88 fl_X8_70 rfl (by decide) (by decide) rfl ?_
        refine g_iconst (v := 1) dX8_key_91 (by decide) ?_
        refine g_iadd dX8_key_92 ?_
        refine g_putI (n := 25) dX8_key_93 fl_X8_70 rfl (by decide) (by decide) rfl rfl rfl ?_
        refine g_aload_n dX8_key_96 rfl ?_
        refine g_getI (n := 25) dX8_key_97 fl_X8_70 rfl (by decide) (by decide) rfl ?_
        refine g_iconst (v := 1) dX8_key_100 (by decide) ?_
        refine g_isub dX8_key_101 ?_
        exact g_iret (st := []) dX8_key_102 (fun e => by cases e) ⟨_, rfl, t⟩
      · have t := t.2 c7
        refine g_bipush (v := (-3)) dX8_key_33 (by decide) ?_
        exact g_iret (st := []) dX8_key_35 (fun e => by cases e) ⟨_, rfl, t⟩
    · have t := t.2 c6
      refine g_iconst (v := (-1)) dX8_key_22 (by decide) ?_
      exact g_iret (st := []) dX8_key_23 (fun e => by cases e) ⟨_, rfl, t⟩
theorem w_X8_told {Q : Int32 → tS → Prop} {S : tS} (p1 : Int32) (p2 : Int32) (t : (tk_Ms mX8_isKey [.ref 45, .int p1] S (fun x1 S2 => ((¬ x1 = 0 → ((p2 = 0 → (vp_in p1 8 ∧ (tk_okQ mX8_told Q) (S2 49 p1.toNatClampNeg) S2)) ∧ ((p2 = 1 → (vp_in p1 8 ∧ (tk_okQ mX8_told Q) (S2 50 p1.toNatClampNeg) S2)) ∧ ((p2 = 2 → (vp_in p1 8 ∧ (tk_okQ mX8_told Q) (S2 51 p1.toNatClampNeg) S2)) ∧ ((p2 = 3 → (vp_in p1 8 ∧ (tk_okQ mX8_told Q) (S2 52 p1.toNatClampNeg) S2)) ∧ ((p2 = 4 → (vp_in p1 8 ∧ ((¬ (S2 52 p1.toNatClampNeg) = 0 → (vp_in p1 8 ∧ (tk_okQ mX8_told Q) (S2 53 p1.toNatClampNeg) S2)) ∧ ((S2 52 p1.toNatClampNeg) = 0 → (tk_okQ mX8_told Q) 0 S2)))) ∧ (¬ p2 = 0 ∧ ¬ p2 = 1 ∧ ¬ p2 = 2 ∧ ¬ p2 = 3 ∧ ¬ p2 = 4 → (tk_okQ mX8_told Q) (-1) S2))))))) ∧ (x1 = 0 → (tk_okQ mX8_told Q) (-1) S2))))) : tk_Ms mX8_told [.ref 45, .int p1, .int p2] S Q := by
  refine tk_Ms.of (ls := [.ref 45, .int p1, .int p2]) (by decide) (by first | exact Or.inl rfl | exact Or.inr (Or.inl rfl) | exact Or.inr (Or.inr rfl)) (Nat.le_of_ble_eq_true rfl) rfl ?_
  refine g_aload_n dX8_told_0 rfl ?_
  refine g_iload_n dX8_told_1 rfl ?_
  refine s_V1i dX8_told_2 vm_X8_isKey ml_X8_89 rfl rfl (by decide) (Nat.le_of_ble_eq_true rfl) rfl (tk_Ms.mono t (fun x1 S2 t => ?_))
  refine g_if_ne (tgt := 10) dX8_told_5 (by decide) (fun c3 => ?_) (fun c3 => ?_)
  · have t := t.1 c3
    refine g_iload_n dX8_told_10 rfl ?_
    by_cases c4 : p2 = 0
    · have t := t.1 c4
      refine g_tabInE c4 (off := 33) (tgt := 44) dX8_told_11 (by decide) (by decide) (by decide) (by decide) ?_
      refine g_aload_n dX8_told_44 rfl ?_
      refine g_getR (n := 25) dX8_told_45 fl_X8_19 rfl (by decide) (by decide) rfl rfl ?_
      refine g_iload_n dX8_told_48 rfl ?_
      refine g_iald (n := 8) dX8_told_49 rfl t.1 ?_
      have t := t.2
      exact g_iret (st := []) dX8_told_50 (fun e => by cases e) ⟨_, rfl, t⟩
    have t := t.2
    by_cases c5 : p2 = 1
    · have t := t.1 c5
      refine g_tabInE c5 (off := 40) (tgt := 51) dX8_told_11 (by decide) (by decide) (by decide) (by decide) ?_
      refine g_aload_n dX8_told_51 rfl ?_
      refine g_getR (n := 25) dX8_told_52 fl_X8_22 rfl (by decide) (by decide) rfl rfl ?_
      refine g_iload_n dX8_told_55 rfl ?_
      refine g_iald (n := 8) dX8_told_56 rfl t.1 ?_
      have t := t.2
      exact g_iret (st := []) dX8_told_57 (fun e => by cases e) ⟨_, rfl, t⟩
    have t := t.2
    by_cases c6 : p2 = 2
    · have t := t.1 c6
      refine g_tabInE c6 (off := 47) (tgt := 58) dX8_told_11 (by decide) (by decide) (by decide) (by decide) ?_
      refine g_aload_n dX8_told_58 rfl ?_
      refine g_getR (n := 25) dX8_told_59 fl_X8_25 rfl (by decide) (by decide) rfl rfl ?_
      refine g_iload_n dX8_told_62 rfl ?_
      refine g_iald (n := 8) dX8_told_63 rfl t.1 ?_
      have t := t.2
      exact g_iret (st := []) dX8_told_64 (fun e => by cases e) ⟨_, rfl, t⟩
    have t := t.2
    by_cases c7 : p2 = 3
    · have t := t.1 c7
      refine g_tabInE c7 (off := 54) (tgt := 65) dX8_told_11 (by decide) (by decide) (by decide) (by decide) ?_
      refine g_aload_n dX8_told_65 rfl ?_
      refine g_getR (n := 25) dX8_told_66 fl_X8_28 rfl (by decide) (by decide) rfl rfl ?_
      refine g_iload_n dX8_told_69 rfl ?_
      refine g_iald (n := 8) dX8_told_70 rfl t.1 ?_
      have t := t.2
      exact g_iret (st := []) dX8_told_71 (fun e => by cases e) ⟨_, rfl, t⟩
    have t := t.2
    by_cases c8 : p2 = 4
    · have t := t.1 c8
      refine g_tabInE c8 (off := 61) (tgt := 72) dX8_told_11 (by decide) (by decide) (by decide) (by decide) ?_
      refine g_aload_n dX8_told_72 rfl ?_
      refine g_getR (n := 25) dX8_told_73 fl_X8_28 rfl (by decide) (by decide) rfl rfl ?_
      refine g_iload_n dX8_told_76 rfl ?_
      refine g_iald (n := 8) dX8_told_77 rfl t.1 ?_
      have t := t.2
      refine g_if_ne (tgt := 85) dX8_told_78 (by decide) (fun c9 => ?_) (fun c9 => ?_)
      · have t := t.1 c9
        refine g_aload_n dX8_told_85 rfl ?_
        refine g_getR (n := 25) dX8_told_86 fl_X8_31 rfl (by decide) (by decide) rfl rfl ?_
        refine g_iload_n dX8_told_89 rfl ?_
        refine g_iald (n := 8) dX8_told_90 rfl t.1 ?_
        have t := t.2
        exact g_iret (st := []) dX8_told_91 (fun e => by cases e) ⟨_, rfl, t⟩
      · have t := t.2 c9
        refine g_iconst (v := 0) dX8_told_81 (by decide) ?_
        refine g_goto (tgt := 91) dX8_told_82 (by decide) ?_
        exact g_iret (st := []) dX8_told_91 (fun e => by cases e) ⟨_, rfl, t⟩
    have t := t.2
    have zc4 := lv_neT c4 (a := 0) (by decide)
    have zc5 := lv_neT c5 (a := 1) (by decide)
    have zc6 := lv_neT c6 (a := 2) (by decide)
    have zc7 := lv_neT c7 (a := 3) (by decide)
    have zc8 := lv_neT c8 (a := 4) (by decide)
    refine g_tabOut (tgt := 92) dX8_told_11 (by omega) (by decide) ?_
    have t := t ⟨c4, c5, c6, c7, c8⟩
    refine g_iconst (v := (-1)) dX8_told_92 (by decide) ?_
    exact g_iret (st := []) dX8_told_93 (fun e => by cases e) ⟨_, rfl, t⟩
  · have t := t.2 c3
    refine g_iconst (v := (-1)) dX8_told_8 (by decide) ?_
    exact g_iret (st := []) dX8_told_9 (fun e => by cases e) ⟨_, rfl, t⟩
theorem w_X8_of {Q : Int32 → tS → Prop} {S : tS} (p1 : Int32) (p2 : Int32) (t : (tk_Ms mX8_in [.long ((p1 : Int32).toInt64), .long (0 : Int64), .long (((S 45 3) - 1 : Int32).toInt64)] S (fun x1 S2 => ((x1 = 0 → (tk_okQ mX8_of Q) (-1) S2) ∧ (¬ x1 = 0 → (tk_Ms mX8_in [.long ((p2 : Int32).toInt64), .long (0 : Int64), .long (2 : Int64)] S2 (fun x4 S5 => ((¬ x4 = 0 → ((¬ p2 = 0 → ((¬ p2 = 1 → (vp_in p1 17 ∧ (tk_okQ mX8_of Q) (S5 48 p1.toNatClampNeg) S5)) ∧ (p2 = 1 → (vp_in p1 17 ∧ (tk_okQ mX8_of Q) (S5 47 p1.toNatClampNeg) S5)))) ∧ (p2 = 0 → (vp_in p1 17 ∧ (tk_okQ mX8_of Q) (S5 46 p1.toNatClampNeg) S5)))) ∧ (x4 = 0 → (tk_okQ mX8_of Q) (-1) S5))))))))) : tk_Ms mX8_of [.ref 45, .int p1, .int p2] S Q := by
  refine tk_Ms.of (ls := [.ref 45, .int p1, .int p2]) (by decide) (by first | exact Or.inl rfl | exact Or.inr (Or.inl rfl) | exact Or.inr (Or.inr rfl)) (Nat.le_of_ble_eq_true rfl) rfl ?_
  refine g_iload_n dX8_of_0 rfl ?_
  refine g_i2l dX8_of_1 ?_
  refine g_lconst (v := 0) dX8_of_2 (by decide) ?_
  refine g_aload_n dX8_of_3 rfl ?_
  refine g_getI (n := 25) dX8_of_4 fl_X8_84 rfl (by decide) (by decide) rfl ?_
  refine g_iconst (v := 1) dX8_of_7 (by decide) ?_
  refine g_isub dX8_of_8 ?_
  refine g_i2l dX8_of_9 ?_
  refine s_S3i dX8_of_10 sm_X8_in ml_X8_66 rfl (by decide) (Nat.le_of_ble_eq_true rfl) rfl (tk_Ms.mono t (fun x1 S2 t => ?_))
  refine g_if_eq (tgt := 28) dX8_of_13 (by decide) (fun c3 => ?_) (fun c3 => ?_)
  · have t := t.1 c3
    refine g_iconst (v := (-1)) dX8_of_28 (by decide) ?_
    exact g_iret (st := []) dX8_of_29 (fun e => by cases e) ⟨_, rfl, t⟩
  · have t := t.2 c3
    refine g_iload_n dX8_of_16 rfl ?_
    refine g_i2l dX8_of_17 ?_
    refine g_lconst (v := 0) dX8_of_18 (by decide) ?_
    refine g_ldc2 (v := 2) dX8_of_19 kl_X8_92 ?_
    refine s_S3i dX8_of_22 sm_X8_in ml_X8_66 rfl (by decide) (Nat.le_of_ble_eq_true rfl) rfl (tk_Ms.mono t (fun x4 S5 t => ?_))
    refine g_if_ne (tgt := 30) dX8_of_25 (by decide) (fun c6 => ?_) (fun c6 => ?_)
    · have t := t.1 c6
      refine g_iload_n dX8_of_30 rfl ?_
      refine g_if_ne (tgt := 43) dX8_of_31 (by decide) (fun c7 => ?_) (fun c7 => ?_)
      · have t := t.1 c7
        refine g_iload_n dX8_of_43 rfl ?_
        refine g_iconst (v := 1) dX8_of_44 (by decide) ?_
        refine g_icmp_ne (tgt := 57) dX8_of_45 (by decide) (fun c8 => ?_) (fun c8 => ?_)
        · have t := t.1 c8
          refine g_aload_n dX8_of_57 rfl ?_
          refine g_getR (n := 25) dX8_of_58 fl_X8_16 rfl (by decide) (by decide) rfl rfl ?_
          refine g_iload_n dX8_of_61 rfl ?_
          refine g_iald (n := 17) dX8_of_62 rfl t.1 ?_
          have t := t.2
          exact g_iret (st := []) dX8_of_63 (fun e => by cases e) ⟨_, rfl, t⟩
        · have t := t.2 c8
          refine g_aload_n dX8_of_48 rfl ?_
          refine g_getR (n := 25) dX8_of_49 fl_X8_13 rfl (by decide) (by decide) rfl rfl ?_
          refine g_iload_n dX8_of_52 rfl ?_
          refine g_iald (n := 17) dX8_of_53 rfl t.1 ?_
          have t := t.2
          refine g_goto (tgt := 63) dX8_of_54 (by decide) ?_
          exact g_iret (st := []) dX8_of_63 (fun e => by cases e) ⟨_, rfl, t⟩
      · have t := t.2 c7
        refine g_aload_n dX8_of_34 rfl ?_
        refine g_getR (n := 25) dX8_of_35 fl_X8_7 rfl (by decide) (by decide) rfl rfl ?_
        refine g_iload_n dX8_of_38 rfl ?_
        refine g_iald (n := 17) dX8_of_39 rfl t.1 ?_
        have t := t.2
        refine g_goto (tgt := 63) dX8_of_40 (by decide) ?_
        exact g_iret (st := []) dX8_of_63 (fun e => by cases e) ⟨_, rfl, t⟩
    · have t := t.2 c6
      refine g_iconst (v := (-1)) dX8_of_28 (by decide) ?_
      exact g_iret (st := []) dX8_of_29 (fun e => by cases e) ⟨_, rfl, t⟩
theorem w_X8_shownOf {Q : Int32 → tS → Prop} {S : tS} (p1 : Int32) (p2 : Int32) (p3 : Int32) (t : ((¬ p1 = 0 → ((¬ p1 = 2 → ((0 ≤ (p3 - 2) → ((p2 ≤ (p3 - 2) → (tk_okQ mX8_shownOf Q) p2 S) ∧ (¬ p2 ≤ (p3 - 2) → (tk_okQ mX8_shownOf Q) (p3 - 2) S))) ∧ (¬ 0 ≤ (p3 - 2) → ((p2 ≤ (0 : Int32) → (tk_okQ mX8_shownOf Q) p2 S) ∧ (¬ p2 ≤ (0 : Int32) → (tk_okQ mX8_shownOf Q) 0 S))))) ∧ (p1 = 2 → ((0 ≤ (2 * p3) → ((p2 ≤ (2 * p3) → (tk_okQ mX8_shownOf Q) p2 S) ∧ (¬ p2 ≤ (2 * p3) → (tk_okQ mX8_shownOf Q) (2 * p3) S))) ∧ (¬ 0 ≤ (2 * p3) → ((p2 ≤ (0 : Int32) → (tk_okQ mX8_shownOf Q) p2 S) ∧ (¬ p2 ≤ (0 : Int32) → (tk_okQ mX8_shownOf Q) 0 S))))))) ∧ (p1 = 0 → ((0 ≤ p3 → ((p2 ≤ p3 → (tk_okQ mX8_shownOf Q) p2 S) ∧ (¬ p2 ≤ p3 → (tk_okQ mX8_shownOf Q) p3 S))) ∧ (¬ 0 ≤ p3 → ((p2 ≤ (0 : Int32) → (tk_okQ mX8_shownOf Q) p2 S) ∧ (¬ p2 ≤ (0 : Int32) → (tk_okQ mX8_shownOf Q) 0 S))))))) : tk_Ms mX8_shownOf [.int p1, .int p2, .int p3] S Q := by
  refine tk_Ms.of (ls := [.int p1, .int p2, .int p3, .null]) (by decide) (by first | exact Or.inl rfl | exact Or.inr (Or.inl rfl) | exact Or.inr (Or.inr rfl)) (Nat.le_of_ble_eq_true rfl) rfl ?_
  refine g_iload_n dX8_shownOf_0 rfl ?_
  refine g_if_ne (tgt := 8) dX8_shownOf_1 (by decide) (fun c1 => ?_) (fun c1 => ?_)
  · have t := t.1 c1
    refine g_iload_n dX8_shownOf_8 rfl ?_
    refine g_iconst (v := 2) dX8_shownOf_9 (by decide) ?_
    refine g_icmp_ne (tgt := 19) dX8_shownOf_10 (by decide) (fun c2 => ?_) (fun c2 => ?_)
    · have t := t.1 c2
      refine g_iload_n dX8_shownOf_19 rfl ?_
      refine g_iconst (v := 2) dX8_shownOf_20 (by decide) ?_
      refine g_isub dX8_shownOf_21 ?_
      refine g_istore_n (ls' := [.int p1, .int p2, .int p3, .int (p3 - 2)]) dX8_shownOf_22 rfl (by decide) rfl ?_
      refine g_iload_n dX8_shownOf_23 rfl ?_
      refine g_if_ge (tgt := 31) dX8_shownOf_24 (by decide) (fun c3 => ?_) (fun c3 => ?_)
      · have t := t.1 c3
        refine g_iload_n dX8_shownOf_31 rfl ?_
        refine g_istore_n (ls' := [.int p1, .int p2, .int p3, .int (p3 - 2)]) dX8_shownOf_32 rfl (by decide) rfl ?_
        refine g_iload_n dX8_shownOf_33 rfl ?_
        refine g_iload_n dX8_shownOf_34 rfl ?_
        refine g_icmp_ge (tgt := 42) dX8_shownOf_35 (by decide) (fun c4 => ?_) (fun c4 => ?_)
        · have t := t.1 c4
          refine g_iload_n dX8_shownOf_42 rfl ?_
          exact g_iret (st := []) dX8_shownOf_43 (fun e => by cases e) ⟨_, rfl, t⟩
        · have t := t.2 c4
          refine g_iload_n dX8_shownOf_38 rfl ?_
          refine g_goto (tgt := 43) dX8_shownOf_39 (by decide) ?_
          exact g_iret (st := []) dX8_shownOf_43 (fun e => by cases e) ⟨_, rfl, t⟩
      · have t := t.2 c3
        refine g_iconst (v := 0) dX8_shownOf_27 (by decide) ?_
        refine g_goto (tgt := 32) dX8_shownOf_28 (by decide) ?_
        refine g_istore_n (ls' := [.int p1, .int p2, .int p3, .int 0]) dX8_shownOf_32 rfl (by decide) rfl ?_
        refine g_iload_n dX8_shownOf_33 rfl ?_
        refine g_iload_n dX8_shownOf_34 rfl ?_
        refine g_icmp_ge (tgt := 42) dX8_shownOf_35 (by decide) (fun c5 => ?_) (fun c5 => ?_)
        · have t := t.1 c5
          refine g_iload_n dX8_shownOf_42 rfl ?_
          exact g_iret (st := []) dX8_shownOf_43 (fun e => by cases e) ⟨_, rfl, t⟩
        · have t := t.2 c5
          refine g_iload_n dX8_shownOf_38 rfl ?_
          refine g_goto (tgt := 43) dX8_shownOf_39 (by decide) ?_
          exact g_iret (st := []) dX8_shownOf_43 (fun e => by cases e) ⟨_, rfl, t⟩
    · have t := t.2 c2
      refine g_iconst (v := 2) dX8_shownOf_13 (by decide) ?_
      refine g_iload_n dX8_shownOf_14 rfl ?_
      refine g_imul dX8_shownOf_15 ?_
      refine g_goto (tgt := 22) dX8_shownOf_16 (by decide) ?_
      refine g_istore_n (ls' := [.int p1, .int p2, .int p3, .int (2 * p3)]) dX8_shownOf_22 rfl (by decide) rfl ?_
      refine g_iload_n dX8_shownOf_23 rfl ?_
      refine g_if_ge (tgt := 31) dX8_shownOf_24 (by decide) (fun c6 => ?_) (fun c6 => ?_)
      · have t := t.1 c6
        refine g_iload_n dX8_shownOf_31 rfl ?_
        refine g_istore_n (ls' := [.int p1, .int p2, .int p3, .int (2 * p3)]) dX8_shownOf_32 rfl (by decide) rfl ?_
        refine g_iload_n dX8_shownOf_33 rfl ?_
        refine g_iload_n dX8_shownOf_34 rfl ?_
        refine g_icmp_ge (tgt := 42) dX8_shownOf_35 (by decide) (fun c7 => ?_) (fun c7 => ?_)
        · have t := t.1 c7
          refine g_iload_n dX8_shownOf_42 rfl ?_
          exact g_iret (st := []) dX8_shownOf_43 (fun e => by cases e) ⟨_, rfl, t⟩
        · have t := t.2 c7
          refine g_iload_n dX8_shownOf_38 rfl ?_
          refine g_goto (tgt := 43) dX8_shownOf_39 (by decide) ?_
          exact g_iret (st := []) dX8_shownOf_43 (fun e => by cases e) ⟨_, rfl, t⟩
      · have t := t.2 c6
        refine g_iconst (v := 0) dX8_shownOf_27 (by decide) ?_
        refine g_goto (tgt := 32) dX8_shownOf_28 (by decide) ?_
        refine g_istore_n (ls' := [.int p1, .int p2, .int p3, .int 0]) dX8_shownOf_32 rfl (by decide) rfl ?_
        refine g_iload_n dX8_shownOf_33 rfl ?_
        refine g_iload_n dX8_shownOf_34 rfl ?_
        refine g_icmp_ge (tgt := 42) dX8_shownOf_35 (by decide) (fun c8 => ?_) (fun c8 => ?_)
        · have t := t.1 c8
          refine g_iload_n dX8_shownOf_42 rfl ?_
          exact g_iret (st := []) dX8_shownOf_43 (fun e => by cases e) ⟨_, rfl, t⟩
        · have t := t.2 c8
          refine g_iload_n dX8_shownOf_38 rfl ?_
          refine g_goto (tgt := 43) dX8_shownOf_39 (by decide) ?_
          exact g_iret (st := []) dX8_shownOf_43 (fun e => by cases e) ⟨_, rfl, t⟩
  · have t := t.2 c1
    refine g_iload_n dX8_shownOf_4 rfl ?_
    refine g_goto (tgt := 22) dX8_shownOf_5 (by decide) ?_
    refine g_istore_n (ls' := [.int p1, .int p2, .int p3, .int p3]) dX8_shownOf_22 rfl (by decide) rfl ?_
    refine g_iload_n dX8_shownOf_23 rfl ?_
    refine g_if_ge (tgt := 31) dX8_shownOf_24 (by decide) (fun c9 => ?_) (fun c9 => ?_)
    · have t := t.1 c9
      refine g_iload_n dX8_shownOf_31 rfl ?_
      refine g_istore_n (ls' := [.int p1, .int p2, .int p3, .int p3]) dX8_shownOf_32 rfl (by decide) rfl ?_
      refine g_iload_n dX8_shownOf_33 rfl ?_
      refine g_iload_n dX8_shownOf_34 rfl ?_
      refine g_icmp_ge (tgt := 42) dX8_shownOf_35 (by decide) (fun c10 => ?_) (fun c10 => ?_)
      · have t := t.1 c10
        refine g_iload_n dX8_shownOf_42 rfl ?_
        exact g_iret (st := []) dX8_shownOf_43 (fun e => by cases e) ⟨_, rfl, t⟩
      · have t := t.2 c10
        refine g_iload_n dX8_shownOf_38 rfl ?_
        refine g_goto (tgt := 43) dX8_shownOf_39 (by decide) ?_
        exact g_iret (st := []) dX8_shownOf_43 (fun e => by cases e) ⟨_, rfl, t⟩
    · have t := t.2 c9
      refine g_iconst (v := 0) dX8_shownOf_27 (by decide) ?_
      refine g_goto (tgt := 32) dX8_shownOf_28 (by decide) ?_
      refine g_istore_n (ls' := [.int p1, .int p2, .int p3, .int 0]) dX8_shownOf_32 rfl (by decide) rfl ?_
      refine g_iload_n dX8_shownOf_33 rfl ?_
      refine g_iload_n dX8_shownOf_34 rfl ?_
      refine g_icmp_ge (tgt := 42) dX8_shownOf_35 (by decide) (fun c11 => ?_) (fun c11 => ?_)
      · have t := t.1 c11
        refine g_iload_n dX8_shownOf_42 rfl ?_
        exact g_iret (st := []) dX8_shownOf_43 (fun e => by cases e) ⟨_, rfl, t⟩
      · have t := t.2 c11
        refine g_iload_n dX8_shownOf_38 rfl ?_
        refine g_goto (tgt := 43) dX8_shownOf_39 (by decide) ?_
        exact g_iret (st := []) dX8_shownOf_43 (fun e => by cases e) ⟨_, rfl, t⟩
theorem w_X8_shownBy {Q : Int32 → tS → Prop} {S : tS} (p1 : Int32) (p2 : Int32) (t : (vp_in p1 8 ∧ ((¬ (S 52 p1.toNatClampNeg) = 0 → (vp_in p1 8 ∧ (vp_in p1 8 ∧ (vp_in p1 8 ∧ (tk_Ms mX8_shownOf [.int (S 49 p1.toNatClampNeg), .int (S 52 p1.toNatClampNeg), .int (p2 - (S 53 p1.toNatClampNeg))] S (fun x2 S3 => (tk_okQ mX8_shownBy Q) x2 S3)))))) ∧ ((S 52 p1.toNatClampNeg) = 0 → (tk_okQ mX8_shownBy Q) 0 S)))) : tk_Ms mX8_shownBy [.ref 45, .int p1, .int p2] S Q := by
  refine tk_Ms.of (ls := [.ref 45, .int p1, .int p2]) (by decide) (by first | exact Or.inl rfl | exact Or.inr (Or.inl rfl) | exact Or.inr (Or.inr rfl)) (Nat.le_of_ble_eq_true rfl) rfl ?_
  refine g_aload_n dX8_shownBy_0 rfl ?_
  refine g_getR (n := 25) dX8_shownBy_1 fl_X8_28 rfl (by decide) (by decide) rfl rfl ?_
  refine g_iload_n dX8_shownBy_4 rfl ?_
  refine g_iald (n := 8) dX8_shownBy_5 rfl t.1 ?_
  have t := t.2
  refine g_if_ne (tgt := 13) dX8_shownBy_6 (by decide) (fun c1 => ?_) (fun c1 => ?_)
  · have t := t.1 c1
    refine g_aload_n dX8_shownBy_13 rfl ?_
    refine g_getR (n := 25) dX8_shownBy_14 fl_X8_19 rfl (by decide) (by decide) rfl rfl ?_
    refine g_iload_n dX8_shownBy_17 rfl ?_
    refine g_iald (n := 8) dX8_shownBy_18 rfl t.1 ?_
    have t := t.2
    refine g_aload_n dX8_shownBy_19 rfl ?_
    refine g_getR (n := 25) dX8_shownBy_20 fl_X8_28 rfl (by decide) (by decide) rfl rfl ?_
    refine g_iload_n dX8_shownBy_23 rfl ?_
    refine g_iald (n := 8) dX8_shownBy_24 rfl t.1 ?_
    have t := t.2
    refine g_iload_n dX8_shownBy_25 rfl ?_
    refine g_aload_n dX8_shownBy_26 rfl ?_
    refine g_getR (n := 25) dX8_shownBy_27 fl_X8_31 rfl (by decide) (by decide) rfl rfl ?_
    refine g_iload_n dX8_shownBy_30 rfl ?_
    refine g_iald (n := 8) dX8_shownBy_31 rfl t.1 ?_
    have t := t.2
    refine g_isub dX8_shownBy_32 ?_
    refine s_S3i dX8_shownBy_33 sm_X8_shownOf ml_X8_94 rfl (by decide) (Nat.le_of_ble_eq_true rfl) rfl (tk_Ms.mono t (fun x2 S3 t => ?_))
    exact g_iret (st := []) dX8_shownBy_36 (fun e => by cases e) ⟨_, rfl, t⟩
  · have t := t.2 c1
    refine g_iconst (v := 0) dX8_shownBy_9 (by decide) ?_
    refine g_goto (tgt := 36) dX8_shownBy_10 (by decide) ?_
    exact g_iret (st := []) dX8_shownBy_36 (fun e => by cases e) ⟨_, rfl, t⟩
theorem w_X8_count {Q : Int32 → tS → Prop} {S : tS} (p1 : Int32) (t : tk_Gs mX8_count none 7 [.ref 45, .int p1, .int 0, .int 0, .int 0, .null] [] S (tk_okQ mX8_count Q)) : tk_Ms mX8_count [.ref 45, .int p1] S Q := by
  refine tk_Ms.of (ls := [.ref 45, .int p1, .null, .null, .null, .null]) (by decide) (by first | exact Or.inl rfl | exact Or.inr (Or.inl rfl) | exact Or.inr (Or.inr rfl)) (Nat.le_of_ble_eq_true rfl) rfl ?_
  refine g_iconst (v := 0) dX8_count_0 (by decide) ?_
  refine g_istore_n (ls' := [.ref 45, .int p1, .int 0, .null, .null, .null]) dX8_count_1 rfl (by decide) rfl ?_
  refine g_iconst (v := 0) dX8_count_2 (by decide) ?_
  refine g_istore_n (ls' := [.ref 45, .int p1, .int 0, .int 0, .null, .null]) dX8_count_3 rfl (by decide) rfl ?_
  refine g_iconst (v := 0) dX8_count_4 (by decide) ?_
  refine g_istore (ls' := [.ref 45, .int p1, .int 0, .int 0, .int 0, .null]) dX8_count_5 rfl (by decide) rfl ?_
  exact t
theorem w_X8_count_7 {Q : Int32 → tS → Prop} {S : tS} (l1 : Int32) (l2 : Int32) (l3 : Int32) (l4 : Int32)  (t : (((S 45 9) ≤ l4 → tk_Gs mX8_count none 67 [.ref 45, .int l1, .int l2, .int l3, .int 0, .int 0] [] S Q) ∧ (¬ (S 45 9) ≤ l4 → (vp_in l4 8 ∧ (((S 52 l4.toNatClampNeg) ≤ 0 → (tk_Ms mX8_shownBy [.ref 45, .int l4, .int (S 45 10)] S (fun x3 S4 => ((x3 ≤ 0 → tk_Gs mX8_count none 7 [.ref 45, .int l1, .int (l2 + 0), .int (l3 + 0), .int (l4 + 1), .null] [] S4 Q) ∧ (¬ x3 ≤ 0 → tk_Gs mX8_count none 7 [.ref 45, .int l1, .int (l2 + 0), .int (l3 + 1), .int (l4 + 1), .null] [] S4 Q))))) ∧ (¬ (S 52 l4.toNatClampNeg) ≤ 0 → (tk_Ms mX8_shownBy [.ref 45, .int l4, .int (S 45 10)] S (fun x6 S7 => ((x6 ≤ 0 → tk_Gs mX8_count none 7 [.ref 45, .int l1, .int (l2 + 1), .int (l3 + 0), .int (l4 + 1), .null] [] S7 Q) ∧ (¬ x6 ≤ 0 → tk_Gs mX8_count none 7 [.ref 45, .int l1, .int (l2 + 1), .int (l3 + 1), .int (l4 + 1), .null] [] S7 Q)))))))))) : tk_Gs mX8_count none 7 [.ref 45, .int l1, .int l2, .int l3, .int l4, .null] [] S Q := by
  show tk_G _ 0 0 _ _ _ _ (tkSH, S, tkRF) _
  refine g_iload dX8_count_7 rfl ?_
  refine g_aload_n dX8_count_9 rfl ?_
  refine g_getI (n := 25) dX8_count_10 fl_X8_70 rfl (by decide) (by decide) rfl ?_
  refine g_icmp_ge (tgt := 61) dX8_count_13 (by decide) (fun c1 => ?_) (fun c1 => ?_)
  · have t := t.1 c1
    refine g_iconst (v := 0) dX8_count_61 (by decide) ?_
    refine g_istore (ls' := [.ref 45, .int l1, .int l2, .int l3, .int 0, .null]) dX8_count_62 rfl (by decide) rfl ?_
    refine g_iconst (v := 0) dX8_count_64 (by decide) ?_
    refine g_istore (ls' := [.ref 45, .int l1, .int l2, .int l3, .int 0, .int 0]) dX8_count_65 rfl (by decide) rfl ?_
    exact t
  · have t := t.2 c1
    refine g_iload_n dX8_count_16 rfl ?_
    refine g_aload_n dX8_count_17 rfl ?_
    refine g_getR (n := 25) dX8_count_18 fl_X8_28 rfl (by decide) (by decide) rfl rfl ?_
    refine g_iload dX8_count_21 rfl ?_
    refine g_iald (n := 8) dX8_count_23 rfl t.1 ?_
    have t := t.2
    refine g_if_le (tgt := 31) dX8_count_24 (by decide) (fun c2 => ?_) (fun c2 => ?_)
    · have t := t.1 c2
      refine g_iconst (v := 0) dX8_count_31 (by decide) ?_
      refine g_iadd dX8_count_32 ?_
      refine g_istore_n (ls' := [.ref 45, .int l1, .int (l2 + 0), .int l3, .int l4, .null]) dX8_count_33 rfl (by decide) rfl ?_
      refine g_iload_n dX8_count_34 rfl ?_
      refine g_aload_n dX8_count_35 rfl ?_
      refine g_iload dX8_count_36 rfl ?_
      refine g_aload_n dX8_count_38 rfl ?_
      refine g_getI (n := 25) dX8_count_39 fl_X8_98 rfl (by decide) (by decide) rfl ?_
      refine s_V2i dX8_count_42 vm_X8_shownBy ml_X8_101 rfl rfl (by decide) (Nat.le_of_ble_eq_true rfl) rfl (tk_Ms.mono t (fun x3 S4 t => ?_))
      refine g_if_le (tgt := 52) dX8_count_45 (by decide) (fun c5 => ?_) (fun c5 => ?_)
      · have t := t.1 c5
        refine g_iconst (v := 0) dX8_count_52 (by decide) ?_
        refine g_iadd dX8_count_53 ?_
        refine g_istore_n (ls' := [.ref 45, .int l1, .int (l2 + 0), .int (l3 + 0), .int l4, .null]) dX8_count_54 rfl (by decide) rfl ?_
        refine g_iinc (v := l4 + 1) (ls' := [.ref 45, .int l1, .int (l2 + 0), .int (l3 + 0), .int (l4 + 1), .null]) dX8_count_55 rfl rfl (by decide) rfl rfl ?_
        refine g_goto (tgt := 7) dX8_count_58 (by decide) ?_
        exact t
      · have t := t.2 c5
        refine g_iconst (v := 1) dX8_count_48 (by decide) ?_
        refine g_goto (tgt := 53) dX8_count_49 (by decide) ?_
        refine g_iadd dX8_count_53 ?_
        refine g_istore_n (ls' := [.ref 45, .int l1, .int (l2 + 0), .int (l3 + 1), .int l4, .null]) dX8_count_54 rfl (by decide) rfl ?_
        refine g_iinc (v := l4 + 1) (ls' := [.ref 45, .int l1, .int (l2 + 0), .int (l3 + 1), .int (l4 + 1), .null]) dX8_count_55 rfl rfl (by decide) rfl rfl ?_
        refine g_goto (tgt := 7) dX8_count_58 (by decide) ?_
        exact t
    · have t := t.2 c2
      refine g_iconst (v := 1) dX8_count_27 (by decide) ?_
      refine g_goto (tgt := 32) dX8_count_28 (by decide) ?_
      refine g_iadd dX8_count_32 ?_
      refine g_istore_n (ls' := [.ref 45, .int l1, .int (l2 + 1), .int l3, .int l4, .null]) dX8_count_33 rfl (by decide) rfl ?_
      refine g_iload_n dX8_count_34 rfl ?_
      refine g_aload_n dX8_count_35 rfl ?_
      refine g_iload dX8_count_36 rfl ?_
      refine g_aload_n dX8_count_38 rfl ?_
      refine g_getI (n := 25) dX8_count_39 fl_X8_98 rfl (by decide) (by decide) rfl ?_
      refine s_V2i dX8_count_42 vm_X8_shownBy ml_X8_101 rfl rfl (by decide) (Nat.le_of_ble_eq_true rfl) rfl (tk_Ms.mono t (fun x6 S7 t => ?_))
      refine g_if_le (tgt := 52) dX8_count_45 (by decide) (fun c8 => ?_) (fun c8 => ?_)
      · have t := t.1 c8
        refine g_iconst (v := 0) dX8_count_52 (by decide) ?_
        refine g_iadd dX8_count_53 ?_
        refine g_istore_n (ls' := [.ref 45, .int l1, .int (l2 + 1), .int (l3 + 0), .int l4, .null]) dX8_count_54 rfl (by decide) rfl ?_
        refine g_iinc (v := l4 + 1) (ls' := [.ref 45, .int l1, .int (l2 + 1), .int (l3 + 0), .int (l4 + 1), .null]) dX8_count_55 rfl rfl (by decide) rfl rfl ?_
        refine g_goto (tgt := 7) dX8_count_58 (by decide) ?_
        exact t
      · have t := t.2 c8
        refine g_iconst (v := 1) dX8_count_48 (by decide) ?_
        refine g_goto (tgt := 53) dX8_count_49 (by decide) ?_
        refine g_iadd dX8_count_53 ?_
        refine g_istore_n (ls' := [.ref 45, .int l1, .int (l2 + 1), .int (l3 + 1), .int l4, .null]) dX8_count_54 rfl (by decide) rfl ?_
        refine g_iinc (v := l4 + 1) (ls' := [.ref 45, .int l1, .int (l2 + 1), .int (l3 + 1), .int (l4 + 1), .null]) dX8_count_55 rfl rfl (by decide) rfl rfl ?_
        refine g_goto (tgt := 7) dX8_count_58 (by decide) ?_
        exact t
theorem w_X8_count_67 {Q : Int32 → tS → Prop} {S : tS} (l1 : Int32) (l2 : Int32) (l3 : Int32) (l4 : Int32) (l5 : Int32)  (t : (((S 45 3) ≤ l5 → ((l1 = 0 → Q (S 45 3) S) ∧ ((l1 = 1 → Q (S 45 9) S) ∧ ((l1 = 2 → Q l2 S) ∧ ((l1 = 3 → Q (S 45 10) S) ∧ ((l1 = 4 → Q l3 S) ∧ ((l1 = 5 → Q l4 S) ∧ (¬ l1 = 0 ∧ ¬ l1 = 1 ∧ ¬ l1 = 2 ∧ ¬ l1 = 3 ∧ ¬ l1 = 4 ∧ ¬ l1 = 5 → Q (-1) S)))))))) ∧ (¬ (S 45 3) ≤ l5 → (vp_in l5 17 ∧ (((S 46 l5.toNatClampNeg) = 10 → tk_Gs mX8_count none 67 [.ref 45, .int l1, .int l2, .int l3, .int (l4 + 1), .int (l5 + 1)] [] S Q) ∧ (¬ (S 46 l5.toNatClampNeg) = 10 → (vp_in l5 17 ∧ ((¬ (S 47 l5.toNatClampNeg) = 10 → tk_Gs mX8_count none 67 [.ref 45, .int l1, .int l2, .int l3, .int (l4 + 0), .int (l5 + 1)] [] S Q) ∧ ((S 47 l5.toNatClampNeg) = 10 → tk_Gs mX8_count none 67 [.ref 45, .int l1, .int l2, .int l3, .int (l4 + 1), .int (l5 + 1)] [] S Q))))))))) : tk_Gs mX8_count none 67 [.ref 45, .int l1, .int l2, .int l3, .int l4, .int l5] [] S Q := by
  show tk_G _ 0 0 _ _ _ _ (tkSH, S, tkRF) _
  refine g_iload dX8_count_67 rfl ?_
  refine g_aload_n dX8_count_69 rfl ?_
  refine g_getI (n := 25) dX8_count_70 fl_X8_84 rfl (by decide) (by decide) rfl ?_
  refine g_icmp_ge (tgt := 116) dX8_count_73 (by decide) (fun c1 => ?_) (fun c1 => ?_)
  · have t := t.1 c1
    refine g_iload_n dX8_count_116 rfl ?_
    by_cases c2 : l1 = 0
    · have t := t.1 c2
      refine g_tabInE c2 (off := 39) (tgt := 156) dX8_count_117 (by decide) (by decide) (by decide) (by decide) ?_
      refine g_aload_n dX8_count_156 rfl ?_
      refine g_getI (n := 25) dX8_count_157 fl_X8_84 rfl (by decide) (by decide) rfl ?_
      exact g_iret (st := []) dX8_count_160 (fun e => by cases e) ⟨_, rfl, t⟩
    have t := t.2
    by_cases c3 : l1 = 1
    · have t := t.1 c3
      refine g_tabInE c3 (off := 44) (tgt := 161) dX8_count_117 (by decide) (by decide) (by decide) (by decide) ?_
      refine g_aload_n dX8_count_161 rfl ?_
      refine g_getI (n := 25) dX8_count_162 fl_X8_70 rfl (by decide) (by decide) rfl ?_
      exact g_iret (st := []) dX8_count_165 (fun e => by cases e) ⟨_, rfl, t⟩
    have t := t.2
    by_cases c4 : l1 = 2
    · have t := t.1 c4
      refine g_tabInE c4 (off := 49) (tgt := 166) dX8_count_117 (by decide) (by decide) (by decide) (by decide) ?_
      refine g_iload_n dX8_count_166 rfl ?_
      exact g_iret (st := []) dX8_count_167 (fun e => by cases e) ⟨_, rfl, t⟩
    have t := t.2
    by_cases c5 : l1 = 3
    · have t := t.1 c5
      refine g_tabInE c5 (off := 51) (tgt := 168) dX8_count_117 (by decide) (by decide) (by decide) (by decide) ?_
      refine g_aload_n dX8_count_168 rfl ?_
      refine g_getI (n := 25) dX8_count_169 fl_X8_98 rfl (by decide) (by decide) rfl ?_
      exact g_iret (st := []) dX8_count_172 (fun e => by cases e) ⟨_, rfl, t⟩
    have t := t.2
    by_cases c6 : l1 = 4
    · have t := t.1 c6
      refine g_tabInE c6 (off := 56) (tgt := 173) dX8_count_117 (by decide) (by decide) (by decide) (by decide) ?_
      refine g_iload_n dX8_count_173 rfl ?_
      exact g_iret (st := []) dX8_count_174 (fun e => by cases e) ⟨_, rfl, t⟩
    have t := t.2
    by_cases c7 : l1 = 5
    · have t := t.1 c7
      refine g_tabInE c7 (off := 58) (tgt := 175) dX8_count_117 (by decide) (by decide) (by decide) (by decide) ?_
      refine g_iload dX8_count_175 rfl ?_
      exact g_iret (st := []) dX8_count_177 (fun e => by cases e) ⟨_, rfl, t⟩
    have t := t.2
    have zc2 := lv_neT c2 (a := 0) (by decide)
    have zc3 := lv_neT c3 (a := 1) (by decide)
    have zc4 := lv_neT c4 (a := 2) (by decide)
    have zc5 := lv_neT c5 (a := 3) (by decide)
    have zc6 := lv_neT c6 (a := 4) (by decide)
    have zc7 := lv_neT c7 (a := 5) (by decide)
    refine g_tabOut (tgt := 178) dX8_count_117 (by omega) (by decide) ?_
    have t := t ⟨c2, c3, c4, c5, c6, c7⟩
    refine g_iconst (v := (-1)) dX8_count_178 (by decide) ?_
    exact g_iret (st := []) dX8_count_179 (fun e => by cases e) ⟨_, rfl, t⟩
  · have t := t.2 c1
    refine g_iload dX8_count_76 rfl ?_
    refine g_aload_n dX8_count_78 rfl ?_
    refine g_getR (n := 25) dX8_count_79 fl_X8_7 rfl (by decide) (by decide) rfl rfl ?_
    refine g_iload dX8_count_82 rfl ?_
    refine g_iald (n := 17) dX8_count_84 rfl t.1 ?_
    have t := t.2
    refine g_bipush (v := 10) dX8_count_85 (by decide) ?_
    refine g_icmp_eq (tgt := 102) dX8_count_87 (by decide) (fun c8 => ?_) (fun c8 => ?_)
    · have t := t.1 c8
      refine g_iconst (v := 1) dX8_count_102 (by decide) ?_
      refine g_goto (tgt := 107) dX8_count_103 (by decide) ?_
      refine g_iadd dX8_count_107 ?_
      refine g_istore (ls' := [.ref 45, .int l1, .int l2, .int l3, .int (l4 + 1), .int l5]) dX8_count_108 rfl (by decide) rfl ?_
      refine g_iinc (v := l5 + 1) (ls' := [.ref 45, .int l1, .int l2, .int l3, .int (l4 + 1), .int (l5 + 1)]) dX8_count_110 rfl rfl (by decide) rfl rfl ?_
      refine g_goto (tgt := 67) dX8_count_113 (by decide) ?_
      exact t
    · have t := t.2 c8
      refine g_aload_n dX8_count_90 rfl ?_
      refine g_getR (n := 25) dX8_count_91 fl_X8_13 rfl (by decide) (by decide) rfl rfl ?_
      refine g_iload dX8_count_94 rfl ?_
      refine g_iald (n := 17) dX8_count_96 rfl t.1 ?_
      have t := t.2
      refine g_bipush (v := 10) dX8_count_97 (by decide) ?_
      refine g_icmp_ne (tgt := 106) dX8_count_99 (by decide) (fun c9 => ?_) (fun c9 => ?_)
      · have t := t.1 c9
        refine g_iconst (v := 0) dX8_count_106 (by decide) ?_
        refine g_iadd dX8_count_107 ?_
        refine g_istore (ls' := [.ref 45, .int l1, .int l2, .int l3, .int (l4 + 0), .int l5]) dX8_count_108 rfl (by decide) rfl ?_
        refine g_iinc (v := l5 + 1) (ls' := [.ref 45, .int l1, .int l2, .int l3, .int (l4 + 0), .int (l5 + 1)]) dX8_count_110 rfl rfl (by decide) rfl rfl ?_
        refine g_goto (tgt := 67) dX8_count_113 (by decide) ?_
        exact t
      · have t := t.2 c9
        refine g_iconst (v := 1) dX8_count_102 (by decide) ?_
        refine g_goto (tgt := 107) dX8_count_103 (by decide) ?_
        refine g_iadd dX8_count_107 ?_
        refine g_istore (ls' := [.ref 45, .int l1, .int l2, .int l3, .int (l4 + 1), .int l5]) dX8_count_108 rfl (by decide) rfl ?_
        refine g_iinc (v := l5 + 1) (ls' := [.ref 45, .int l1, .int l2, .int l3, .int (l4 + 1), .int (l5 + 1)]) dX8_count_110 rfl rfl (by decide) rfl rfl ?_
        refine g_goto (tgt := 67) dX8_count_113 (by decide) ?_
        exact t
theorem w_X8_type {Q : Int32 → tS → Prop} {S : tS} (p1 : Int64) (p2 : Int32) (t : (tk_Ms mX8_in [.long ((p2 : Int32).toInt64), .long (1 : Int64), .long (8 : Int64)] S (fun x1 S2 => ((¬ x1 = 0 → tk_Gs mX8_type none 19 [.ref 45, .long p1, .null, .int p2, .int (p2 - 1)] [] S2 (tk_okQ mX8_type Q)) ∧ (x1 = 0 → (tk_okQ mX8_type Q) (-1) S2))))) : tk_Ms mX8_type [.ref 45, .long p1, .int p2] S Q := by
  refine tk_Ms.of (ls := [.ref 45, .long p1, .null, .int p2, .null]) (by decide) (by first | exact Or.inl rfl | exact Or.inr (Or.inl rfl) | exact Or.inr (Or.inr rfl)) (Nat.le_of_ble_eq_true rfl) rfl ?_
  refine g_iload_n dX8_type_0 rfl ?_
  refine g_i2l dX8_type_1 ?_
  refine g_lconst (v := 1) dX8_type_2 (by decide) ?_
  refine g_ldc2 (v := 8) dX8_type_3 kl_X8_82 ?_
  refine s_S3i dX8_type_6 sm_X8_in ml_X8_66 rfl (by decide) (Nat.le_of_ble_eq_true rfl) rfl (tk_Ms.mono t (fun x1 S2 t => ?_))
  refine g_if_ne (tgt := 14) dX8_type_9 (by decide) (fun c3 => ?_) (fun c3 => ?_)
  · have t := t.1 c3
    refine g_iload_n dX8_type_14 rfl ?_
    refine g_iconst (v := 1) dX8_type_15 (by decide) ?_
    refine g_isub dX8_type_16 ?_
    refine g_istore (ls' := [.ref 45, .long p1, .null, .int p2, .int (p2 - 1)]) dX8_type_17 rfl (by decide) rfl ?_
    exact t
  · have t := t.2 c3
    refine g_iconst (v := (-1)) dX8_type_12 (by decide) ?_
    exact g_iret (st := []) dX8_type_13 (fun e => by cases e) ⟨_, rfl, t⟩
theorem w_X8_type_19 {Q : Int32 → tS → Prop} {S : tS} (l1 : Int64) (l3 : Int32) (l4 : Int32)  (t : ((l4 < 0 → ((((S 45 12) + l3) ≤ 160 → tk_Gs mX8_type none 75 [.ref 45, .long l1, .null, .int l3, .int (l3 - 1)] [] S Q) ∧ (¬ ((S 45 12) + l3) ≤ 160 → Q (-3) S))) ∧ (¬ l4 < 0 → (tk_Ms mX8_in [.long ((l1 >>> (((8 * l4 : Int32)).toInt64 &&& 63)) &&& (255 : Int64)), .long (32 : Int64), .long (126 : Int64)] S (fun x3 S4 => ((¬ x3 = 0 → tk_Gs mX8_type none 19 [.ref 45, .long l1, .null, .int l3, .int (l4 + (-1))] [] S4 Q) ∧ (x3 = 0 → Q (-1) S4))))))) : tk_Gs mX8_type none 19 [.ref 45, .long l1, .null, .int l3, .int l4] [] S Q := by
  show tk_G _ 0 0 _ _ _ _ (tkSH, S, tkRF) _
  refine g_iload dX8_type_19 rfl ?_
  refine g_if_lt (tgt := 55) dX8_type_21 (by decide) (fun c1 => ?_) (fun c1 => ?_)
  · have t := t.1 c1
    refine g_aload_n dX8_type_55 rfl ?_
    refine g_getI (n := 25) dX8_type_56 fl_X8_111 rfl (by decide) (by decide) rfl ?_
    refine g_iload_n dX8_type_59 rfl ?_
    refine g_iadd dX8_type_60 ?_
    refine g_sipush (v := 160) dX8_type_61 (by decide) ?_
    refine g_icmp_le (tgt := 70) dX8_type_64 (by decide) (fun c2 => ?_) (fun c2 => ?_)
    · have t := t.1 c2
      refine g_iload_n dX8_type_70 rfl ?_
      refine g_iconst (v := 1) dX8_type_71 (by decide) ?_
      refine g_isub dX8_type_72 ?_
      refine g_istore (ls' := [.ref 45, .long l1, .null, .int l3, .int (l3 - 1)]) dX8_type_73 rfl (by decide) rfl ?_
      exact t
    · have t := t.2 c2
      refine g_bipush (v := (-3)) dX8_type_67 (by decide) ?_
      exact g_iret (st := []) dX8_type_69 (fun e => by cases e) ⟨_, rfl, t⟩
  · have t := t.2 c1
    refine g_lload_n dX8_type_24 rfl ?_
    refine g_bipush (v := 8) dX8_type_25 (by decide) ?_
    refine g_iload dX8_type_27 rfl ?_
    refine g_imul dX8_type_29 ?_
    refine g_lshr dX8_type_30 ?_
    refine g_ldc2 (v := 255) dX8_type_31 kl_X8_105 ?_
    refine g_land dX8_type_34 ?_
    refine g_ldc2 (v := 32) dX8_type_35 kl_X8_107 ?_
    refine g_ldc2 (v := 126) dX8_type_38 kl_X8_109 ?_
    refine s_S3i dX8_type_41 sm_X8_in ml_X8_66 rfl (by decide) (Nat.le_of_ble_eq_true rfl) rfl (tk_Ms.mono t (fun x3 S4 t => ?_))
    refine g_if_ne (tgt := 49) dX8_type_44 (by decide) (fun c5 => ?_) (fun c5 => ?_)
    · have t := t.1 c5
      refine g_iinc (v := l4 + (-1)) (ls' := [.ref 45, .long l1, .null, .int l3, .int (l4 + (-1))]) dX8_type_49 rfl rfl (by decide) rfl rfl ?_
      refine g_goto (tgt := 19) dX8_type_52 (by decide) ?_
      exact t
    · have t := t.2 c5
      refine g_iconst (v := (-1)) dX8_type_47 (by decide) ?_
      exact g_iret (st := []) dX8_type_48 (fun e => by cases e) ⟨_, rfl, t⟩
theorem w_X8_type_75 {Q : Int32 → tS → Prop} {S : tS} (l1 : Int64) (l3 : Int32) (l4 : Int32)  (t : ((l4 < 0 → Q (S 45 12) S) ∧ (¬ l4 < 0 → (vp_in (S 45 12) 160 ∧ tk_Gs mX8_type none 75 [.ref 45, .long l1, .null, .int l3, .int (l4 + (-1))] [] (tk_up (tk_up S 54 (S 45 12).toNatClampNeg (((l1 >>> (((8 * l4 : Int32)).toInt64 &&& 63)) &&& (255 : Int64)).toInt32)) 45 12 ((S 45 12) + 1)) Q)))) : tk_Gs mX8_type none 75 [.ref 45, .long l1, .null, .int l3, .int l4] [] S Q := by
  show tk_G _ 0 0 _ _ _ _ (tkSH, S, tkRF) _
  refine g_iload dX8_type_75 rfl ?_
  refine g_if_lt (tgt := 117) dX8_type_77 (by decide) (fun c1 => ?_) (fun c1 => ?_)
  · have t := t.1 c1
    refine g_aload_n dX8_type_117 rfl ?_
    refine g_getI (n := 25) dX8_type_118 fl_X8_111 rfl (by decide) (by decide) rfl ?_
    exact g_iret (st := []) dX8_type_121 (fun e => by cases e) ⟨_, rfl, t⟩
  · have t := t.2 c1
    refine g_aload_n dX8_type_80 rfl ?_
    refine g_getR (n := 25) dX8_type_81 fl_X8_34 rfl (by decide) (by decide) rfl rfl ?_
    refine g_aload_n dX8_type_84 rfl ?_
    refine g_getI (n := 25) dX8_type_85 fl_X8_111 rfl (by decide) (by decide) rfl ?_
    refine g_lload_n dX8_type_88 rfl ?_
    refine g_bipush (v := 8) dX8_type_89 (by decide) ?_
    refine g_iload dX8_type_91 rfl ?_
    refine g_imul dX8_type_93 ?_
    refine g_lshr dX8_type_94 ?_
    refine g_ldc2 (v := 255) dX8_type_95 kl_X8_105 ?_
    refine g_land dX8_type_98 ?_
    refine g_l2i dX8_type_99 ?_
    refine g_iast (n := 160) dX8_type_100 rfl t.1 ?_
    have t := t.2
    refine g_aload_n dX8_type_101 rfl ?_
    refine g_dup dX8_type_102 rfl ?_
    refine g_getI (n := 25) dX8_type_103 fl_X8_111 rfl (by decide) (by decide) rfl ?_
    refine g_iconst (v := 1) dX8_type_106 (by decide) ?_
    refine g_iadd dX8_type_107 ?_
    refine g_putI (n := 25) dX8_type_108 fl_X8_111 rfl (by decide) (by decide) rfl rfl rfl ?_
    refine g_iinc (v := l4 + (-1)) (ls' := [.ref 45, .long l1, .null, .int l3, .int (l4 + (-1))]) dX8_type_111 rfl rfl (by decide) rfl rfl ?_
    refine g_goto (tgt := 75) dX8_type_114 (by decide) ?_
    exact t
theorem w_X8_nextByte {Q : Int32 → tS → Prop} {S : tS}  (t : tk_Gs mX8_nextByte none 0 [.ref 45] [] S (tk_okQ mX8_nextByte Q)) : tk_Ms mX8_nextByte [.ref 45] S Q := by
  refine tk_Ms.of (ls := [.ref 45]) (by decide) (by first | exact Or.inl rfl | exact Or.inr (Or.inl rfl) | exact Or.inr (Or.inr rfl)) (Nat.le_of_ble_eq_true rfl) rfl ?_
  exact t
theorem w_X8_nextByte_0 {Q : Int32 → tS → Prop} {S : tS}   (t : (((S 45 12) ≤ (S 45 13) → (((S 45 12) ≤ (S 45 13) → Q (-1) S) ∧ (¬ (S 45 12) ≤ (S 45 13) → (vp_in (S 45 13) 160 ∧ Q (S 54 (S 45 13).toNatClampNeg) S)))) ∧ (¬ (S 45 12) ≤ (S 45 13) → (vp_in (S 45 13) 160 ∧ ((¬ (S 54 (S 45 13).toNatClampNeg) = 32 → (((S 45 12) ≤ (S 45 13) → Q (-1) S) ∧ (¬ (S 45 12) ≤ (S 45 13) → (vp_in (S 45 13) 160 ∧ Q (S 54 (S 45 13).toNatClampNeg) S)))) ∧ ((S 54 (S 45 13).toNatClampNeg) = 32 → tk_Gs mX8_nextByte none 0 [.ref 45] [] (tk_up S 45 13 ((S 45 13) + 1)) Q)))))) : tk_Gs mX8_nextByte none 0 [.ref 45] [] S Q := by
  show tk_G _ 0 0 _ _ _ _ (tkSH, S, tkRF) _
  refine g_aload_n dX8_nextByte_0 rfl ?_
  refine g_getI (n := 25) dX8_nextByte_1 fl_X8_114 rfl (by decide) (by decide) rfl ?_
  refine g_aload_n dX8_nextByte_4 rfl ?_
  refine g_getI (n := 25) dX8_nextByte_5 fl_X8_111 rfl (by decide) (by decide) rfl ?_
  refine g_icmp_ge (tgt := 38) dX8_nextByte_8 (by decide) (fun c1 => ?_) (fun c1 => ?_)
  · have t := t.1 c1
    refine g_aload_n dX8_nextByte_38 rfl ?_
    refine g_getI (n := 25) dX8_nextByte_39 fl_X8_114 rfl (by decide) (by decide) rfl ?_
    refine g_aload_n dX8_nextByte_42 rfl ?_
    refine g_getI (n := 25) dX8_nextByte_43 fl_X8_111 rfl (by decide) (by decide) rfl ?_
    refine g_icmp_ge (tgt := 61) dX8_nextByte_46 (by decide) (fun c2 => ?_) (fun c2 => ?_)
    · have t := t.1 c2
      refine g_iconst (v := (-1)) dX8_nextByte_61 (by decide) ?_
      exact g_iret (st := []) dX8_nextByte_62 (fun e => by cases e) ⟨_, rfl, t⟩
    · have t := t.2 c2
      refine g_aload_n dX8_nextByte_49 rfl ?_
      refine g_getR (n := 25) dX8_nextByte_50 fl_X8_34 rfl (by decide) (by decide) rfl rfl ?_
      refine g_aload_n dX8_nextByte_53 rfl ?_
      refine g_getI (n := 25) dX8_nextByte_54 fl_X8_114 rfl (by decide) (by decide) rfl ?_
      refine g_iald (n := 160) dX8_nextByte_57 rfl t.1 ?_
      have t := t.2
      refine g_goto (tgt := 62) dX8_nextByte_58 (by decide) ?_
      exact g_iret (st := []) dX8_nextByte_62 (fun e => by cases e) ⟨_, rfl, t⟩
  · have t := t.2 c1
    refine g_aload_n dX8_nextByte_11 rfl ?_
    refine g_getR (n := 25) dX8_nextByte_12 fl_X8_34 rfl (by decide) (by decide) rfl rfl ?_
    refine g_aload_n dX8_nextByte_15 rfl ?_
    refine g_getI (n := 25) dX8_nextByte_16 fl_X8_114 rfl (by decide) (by decide) rfl ?_
    refine g_iald (n := 160) dX8_nextByte_19 rfl t.1 ?_
    have t := t.2
    refine g_bipush (v := 32) dX8_nextByte_20 (by decide) ?_
    refine g_icmp_ne (tgt := 38) dX8_nextByte_22 (by decide) (fun c3 => ?_) (fun c3 => ?_)
    · have t := t.1 c3
      refine g_aload_n dX8_nextByte_38 rfl ?_
      refine g_getI (n := 25) dX8_nextByte_39 fl_X8_114 rfl (by decide) (by decide) rfl ?_
      refine g_aload_n dX8_nextByte_42 rfl ?_
      refine g_getI (n := 25) dX8_nextByte_43 fl_X8_111 rfl (by decide) (by decide) rfl ?_
      refine g_icmp_ge (tgt := 61) dX8_nextByte_46 (by decide) (fun c4 => ?_) (fun c4 => ?_)
      · have t := t.1 c4
        refine g_iconst (v := (-1)) dX8_nextByte_61 (by decide) ?_
        exact g_iret (st := []) dX8_nextByte_62 (fun e => by cases e) ⟨_, rfl, t⟩
      · have t := t.2 c4
        refine g_aload_n dX8_nextByte_49 rfl ?_
        refine g_getR (n := 25) dX8_nextByte_50 fl_X8_34 rfl (by decide) (by decide) rfl rfl ?_
        refine g_aload_n dX8_nextByte_53 rfl ?_
        refine g_getI (n := 25) dX8_nextByte_54 fl_X8_114 rfl (by decide) (by decide) rfl ?_
        refine g_iald (n := 160) dX8_nextByte_57 rfl t.1 ?_
        have t := t.2
        refine g_goto (tgt := 62) dX8_nextByte_58 (by decide) ?_
        exact g_iret (st := []) dX8_nextByte_62 (fun e => by cases e) ⟨_, rfl, t⟩
    · have t := t.2 c3
      refine g_aload_n dX8_nextByte_25 rfl ?_
      refine g_dup dX8_nextByte_26 rfl ?_
      refine g_getI (n := 25) dX8_nextByte_27 fl_X8_114 rfl (by decide) (by decide) rfl ?_
      refine g_iconst (v := 1) dX8_nextByte_30 (by decide) ?_
      refine g_iadd dX8_nextByte_31 ?_
      refine g_putI (n := 25) dX8_nextByte_32 fl_X8_114 rfl (by decide) (by decide) rfl rfl rfl ?_
      refine g_goto (tgt := 0) dX8_nextByte_35 (by decide) ?_
      exact t
theorem w_X8_takes {Q : Int32 → tS → Prop} {S : tS} (p1 : Int32) (t : (tk_Ms mX8_nextByte [.ref 45] S (fun x1 S2 => ((¬ x1 = p1 → (((0 : Int32) = 0 → (tk_okQ mX8_takes Q) 0 (tk_up S2 45 13 ((S2 45 13) + 0))) ∧ (¬ (0 : Int32) = 0 → (tk_okQ mX8_takes Q) 0 (tk_up S2 45 13 ((S2 45 13) + 1))))) ∧ (x1 = p1 → (((1 : Int32) = 0 → (tk_okQ mX8_takes Q) 1 (tk_up S2 45 13 ((S2 45 13) + 0))) ∧ (¬ (1 : Int32) = 0 → (tk_okQ mX8_takes Q) 1 (tk_up S2 45 13 ((S2 45 13) + 1))))))))) : tk_Ms mX8_takes [.ref 45, .int p1] S Q := by
  refine tk_Ms.of (ls := [.ref 45, .int p1, .null]) (by decide) (by first | exact Or.inl rfl | exact Or.inr (Or.inl rfl) | exact Or.inr (Or.inr rfl)) (Nat.le_of_ble_eq_true rfl) rfl ?_
  refine g_aload_n dX8_takes_0 rfl ?_
  refine s_V0i dX8_takes_1 vm_X8_nextByte ml_X8_117 rfl rfl (by decide) (Nat.le_of_ble_eq_true rfl) rfl (tk_Ms.mono t (fun x1 S2 t => ?_))
  refine g_iload_n dX8_takes_4 rfl ?_
  refine g_icmp_ne (tgt := 12) dX8_takes_5 (by decide) (fun c3 => ?_) (fun c3 => ?_)
  · have t := t.1 c3
    refine g_iconst (v := 0) dX8_takes_12 (by decide) ?_
    refine g_istore_n (ls' := [.ref 45, .int p1, .int 0]) dX8_takes_13 rfl (by decide) rfl ?_
    refine g_aload_n dX8_takes_14 rfl ?_
    refine g_dup dX8_takes_15 rfl ?_
    refine g_getI (n := 25) dX8_takes_16 fl_X8_114 rfl (by decide) (by decide) rfl ?_
    refine g_iload_n dX8_takes_19 rfl ?_
    refine g_if_eq (tgt := 27) dX8_takes_20 (by decide) (fun c4 => ?_) (fun c4 => ?_)
    · have t := t.1 c4
      refine g_iconst (v := 0) dX8_takes_27 (by decide) ?_
      refine g_iadd dX8_takes_28 ?_
      refine g_putI (n := 25) dX8_takes_29 fl_X8_114 rfl (by decide) (by decide) rfl rfl rfl ?_
      refine g_iload_n dX8_takes_32 rfl ?_
      exact g_iret (st := []) dX8_takes_33 (fun e => by cases e) ⟨_, rfl, t⟩
    · have t := t.2 c4
      refine g_iconst (v := 1) dX8_takes_23 (by decide) ?_
      refine g_goto (tgt := 28) dX8_takes_24 (by decide) ?_
      refine g_iadd dX8_takes_28 ?_
      refine g_putI (n := 25) dX8_takes_29 fl_X8_114 rfl (by decide) (by decide) rfl rfl rfl ?_
      refine g_iload_n dX8_takes_32 rfl ?_
      exact g_iret (st := []) dX8_takes_33 (fun e => by cases e) ⟨_, rfl, t⟩
  · have t := t.2 c3
    refine g_iconst (v := 1) dX8_takes_8 (by decide) ?_
    refine g_goto (tgt := 13) dX8_takes_9 (by decide) ?_
    refine g_istore_n (ls' := [.ref 45, .int p1, .int 1]) dX8_takes_13 rfl (by decide) rfl ?_
    refine g_aload_n dX8_takes_14 rfl ?_
    refine g_dup dX8_takes_15 rfl ?_
    refine g_getI (n := 25) dX8_takes_16 fl_X8_114 rfl (by decide) (by decide) rfl ?_
    refine g_iload_n dX8_takes_19 rfl ?_
    refine g_if_eq (tgt := 27) dX8_takes_20 (by decide) (fun c5 => ?_) (fun c5 => ?_)
    · have t := t.1 c5
      refine g_iconst (v := 0) dX8_takes_27 (by decide) ?_
      refine g_iadd dX8_takes_28 ?_
      refine g_putI (n := 25) dX8_takes_29 fl_X8_114 rfl (by decide) (by decide) rfl rfl rfl ?_
      refine g_iload_n dX8_takes_32 rfl ?_
      exact g_iret (st := []) dX8_takes_33 (fun e => by cases e) ⟨_, rfl, t⟩
    · have t := t.2 c5
      refine g_iconst (v := 1) dX8_takes_23 (by decide) ?_
      refine g_goto (tgt := 28) dX8_takes_24 (by decide) ?_
      refine g_iadd dX8_takes_28 ?_
      refine g_putI (n := 25) dX8_takes_29 fl_X8_114 rfl (by decide) (by decide) rfl rfl rfl ?_
      refine g_iload_n dX8_takes_32 rfl ?_
      exact g_iret (st := []) dX8_takes_33 (fun e => by cases e) ⟨_, rfl, t⟩
theorem w_X8_readDigit {Q : Int32 → tS → Prop} {S : tS} (p1 : Int32) (t : (tk_Ms mX8_nextByte [.ref 45] S (fun x1 S2 => (tk_Ms mX8_in [.long ((x1 - 48 : Int32).toInt64), .long (0 : Int64), .long ((p1 : Int32).toInt64)] S2 (fun x3 S4 => ((¬ x3 = 0 → (tk_okQ mX8_readDigit Q) (x1 - 48) (tk_up S4 45 13 ((S4 45 13) + 1))) ∧ (x3 = 0 → (tk_okQ mX8_readDigit Q) (-1) S4))))))) : tk_Ms mX8_readDigit [.ref 45, .int p1] S Q := by
  refine tk_Ms.of (ls := [.ref 45, .int p1, .null]) (by decide) (by first | exact Or.inl rfl | exact Or.inr (Or.inl rfl) | exact Or.inr (Or.inr rfl)) (Nat.le_of_ble_eq_true rfl) rfl ?_
  refine g_aload_n dX8_readDigit_0 rfl ?_
  refine s_V0i dX8_readDigit_1 vm_X8_nextByte ml_X8_117 rfl rfl (by decide) (Nat.le_of_ble_eq_true rfl) rfl (tk_Ms.mono t (fun x1 S2 t => ?_))
  refine g_bipush (v := 48) dX8_readDigit_4 (by decide) ?_
  refine g_isub dX8_readDigit_6 ?_
  refine g_istore_n (ls' := [.ref 45, .int p1, .int (x1 - 48)]) dX8_readDigit_7 rfl (by decide) rfl ?_
  refine g_iload_n dX8_readDigit_8 rfl ?_
  refine g_i2l dX8_readDigit_9 ?_
  refine g_lconst (v := 0) dX8_readDigit_10 (by decide) ?_
  refine g_iload_n dX8_readDigit_11 rfl ?_
  refine g_i2l dX8_readDigit_12 ?_
  refine s_S3i dX8_readDigit_13 sm_X8_in ml_X8_66 rfl (by decide) (Nat.le_of_ble_eq_true rfl) rfl (tk_Ms.mono t (fun x3 S4 t => ?_))
  refine g_if_ne (tgt := 21) dX8_readDigit_16 (by decide) (fun c5 => ?_) (fun c5 => ?_)
  · have t := t.1 c5
    refine g_aload_n dX8_readDigit_21 rfl ?_
    refine g_dup dX8_readDigit_22 rfl ?_
    refine g_getI (n := 25) dX8_readDigit_23 fl_X8_114 rfl (by decide) (by decide) rfl ?_
    refine g_iconst (v := 1) dX8_readDigit_26 (by decide) ?_
    refine g_iadd dX8_readDigit_27 ?_
    refine g_putI (n := 25) dX8_readDigit_28 fl_X8_114 rfl (by decide) (by decide) rfl rfl rfl ?_
    refine g_iload_n dX8_readDigit_31 rfl ?_
    exact g_iret (st := []) dX8_readDigit_32 (fun e => by cases e) ⟨_, rfl, t⟩
  · have t := t.2 c5
    refine g_iconst (v := (-1)) dX8_readDigit_19 (by decide) ?_
    exact g_iret (st := []) dX8_readDigit_20 (fun e => by cases e) ⟨_, rfl, t⟩
theorem w_X8_readMinutes {Q : Int32 → tS → Prop} {S : tS}  (t : (tk_Ms mX8_nextByte [.ref 45] S (fun x1 S2 => tk_Gs mX8_readMinutes none 12 [.ref 45, .int (S2 45 13), .int 0] [] S2 (tk_okQ mX8_readMinutes Q)))) : tk_Ms mX8_readMinutes [.ref 45] S Q := by
  refine tk_Ms.of (ls := [.ref 45, .null, .null]) (by decide) (by first | exact Or.inl rfl | exact Or.inr (Or.inl rfl) | exact Or.inr (Or.inr rfl)) (Nat.le_of_ble_eq_true rfl) rfl ?_
  refine g_aload_n dX8_readMinutes_0 rfl ?_
  refine s_V0i dX8_readMinutes_1 vm_X8_nextByte ml_X8_117 rfl rfl (by decide) (Nat.le_of_ble_eq_true rfl) rfl (tk_Ms.mono t (fun x1 S2 t => ?_))
  refine g_pop dX8_readMinutes_4 rfl ?_
  refine g_aload_n dX8_readMinutes_5 rfl ?_
  refine g_getI (n := 25) dX8_readMinutes_6 fl_X8_114 rfl (by decide) (by decide) rfl ?_
  refine g_istore_n (ls' := [.ref 45, .int (S2 45 13), .null]) dX8_readMinutes_9 rfl (by decide) rfl ?_
  refine g_iconst (v := 0) dX8_readMinutes_10 (by decide) ?_
  refine g_istore_n (ls' := [.ref 45, .int (S2 45 13), .int 0]) dX8_readMinutes_11 rfl (by decide) rfl ?_
  exact t
theorem w_X8_readMinutes_12 {Q : Int32 → tS → Prop} {S : tS} (l1 : Int32) (l2 : Int32)  (t : (((S 45 12) ≤ (S 45 13) → ((¬ (S 45 13) = l1 → ((l2 ≤ 30 → Q l2 S) ∧ (¬ l2 ≤ 30 → Q (-1) (tk_up S 45 13 l1)))) ∧ ((S 45 13) = l1 → Q (-1) S))) ∧ (¬ (S 45 12) ≤ (S 45 13) → (vp_in (S 45 13) 160 ∧ (tk_Ms mX8_in [.long ((S 54 (S 45 13).toNatClampNeg : Int32).toInt64), .long (48 : Int64), .long (57 : Int64)] S (fun x4 S5 => ((x4 = 0 → ((¬ (S5 45 13) = l1 → ((l2 ≤ 30 → Q l2 S5) ∧ (¬ l2 ≤ 30 → Q (-1) (tk_up S5 45 13 l1)))) ∧ ((S5 45 13) = l1 → Q (-1) S5))) ∧ (¬ x4 = 0 → ((l2 ≤ 9999 → (vp_in (S5 45 13) 160 ∧ tk_Gs mX8_readMinutes none 12 [.ref 45, .int l1, .int (((10 * l2) + (S5 54 (S5 45 13).toNatClampNeg)) - 48)] [] (tk_up S5 45 13 ((S5 45 13) + 1)) Q)) ∧ (¬ l2 ≤ 9999 → tk_Gs mX8_readMinutes none 12 [.ref 45, .int l1, .int l2] [] (tk_up S5 45 13 ((S5 45 13) + 1)) Q)))))))))) : tk_Gs mX8_readMinutes none 12 [.ref 45, .int l1, .int l2] [] S Q := by
  show tk_G _ 0 0 _ _ _ _ (tkSH, S, tkRF) _
  refine g_aload_n dX8_readMinutes_12 rfl ?_
  refine g_getI (n := 25) dX8_readMinutes_13 fl_X8_114 rfl (by decide) (by decide) rfl ?_
  refine g_aload_n dX8_readMinutes_16 rfl ?_
  refine g_getI (n := 25) dX8_readMinutes_17 fl_X8_111 rfl (by decide) (by decide) rfl ?_
  refine g_icmp_ge (tgt := 87) dX8_readMinutes_20 (by decide) (fun c1 => ?_) (fun c1 => ?_)
  · have t := t.1 c1
    refine g_aload_n dX8_readMinutes_87 rfl ?_
    refine g_getI (n := 25) dX8_readMinutes_88 fl_X8_114 rfl (by decide) (by decide) rfl ?_
    refine g_iload_n dX8_readMinutes_91 rfl ?_
    refine g_icmp_ne (tgt := 97) dX8_readMinutes_92 (by decide) (fun c2 => ?_) (fun c2 => ?_)
    · have t := t.1 c2
      refine g_iload_n dX8_readMinutes_97 rfl ?_
      refine g_bipush (v := 30) dX8_readMinutes_98 (by decide) ?_
      refine g_icmp_le (tgt := 110) dX8_readMinutes_100 (by decide) (fun c3 => ?_) (fun c3 => ?_)
      · have t := t.1 c3
        refine g_iload_n dX8_readMinutes_110 rfl ?_
        exact g_iret (st := []) dX8_readMinutes_111 (fun e => by cases e) ⟨_, rfl, t⟩
      · have t := t.2 c3
        refine g_aload_n dX8_readMinutes_103 rfl ?_
        refine g_iload_n dX8_readMinutes_104 rfl ?_
        refine g_putI (n := 25) dX8_readMinutes_105 fl_X8_114 rfl (by decide) (by decide) rfl rfl rfl ?_
        refine g_iconst (v := (-1)) dX8_readMinutes_108 (by decide) ?_
        exact g_iret (st := []) dX8_readMinutes_109 (fun e => by cases e) ⟨_, rfl, t⟩
    · have t := t.2 c2
      refine g_iconst (v := (-1)) dX8_readMinutes_95 (by decide) ?_
      exact g_iret (st := []) dX8_readMinutes_96 (fun e => by cases e) ⟨_, rfl, t⟩
  · have t := t.2 c1
    refine g_aload_n dX8_readMinutes_23 rfl ?_
    refine g_getR (n := 25) dX8_readMinutes_24 fl_X8_34 rfl (by decide) (by decide) rfl rfl ?_
    refine g_aload_n dX8_readMinutes_27 rfl ?_
    refine g_getI (n := 25) dX8_readMinutes_28 fl_X8_114 rfl (by decide) (by decide) rfl ?_
    refine g_iald (n := 160) dX8_readMinutes_31 rfl t.1 ?_
    have t := t.2
    refine g_i2l dX8_readMinutes_32 ?_
    refine g_ldc2 (v := 48) dX8_readMinutes_33 kl_X8_121 ?_
    refine g_ldc2 (v := 57) dX8_readMinutes_36 kl_X8_123 ?_
    refine s_S3i dX8_readMinutes_39 sm_X8_in ml_X8_66 rfl (by decide) (Nat.le_of_ble_eq_true rfl) rfl (tk_Ms.mono t (fun x4 S5 t => ?_))
    refine g_if_eq (tgt := 87) dX8_readMinutes_42 (by decide) (fun c6 => ?_) (fun c6 => ?_)
    · have t := t.1 c6
      refine g_aload_n dX8_readMinutes_87 rfl ?_
      refine g_getI (n := 25) dX8_readMinutes_88 fl_X8_114 rfl (by decide) (by decide) rfl ?_
      refine g_iload_n dX8_readMinutes_91 rfl ?_
      refine g_icmp_ne (tgt := 97) dX8_readMinutes_92 (by decide) (fun c7 => ?_) (fun c7 => ?_)
      · have t := t.1 c7
        refine g_iload_n dX8_readMinutes_97 rfl ?_
        refine g_bipush (v := 30) dX8_readMinutes_98 (by decide) ?_
        refine g_icmp_le (tgt := 110) dX8_readMinutes_100 (by decide) (fun c8 => ?_) (fun c8 => ?_)
        · have t := t.1 c8
          refine g_iload_n dX8_readMinutes_110 rfl ?_
          exact g_iret (st := []) dX8_readMinutes_111 (fun e => by cases e) ⟨_, rfl, t⟩
        · have t := t.2 c8
          refine g_aload_n dX8_readMinutes_103 rfl ?_
          refine g_iload_n dX8_readMinutes_104 rfl ?_
          refine g_putI (n := 25) dX8_readMinutes_105 fl_X8_114 rfl (by decide) (by decide) rfl rfl rfl ?_
          refine g_iconst (v := (-1)) dX8_readMinutes_108 (by decide) ?_
          exact g_iret (st := []) dX8_readMinutes_109 (fun e => by cases e) ⟨_, rfl, t⟩
      · have t := t.2 c7
        refine g_iconst (v := (-1)) dX8_readMinutes_95 (by decide) ?_
        exact g_iret (st := []) dX8_readMinutes_96 (fun e => by cases e) ⟨_, rfl, t⟩
    · have t := t.2 c6
      refine g_iload_n dX8_readMinutes_45 rfl ?_
      refine g_sipush (v := 9999) dX8_readMinutes_46 (by decide) ?_
      refine g_icmp_le (tgt := 56) dX8_readMinutes_49 (by decide) (fun c9 => ?_) (fun c9 => ?_)
      · have t := t.1 c9
        refine g_bipush (v := 10) dX8_readMinutes_56 (by decide) ?_
        refine g_iload_n dX8_readMinutes_58 rfl ?_
        refine g_imul dX8_readMinutes_59 ?_
        refine g_aload_n dX8_readMinutes_60 rfl ?_
        refine g_getR (n := 25) dX8_readMinutes_61 fl_X8_34 rfl (by decide) (by decide) rfl rfl ?_
        refine g_aload_n dX8_readMinutes_64 rfl ?_
        refine g_getI (n := 25) dX8_readMinutes_65 fl_X8_114 rfl (by decide) (by decide) rfl ?_
        refine g_iald (n := 160) dX8_readMinutes_68 rfl t.1 ?_
        have t := t.2
        refine g_iadd dX8_readMinutes_69 ?_
        refine g_bipush (v := 48) dX8_readMinutes_70 (by decide) ?_
        refine g_isub dX8_readMinutes_72 ?_
        refine g_istore_n (ls' := [.ref 45, .int l1, .int (((10 * l2) + (S5 54 (S5 45 13).toNatClampNeg)) - 48)]) dX8_readMinutes_73 rfl (by decide) rfl ?_
        refine g_aload_n dX8_readMinutes_74 rfl ?_
        refine g_dup dX8_readMinutes_75 rfl ?_
        refine g_getI (n := 25) dX8_readMinutes_76 fl_X8_114 rfl (by decide) (by decide) rfl ?_
        refine g_iconst (v := 1) dX8_readMinutes_79 (by decide) ?_
        refine g_iadd dX8_readMinutes_80 ?_
        refine g_putI (n := 25) dX8_readMinutes_81 fl_X8_114 rfl (by decide) (by decide) rfl rfl rfl ?_
        refine g_goto (tgt := 12) dX8_readMinutes_84 (by decide) ?_
        exact t
      · have t := t.2 c9
        refine g_iload_n dX8_readMinutes_52 rfl ?_
        refine g_goto (tgt := 73) dX8_readMinutes_53 (by decide) ?_
        refine g_istore_n (ls' := [.ref 45, .int l1, .int l2]) dX8_readMinutes_73 rfl (by decide) rfl ?_
        refine g_aload_n dX8_readMinutes_74 rfl ?_
        refine g_dup dX8_readMinutes_75 rfl ?_
        refine g_getI (n := 25) dX8_readMinutes_76 fl_X8_114 rfl (by decide) (by decide) rfl ?_
        refine g_iconst (v := 1) dX8_readMinutes_79 (by decide) ?_
        refine g_iadd dX8_readMinutes_80 ?_
        refine g_putI (n := 25) dX8_readMinutes_81 fl_X8_114 rfl (by decide) (by decide) rfl rfl rfl ?_
        refine g_goto (tgt := 12) dX8_readMinutes_84 (by decide) ?_
        exact t
theorem w_X8_signOf {Q : Int32 → tS → Prop} {S : tS} (p1 : Int32) (t : ((¬ p1 = 103 → (tk_Ms mX8_in [.long ((p1 : Int32).toInt64), .long (48 : Int64), .long (57 : Int64)] S (fun x2 S3 => ((x2 = 0 → (tk_okQ mX8_signOf Q) (-1) S3) ∧ (¬ x2 = 0 → (tk_okQ mX8_signOf Q) (p1 - 48) S3))))) ∧ (p1 = 103 → (tk_okQ mX8_signOf Q) 10 S))) : tk_Ms mX8_signOf [.ref 45, .int p1] S Q := by
  refine tk_Ms.of (ls := [.ref 45, .int p1]) (by decide) (by first | exact Or.inl rfl | exact Or.inr (Or.inl rfl) | exact Or.inr (Or.inr rfl)) (Nat.le_of_ble_eq_true rfl) rfl ?_
  refine g_iload_n dX8_signOf_0 rfl ?_
  refine g_bipush (v := 103) dX8_signOf_1 (by decide) ?_
  refine g_icmp_ne (tgt := 11) dX8_signOf_3 (by decide) (fun c1 => ?_) (fun c1 => ?_)
  · have t := t.1 c1
    refine g_iload_n dX8_signOf_11 rfl ?_
    refine g_i2l dX8_signOf_12 ?_
    refine g_ldc2 (v := 48) dX8_signOf_13 kl_X8_121 ?_
    refine g_ldc2 (v := 57) dX8_signOf_16 kl_X8_123 ?_
    refine s_S3i dX8_signOf_19 sm_X8_in ml_X8_66 rfl (by decide) (Nat.le_of_ble_eq_true rfl) rfl (tk_Ms.mono t (fun x2 S3 t => ?_))
    refine g_if_eq (tgt := 32) dX8_signOf_22 (by decide) (fun c4 => ?_) (fun c4 => ?_)
    · have t := t.1 c4
      refine g_iconst (v := (-1)) dX8_signOf_32 (by decide) ?_
      exact g_iret (st := []) dX8_signOf_33 (fun e => by cases e) ⟨_, rfl, t⟩
    · have t := t.2 c4
      refine g_iload_n dX8_signOf_25 rfl ?_
      refine g_bipush (v := 48) dX8_signOf_26 (by decide) ?_
      refine g_isub dX8_signOf_28 ?_
      refine g_goto (tgt := 33) dX8_signOf_29 (by decide) ?_
      exact g_iret (st := []) dX8_signOf_33 (fun e => by cases e) ⟨_, rfl, t⟩
  · have t := t.2 c1
    refine g_bipush (v := 10) dX8_signOf_6 (by decide) ?_
    refine g_goto (tgt := 33) dX8_signOf_8 (by decide) ?_
    exact g_iret (st := []) dX8_signOf_33 (fun e => by cases e) ⟨_, rfl, t⟩
theorem w_X8_readDoor {Q : Int32 → tS → Prop} {S : tS} (p1 : Int32) (t : (tk_Ms mX8_nextByte [.ref 45] S (fun x1 S2 => (tk_Ms mX8_signOf [.ref 45, .int x1] S2 (fun x3 S4 => (vp_in p1 400 ∧ (vp_in p1 400 ∧ ((0 ≤ ((tk_up S4 55 p1.toNatClampNeg x3) 55 p1.toNatClampNeg) → (tk_Ms mX8_takes [.ref 45, .int 45] (tk_up (tk_up S4 55 p1.toNatClampNeg x3) 45 13 ((S4 45 13) + 1)) (fun x6 S7 => ((¬ x6 = 0 → (tk_Ms mX8_nextByte [.ref 45] S7 (fun x9 S10 => (tk_Ms mX8_signOf [.ref 45, .int x9] S10 (fun x11 S12 => (vp_in (p1 + 1) 400 ∧ (vp_in (p1 + 1) 400 ∧ ((((tk_up S12 55 (p1 + 1).toNatClampNeg x11) 55 (p1 + 1).toNatClampNeg) < 0 → (tk_okQ mX8_readDoor Q) 0 (tk_up S12 55 (p1 + 1).toNatClampNeg x11)) ∧ (¬ ((tk_up S12 55 (p1 + 1).toNatClampNeg x11) 55 (p1 + 1).toNatClampNeg) < 0 → (vp_in p1 400 ∧ (vp_in (p1 + 1) 400 ∧ (tk_Ms mX8_canJoin [.int ((tk_up S12 55 (p1 + 1).toNatClampNeg x11) 55 p1.toNatClampNeg), .int ((tk_up S12 55 (p1 + 1).toNatClampNeg x11) 55 (p1 + 1).toNatClampNeg)] (tk_up S12 55 (p1 + 1).toNatClampNeg x11) (fun x14 S15 => ((¬ x14 = 0 → (tk_Ms mX8_takes [.ref 45, .int 108] (tk_up S15 45 13 ((S15 45 13) + 1)) (fun x17 S18 => ((x17 = 0 → (vp_in (p1 + 2) 400 ∧ (vp_in (p1 + 2) 400 ∧ ((((tk_up S18 55 (p1 + 2).toNatClampNeg 8) 55 (p1 + 2).toNatClampNeg) < 0 → (tk_okQ mX8_readDoor Q) 0 (tk_up S18 55 (p1 + 2).toNatClampNeg 8)) ∧ (¬ ((tk_up S18 55 (p1 + 2).toNatClampNeg 8) 55 (p1 + 2).toNatClampNeg) < 0 → (tk_okQ mX8_readDoor Q) 1 (tk_up S18 55 (p1 + 2).toNatClampNeg 8)))))) ∧ (¬ x17 = 0 → (tk_Ms mX8_readDigit [.ref 45, .int 7] S18 (fun x21 S22 => (vp_in (p1 + 2) 400 ∧ (vp_in (p1 + 2) 400 ∧ ((((tk_up S22 55 (p1 + 2).toNatClampNeg x21) 55 (p1 + 2).toNatClampNeg) < 0 → (tk_okQ mX8_readDoor Q) 0 (tk_up S22 55 (p1 + 2).toNatClampNeg x21)) ∧ (¬ ((tk_up S22 55 (p1 + 2).toNatClampNeg x21) 55 (p1 + 2).toNatClampNeg) < 0 → (tk_okQ mX8_readDoor Q) 1 (tk_up S22 55 (p1 + 2).toNatClampNeg x21)))))))))))) ∧ (x14 = 0 → (tk_okQ mX8_readDoor Q) 0 S15))))))))))))))) ∧ (x6 = 0 → (tk_okQ mX8_readDoor Q) 0 S7))))) ∧ (¬ 0 ≤ ((tk_up S4 55 p1.toNatClampNeg x3) 55 p1.toNatClampNeg) → (tk_okQ mX8_readDoor Q) 0 (tk_up S4 55 p1.toNatClampNeg x3)))))))))) : tk_Ms mX8_readDoor [.ref 45, .int p1] S Q := by
  refine tk_Ms.of (ls := [.ref 45, .int p1]) (by decide) (by first | exact Or.inl rfl | exact Or.inr (Or.inl rfl) | exact Or.inr (Or.inr rfl)) (Nat.le_of_ble_eq_true rfl) rfl ?_
  refine g_aload_n dX8_readDoor_0 rfl ?_
  refine g_getR (n := 25) dX8_readDoor_1 fl_X8_37 rfl (by decide) (by decide) rfl rfl ?_
  refine g_iload_n dX8_readDoor_4 rfl ?_
  refine g_aload_n dX8_readDoor_5 rfl ?_
  refine g_aload_n dX8_readDoor_6 rfl ?_
  refine s_V0i dX8_readDoor_7 vm_X8_nextByte ml_X8_117 rfl rfl (by decide) (Nat.le_of_ble_eq_true rfl) rfl (tk_Ms.mono t (fun x1 S2 t => ?_))
  refine s_V1i dX8_readDoor_10 vm_X8_signOf ml_X8_125 rfl rfl (by decide) (Nat.le_of_ble_eq_true rfl) rfl (tk_Ms.mono t (fun x3 S4 t => ?_))
  refine g_iast (n := 400) dX8_readDoor_13 rfl t.1 ?_
  have t := t.2
  refine g_aload_n dX8_readDoor_14 rfl ?_
  refine g_getR (n := 25) dX8_readDoor_15 fl_X8_37 rfl (by decide) (by decide) rfl rfl ?_
  refine g_iload_n dX8_readDoor_18 rfl ?_
  refine g_iald (n := 400) dX8_readDoor_19 rfl t.1 ?_
  have t := t.2
  refine g_if_ge (tgt := 25) dX8_readDoor_20 (by decide) (fun c5 => ?_) (fun c5 => ?_)
  · have t := t.1 c5
    refine g_aload_n dX8_readDoor_25 rfl ?_
    refine g_dup dX8_readDoor_26 rfl ?_
    refine g_getI (n := 25) dX8_readDoor_27 fl_X8_114 rfl (by decide) (by decide) rfl ?_
    refine g_iconst (v := 1) dX8_readDoor_30 (by decide) ?_
    refine g_iadd dX8_readDoor_31 ?_
    refine g_putI (n := 25) dX8_readDoor_32 fl_X8_114 rfl (by decide) (by decide) rfl rfl rfl ?_
    refine g_aload_n dX8_readDoor_35 rfl ?_
    refine g_bipush (v := 45) dX8_readDoor_36 (by decide) ?_
    refine s_V1i dX8_readDoor_38 vm_X8_takes ml_X8_129 rfl rfl (by decide) (Nat.le_of_ble_eq_true rfl) rfl (tk_Ms.mono t (fun x6 S7 t => ?_))
    refine g_if_ne (tgt := 46) dX8_readDoor_41 (by decide) (fun c8 => ?_) (fun c8 => ?_)
    · have t := t.1 c8
      refine g_aload_n dX8_readDoor_46 rfl ?_
      refine g_getR (n := 25) dX8_readDoor_47 fl_X8_37 rfl (by decide) (by decide) rfl rfl ?_
      refine g_iload_n dX8_readDoor_50 rfl ?_
      refine g_iconst (v := 1) dX8_readDoor_51 (by decide) ?_
      refine g_iadd dX8_readDoor_52 ?_
      refine g_aload_n dX8_readDoor_53 rfl ?_
      refine g_aload_n dX8_readDoor_54 rfl ?_
      refine s_V0i dX8_readDoor_55 vm_X8_nextByte ml_X8_117 rfl rfl (by decide) (Nat.le_of_ble_eq_true rfl) rfl (tk_Ms.mono t (fun x9 S10 t => ?_))
      refine s_V1i dX8_readDoor_58 vm_X8_signOf ml_X8_125 rfl rfl (by decide) (Nat.le_of_ble_eq_true rfl) rfl (tk_Ms.mono t (fun x11 S12 t => ?_))
      refine g_iast (n := 400) dX8_readDoor_61 rfl t.1 ?_
      have t := t.2
      refine g_aload_n dX8_readDoor_62 rfl ?_
      refine g_getR (n := 25) dX8_readDoor_63 fl_X8_37 rfl (by decide) (by decide) rfl rfl ?_
      refine g_iload_n dX8_readDoor_66 rfl ?_
      refine g_iconst (v := 1) dX8_readDoor_67 (by decide) ?_
      refine g_iadd dX8_readDoor_68 ?_
      refine g_iald (n := 400) dX8_readDoor_69 rfl t.1 ?_
      have t := t.2
      refine g_if_lt (tgt := 93) dX8_readDoor_70 (by decide) (fun c13 => ?_) (fun c13 => ?_)
      · have t := t.1 c13
        refine g_iconst (v := 0) dX8_readDoor_93 (by decide) ?_
        exact g_iret (st := []) dX8_readDoor_94 (fun e => by cases e) ⟨_, rfl, t⟩
      · have t := t.2 c13
        refine g_aload_n dX8_readDoor_73 rfl ?_
        refine g_getR (n := 25) dX8_readDoor_74 fl_X8_37 rfl (by decide) (by decide) rfl rfl ?_
        refine g_iload_n dX8_readDoor_77 rfl ?_
        refine g_iald (n := 400) dX8_readDoor_78 rfl t.1 ?_
        have t := t.2
        refine g_aload_n dX8_readDoor_79 rfl ?_
        refine g_getR (n := 25) dX8_readDoor_80 fl_X8_37 rfl (by decide) (by decide) rfl rfl ?_
        refine g_iload_n dX8_readDoor_83 rfl ?_
        refine g_iconst (v := 1) dX8_readDoor_84 (by decide) ?_
        refine g_iadd dX8_readDoor_85 ?_
        refine g_iald (n := 400) dX8_readDoor_86 rfl t.1 ?_
        have t := t.2
        refine s_S2i dX8_readDoor_87 sm_X8_canJoin ml_X8_78 rfl (by decide) (Nat.le_of_ble_eq_true rfl) rfl (tk_Ms.mono t (fun x14 S15 t => ?_))
        refine g_if_ne (tgt := 95) dX8_readDoor_90 (by decide) (fun c16 => ?_) (fun c16 => ?_)
        · have t := t.1 c16
          refine g_aload_n dX8_readDoor_95 rfl ?_
          refine g_dup dX8_readDoor_96 rfl ?_
          refine g_getI (n := 25) dX8_readDoor_97 fl_X8_114 rfl (by decide) (by decide) rfl ?_
          refine g_iconst (v := 1) dX8_readDoor_100 (by decide) ?_
          refine g_iadd dX8_readDoor_101 ?_
          refine g_putI (n := 25) dX8_readDoor_102 fl_X8_114 rfl (by decide) (by decide) rfl rfl rfl ?_
          refine g_aload_n dX8_readDoor_105 rfl ?_
          refine g_getR (n := 25) dX8_readDoor_106 fl_X8_37 rfl (by decide) (by decide) rfl rfl ?_
          refine g_iload_n dX8_readDoor_109 rfl ?_
          refine g_iconst (v := 2) dX8_readDoor_110 (by decide) ?_
          refine g_iadd dX8_readDoor_111 ?_
          refine g_aload_n dX8_readDoor_112 rfl ?_
          refine g_bipush (v := 108) dX8_readDoor_113 (by decide) ?_
          refine s_V1i dX8_readDoor_115 vm_X8_takes ml_X8_129 rfl rfl (by decide) (Nat.le_of_ble_eq_true rfl) rfl (tk_Ms.mono t (fun x17 S18 t => ?_))
          refine g_if_eq (tgt := 130) dX8_readDoor_118 (by decide) (fun c19 => ?_) (fun c19 => ?_)
          · have t := t.1 c19
            refine g_bipush (v := 8) dX8_readDoor_130 (by decide) ?_
            refine g_iast (n := 400) dX8_readDoor_132 rfl t.1 ?_
            have t := t.2
            refine g_aload_n dX8_readDoor_133 rfl ?_
            refine g_getR (n := 25) dX8_readDoor_134 fl_X8_37 rfl (by decide) (by decide) rfl rfl ?_
            refine g_iload_n dX8_readDoor_137 rfl ?_
            refine g_iconst (v := 2) dX8_readDoor_138 (by decide) ?_
            refine g_iadd dX8_readDoor_139 ?_
            refine g_iald (n := 400) dX8_readDoor_140 rfl t.1 ?_
            have t := t.2
            refine g_if_lt (tgt := 148) dX8_readDoor_141 (by decide) (fun c20 => ?_) (fun c20 => ?_)
            · have t := t.1 c20
              refine g_iconst (v := 0) dX8_readDoor_148 (by decide) ?_
              exact g_iret (st := []) dX8_readDoor_149 (fun e => by cases e) ⟨_, rfl, t⟩
            · have t := t.2 c20
              refine g_iconst (v := 1) dX8_readDoor_144 (by decide) ?_
              refine g_goto (tgt := 149) dX8_readDoor_145 (by decide) ?_
              exact g_iret (st := []) dX8_readDoor_149 (fun e => by cases e) ⟨_, rfl, t⟩
          · have t := t.2 c19
            refine g_aload_n dX8_readDoor_121 rfl ?_
            refine g_bipush (v := 7) dX8_readDoor_122 (by decide) ?_
            refine s_V1i dX8_readDoor_124 vm_X8_readDigit ml_X8_132 rfl rfl (by decide) (Nat.le_of_ble_eq_true rfl) rfl (tk_Ms.mono t (fun x21 S22 t => ?_))
            refine g_goto (tgt := 132) dX8_readDoor_127 (by decide) ?_
            refine g_iast (n := 400) dX8_readDoor_132 rfl t.1 ?_
            have t := t.2
            refine g_aload_n dX8_readDoor_133 rfl ?_
            refine g_getR (n := 25) dX8_readDoor_134 fl_X8_37 rfl (by decide) (by decide) rfl rfl ?_
            refine g_iload_n dX8_readDoor_137 rfl ?_
            refine g_iconst (v := 2) dX8_readDoor_138 (by decide) ?_
            refine g_iadd dX8_readDoor_139 ?_
            refine g_iald (n := 400) dX8_readDoor_140 rfl t.1 ?_
            have t := t.2
            refine g_if_lt (tgt := 148) dX8_readDoor_141 (by decide) (fun c23 => ?_) (fun c23 => ?_)
            · have t := t.1 c23
              refine g_iconst (v := 0) dX8_readDoor_148 (by decide) ?_
              exact g_iret (st := []) dX8_readDoor_149 (fun e => by cases e) ⟨_, rfl, t⟩
            · have t := t.2 c23
              refine g_iconst (v := 1) dX8_readDoor_144 (by decide) ?_
              refine g_goto (tgt := 149) dX8_readDoor_145 (by decide) ?_
              exact g_iret (st := []) dX8_readDoor_149 (fun e => by cases e) ⟨_, rfl, t⟩
        · have t := t.2 c16
          refine g_iconst (v := 0) dX8_readDoor_93 (by decide) ?_
          exact g_iret (st := []) dX8_readDoor_94 (fun e => by cases e) ⟨_, rfl, t⟩
    · have t := t.2 c8
      refine g_iconst (v := 0) dX8_readDoor_44 (by decide) ?_
      exact g_iret (st := []) dX8_readDoor_45 (fun e => by cases e) ⟨_, rfl, t⟩
  · have t := t.2 c5
    refine g_iconst (v := 0) dX8_readDoor_23 (by decide) ?_
    exact g_iret (st := []) dX8_readDoor_24 (fun e => by cases e) ⟨_, rfl, t⟩
theorem w_X8_readHouse {Q : Int32 → tS → Prop} {S : tS}  (t : tk_Gs mX8_readHouse none 7 [.ref 45, .int 0, .null] [] (tk_up S 45 13 0) (tk_okQ mX8_readHouse Q)) : tk_Ms mX8_readHouse [.ref 45] S Q := by
  refine tk_Ms.of (ls := [.ref 45, .null, .null]) (by decide) (by first | exact Or.inl rfl | exact Or.inr (Or.inl rfl) | exact Or.inr (Or.inr rfl)) (Nat.le_of_ble_eq_true rfl) rfl ?_
  refine g_aload_n dX8_readHouse_0 rfl ?_
  refine g_iconst (v := 0) dX8_readHouse_1 (by decide) ?_
  refine g_putI (n := 25) dX8_readHouse_2 fl_X8_114 rfl (by decide) (by decide) rfl rfl rfl ?_
  refine g_iconst (v := 0) dX8_readHouse_5 (by decide) ?_
  refine g_istore_n (ls' := [.ref 45, .int 0, .null]) dX8_readHouse_6 rfl (by decide) rfl ?_
  exact t
theorem w_X8_readHouse_7 {Q : Int32 → tS → Prop} {S : tS} (l1 : Int32)  (t : ((16 ≤ l1 → Q 0 S) ∧ (¬ 16 ≤ l1 → (tk_Ms mX8_readDoor [.ref 45, .int (3 * l1)] S (fun x2 S3 => ((¬ x2 = 0 → (tk_Ms mX8_nextByte [.ref 45] (tk_up S3 45 14 (l1 + 1)) (fun x5 S6 => ((0 ≤ x5 → ((¬ x5 = 44 → Q 0 S6) ∧ (x5 = 44 → ((¬ l1 = 15 → tk_Gs mX8_readHouse none 7 [.ref 45, .int (l1 + 1), .null] [] (tk_up S6 45 13 ((S6 45 13) + 1)) Q) ∧ (l1 = 15 → Q 0 S6))))) ∧ (¬ 0 ≤ x5 → Q 1 S6))))) ∧ (x2 = 0 → Q 0 S3))))))) : tk_Gs mX8_readHouse none 7 [.ref 45, .int l1, .null] [] S Q := by
  show tk_G _ 0 0 _ _ _ _ (tkSH, S, tkRF) _
  refine g_iload_n dX8_readHouse_7 rfl ?_
  refine g_bipush (v := 16) dX8_readHouse_8 (by decide) ?_
  refine g_icmp_ge (tgt := 73) dX8_readHouse_10 (by decide) (fun c1 => ?_) (fun c1 => ?_)
  · have t := t.1 c1
    refine g_iconst (v := 0) dX8_readHouse_73 (by decide) ?_
    exact g_iret (st := []) dX8_readHouse_74 (fun e => by cases e) ⟨_, rfl, t⟩
  · have t := t.2 c1
    refine g_aload_n dX8_readHouse_13 rfl ?_
    refine g_iconst (v := 3) dX8_readHouse_14 (by decide) ?_
    refine g_iload_n dX8_readHouse_15 rfl ?_
    refine g_imul dX8_readHouse_16 ?_
    refine s_V1i dX8_readHouse_17 vm_X8_readDoor ml_X8_135 rfl rfl (by decide) (Nat.le_of_ble_eq_true rfl) rfl (tk_Ms.mono t (fun x2 S3 t => ?_))
    refine g_if_ne (tgt := 25) dX8_readHouse_20 (by decide) (fun c4 => ?_) (fun c4 => ?_)
    · have t := t.1 c4
      refine g_aload_n dX8_readHouse_25 rfl ?_
      refine g_iload_n dX8_readHouse_26 rfl ?_
      refine g_iconst (v := 1) dX8_readHouse_27 (by decide) ?_
      refine g_iadd dX8_readHouse_28 ?_
      refine g_putI (n := 25) dX8_readHouse_29 fl_X8_138 rfl (by decide) (by decide) rfl rfl rfl ?_
      refine g_aload_n dX8_readHouse_32 rfl ?_
      refine s_V0i dX8_readHouse_33 vm_X8_nextByte ml_X8_117 rfl rfl (by decide) (Nat.le_of_ble_eq_true rfl) rfl (tk_Ms.mono t (fun x5 S6 t => ?_))
      refine g_istore_n (ls' := [.ref 45, .int l1, .int x5]) dX8_readHouse_36 rfl (by decide) rfl ?_
      refine g_iload_n dX8_readHouse_37 rfl ?_
      refine g_if_ge (tgt := 43) dX8_readHouse_38 (by decide) (fun c7 => ?_) (fun c7 => ?_)
      · have t := t.1 c7
        refine g_iload_n dX8_readHouse_43 rfl ?_
        refine g_bipush (v := 44) dX8_readHouse_44 (by decide) ?_
        refine g_icmp_ne (tgt := 55) dX8_readHouse_46 (by decide) (fun c8 => ?_) (fun c8 => ?_)
        · have t := t.1 c8
          refine g_iconst (v := 0) dX8_readHouse_55 (by decide) ?_
          exact g_iret (st := []) dX8_readHouse_56 (fun e => by cases e) ⟨_, rfl, t⟩
        · have t := t.2 c8
          refine g_iload_n dX8_readHouse_49 rfl ?_
          refine g_bipush (v := 15) dX8_readHouse_50 (by decide) ?_
          refine g_icmp_ne (tgt := 57) dX8_readHouse_52 (by decide) (fun c9 => ?_) (fun c9 => ?_)
          · have t := t.1 c9
            refine g_aload_n dX8_readHouse_57 rfl ?_
            refine g_dup dX8_readHouse_58 rfl ?_
            refine g_getI (n := 25) dX8_readHouse_59 fl_X8_114 rfl (by decide) (by decide) rfl ?_
            refine g_iconst (v := 1) dX8_readHouse_62 (by decide) ?_
            refine g_iadd dX8_readHouse_63 ?_
            refine g_putI (n := 25) dX8_readHouse_64 fl_X8_114 rfl (by decide) (by decide) rfl rfl rfl ?_
            refine g_iinc (v := l1 + 1) (ls' := [.ref 45, .int (l1 + 1), .int x5]) dX8_readHouse_67 rfl rfl (by decide) rfl rfl ?_
            refine g_goto (tgt := 7) dX8_readHouse_70 (by decide) ?_
            refine g_drop (ls' := [.ref 45, .int (l1 + 1), .null]) ⟨Or.inl rfl, Or.inl rfl, Or.inr rfl, trivial⟩ ?_
            exact t
          · have t := t.2 c9
            refine g_iconst (v := 0) dX8_readHouse_55 (by decide) ?_
            exact g_iret (st := []) dX8_readHouse_56 (fun e => by cases e) ⟨_, rfl, t⟩
      · have t := t.2 c7
        refine g_iconst (v := 1) dX8_readHouse_41 (by decide) ?_
        exact g_iret (st := []) dX8_readHouse_42 (fun e => by cases e) ⟨_, rfl, t⟩
    · have t := t.2 c4
      refine g_iconst (v := 0) dX8_readHouse_23 (by decide) ?_
      exact g_iret (st := []) dX8_readHouse_24 (fun e => by cases e) ⟨_, rfl, t⟩
theorem w_X8_end {Q : Int32 → tS → Prop} {S : tS} (p1 : Int32) (t : ((¬ p1 = 0 → ((p1 = 0 → (tk_okQ mX8_end Q) ((-20) - (S 45 13)) (tk_up S 45 12 0)) ∧ (¬ p1 = 0 → (tk_okQ mX8_end Q) 0 (tk_up S 45 12 0)))) ∧ (p1 = 0 → (tk_Ms mX8_nextByte [.ref 45] S (fun x3 S4 => ((p1 = 0 → (tk_okQ mX8_end Q) ((-20) - (S4 45 13)) (tk_up S4 45 12 0)) ∧ (¬ p1 = 0 → (tk_okQ mX8_end Q) 0 (tk_up S4 45 12 0)))))))) : tk_Ms mX8_end [.ref 45, .int p1] S Q := by
  refine tk_Ms.of (ls := [.ref 45, .int p1]) (by decide) (by first | exact Or.inl rfl | exact Or.inr (Or.inl rfl) | exact Or.inr (Or.inr rfl)) (Nat.le_of_ble_eq_true rfl) rfl ?_
  refine g_iload_n dX8_end_0 rfl ?_
  refine g_if_ne (tgt := 9) dX8_end_1 (by decide) (fun c1 => ?_) (fun c1 => ?_)
  · have t := t.1 c1
    refine g_aload_n dX8_end_9 rfl ?_
    refine g_iconst (v := 0) dX8_end_10 (by decide) ?_
    refine g_putI (n := 25) dX8_end_11 fl_X8_111 rfl (by decide) (by decide) rfl rfl rfl ?_
    refine g_iload_n dX8_end_14 rfl ?_
    refine g_if_eq (tgt := 22) dX8_end_15 (by decide) (fun c2 => ?_) (fun c2 => ?_)
    · have t := t.1 c2
      refine g_bipush (v := (-20)) dX8_end_22 (by decide) ?_
      refine g_aload_n dX8_end_24 rfl ?_
      refine g_getI (n := 25) dX8_end_25 fl_X8_114 rfl (by decide) (by decide) rfl ?_
      refine g_isub dX8_end_28 ?_
      exact g_iret (st := []) dX8_end_29 (fun e => by cases e) ⟨_, rfl, t⟩
    · have t := t.2 c2
      refine g_iconst (v := 0) dX8_end_18 (by decide) ?_
      refine g_goto (tgt := 29) dX8_end_19 (by decide) ?_
      exact g_iret (st := []) dX8_end_29 (fun e => by cases e) ⟨_, rfl, t⟩
  · have t := t.2 c1
    refine g_aload_n dX8_end_4 rfl ?_
    refine s_V0i dX8_end_5 vm_X8_nextByte ml_X8_117 rfl rfl (by decide) (Nat.le_of_ble_eq_true rfl) rfl (tk_Ms.mono t (fun x3 S4 t => ?_))
    refine g_pop dX8_end_8 rfl ?_
    refine g_aload_n dX8_end_9 rfl ?_
    refine g_iconst (v := 0) dX8_end_10 (by decide) ?_
    refine g_putI (n := 25) dX8_end_11 fl_X8_111 rfl (by decide) (by decide) rfl rfl rfl ?_
    refine g_iload_n dX8_end_14 rfl ?_
    refine g_if_eq (tgt := 22) dX8_end_15 (by decide) (fun c5 => ?_) (fun c5 => ?_)
    · have t := t.1 c5
      refine g_bipush (v := (-20)) dX8_end_22 (by decide) ?_
      refine g_aload_n dX8_end_24 rfl ?_
      refine g_getI (n := 25) dX8_end_25 fl_X8_114 rfl (by decide) (by decide) rfl ?_
      refine g_isub dX8_end_28 ?_
      exact g_iret (st := []) dX8_end_29 (fun e => by cases e) ⟨_, rfl, t⟩
    · have t := t.2 c5
      refine g_iconst (v := 0) dX8_end_18 (by decide) ?_
      refine g_goto (tgt := 29) dX8_end_19 (by decide) ?_
      exact g_iret (st := []) dX8_end_29 (fun e => by cases e) ⟨_, rfl, t⟩
theorem w_X8_house {Q : Int32 → tS → Prop} {S : tS}  (t : (tk_Ms mX8_readHouse [.ref 45] S (fun x1 S2 => (tk_Ms mX8_end [.ref 45, .int x1] S2 (fun x3 S4 => ((0 ≤ x3 → tk_Gs mX8_house none 25 [.ref 45, .int x3, .int 0] [] (tk_up S4 45 3 (S4 45 14)) (tk_okQ mX8_house Q)) ∧ (¬ 0 ≤ x3 → (tk_okQ mX8_house Q) x3 S4))))))) : tk_Ms mX8_house [.ref 45] S Q := by
  refine tk_Ms.of (ls := [.ref 45, .null, .null]) (by decide) (by first | exact Or.inl rfl | exact Or.inr (Or.inl rfl) | exact Or.inr (Or.inr rfl)) (Nat.le_of_ble_eq_true rfl) rfl ?_
  refine g_aload_n dX8_house_0 rfl ?_
  refine g_aload_n dX8_house_1 rfl ?_
  refine s_V0i dX8_house_2 vm_X8_readHouse ml_X8_141 rfl rfl (by decide) (Nat.le_of_ble_eq_true rfl) rfl (tk_Ms.mono t (fun x1 S2 t => ?_))
  refine s_V1i dX8_house_5 vm_X8_end ml_X8_145 rfl rfl (by decide) (Nat.le_of_ble_eq_true rfl) rfl (tk_Ms.mono t (fun x3 S4 t => ?_))
  refine g_istore_n (ls' := [.ref 45, .int x3, .null]) dX8_house_8 rfl (by decide) rfl ?_
  refine g_iload_n dX8_house_9 rfl ?_
  refine g_if_ge (tgt := 15) dX8_house_10 (by decide) (fun c5 => ?_) (fun c5 => ?_)
  · have t := t.1 c5
    refine g_aload_n dX8_house_15 rfl ?_
    refine g_aload_n dX8_house_16 rfl ?_
    refine g_getI (n := 25) dX8_house_17 fl_X8_138 rfl (by decide) (by decide) rfl ?_
    refine g_putI (n := 25) dX8_house_20 fl_X8_84 rfl (by decide) (by decide) rfl rfl rfl ?_
    refine g_iconst (v := 0) dX8_house_23 (by decide) ?_
    refine g_istore_n (ls' := [.ref 45, .int x3, .int 0]) dX8_house_24 rfl (by decide) rfl ?_
    exact t
  · have t := t.2 c5
    refine g_iload_n dX8_house_13 rfl ?_
    exact g_iret (st := []) dX8_house_14 (fun e => by cases e) ⟨_, rfl, t⟩
theorem w_X8_house_25 {Q : Int32 → tS → Prop} {S : tS} (l1 : Int32) (l2 : Int32)  (t : (((S 45 3) ≤ l2 → Q (S 45 3) S) ∧ (¬ (S 45 3) ≤ l2 → (vp_in (3 * l2) 400 ∧ (vp_in l2 17 ∧ (vp_in ((3 * l2) + 1) 400 ∧ (vp_in l2 17 ∧ (vp_in ((3 * l2) + 2) 400 ∧ (vp_in l2 17 ∧ tk_Gs mX8_house none 25 [.ref 45, .int l1, .int (l2 + 1)] [] (tk_up (tk_up (tk_up S 46 l2.toNatClampNeg (S 55 (3 * l2).toNatClampNeg)) 47 l2.toNatClampNeg (S 55 ((3 * l2) + 1).toNatClampNeg)) 48 l2.toNatClampNeg (S 55 ((3 * l2) + 2).toNatClampNeg)) Q))))))))) : tk_Gs mX8_house none 25 [.ref 45, .int l1, .int l2] [] S Q := by
  show tk_G _ 0 0 _ _ _ _ (tkSH, S, tkRF) _
  refine g_iload_n dX8_house_25 rfl ?_
  refine g_aload_n dX8_house_26 rfl ?_
  refine g_getI (n := 25) dX8_house_27 fl_X8_84 rfl (by decide) (by decide) rfl ?_
  refine g_icmp_ge (tgt := 85) dX8_house_30 (by decide) (fun c1 => ?_) (fun c1 => ?_)
  · have t := t.1 c1
    refine g_aload_n dX8_house_85 rfl ?_
    refine g_getI (n := 25) dX8_house_86 fl_X8_84 rfl (by decide) (by decide) rfl ?_
    exact g_iret (st := []) dX8_house_89 (fun e => by cases e) ⟨_, rfl, t⟩
  · have t := t.2 c1
    refine g_aload_n dX8_house_33 rfl ?_
    refine g_getR (n := 25) dX8_house_34 fl_X8_7 rfl (by decide) (by decide) rfl rfl ?_
    refine g_iload_n dX8_house_37 rfl ?_
    refine g_aload_n dX8_house_38 rfl ?_
    refine g_getR (n := 25) dX8_house_39 fl_X8_37 rfl (by decide) (by decide) rfl rfl ?_
    refine g_iconst (v := 3) dX8_house_42 (by decide) ?_
    refine g_iload_n dX8_house_43 rfl ?_
    refine g_imul dX8_house_44 ?_
    refine g_iald (n := 400) dX8_house_45 rfl t.1 ?_
    have t := t.2
    refine g_iast (n := 17) dX8_house_46 rfl t.1 ?_
    have t := t.2
    refine g_aload_n dX8_house_47 rfl ?_
    refine g_getR (n := 25) dX8_house_48 fl_X8_13 rfl (by decide) (by decide) rfl rfl ?_
    refine g_iload_n dX8_house_51 rfl ?_
    refine g_aload_n dX8_house_52 rfl ?_
    refine g_getR (n := 25) dX8_house_53 fl_X8_37 rfl (by decide) (by decide) rfl rfl ?_
    refine g_iconst (v := 3) dX8_house_56 (by decide) ?_
    refine g_iload_n dX8_house_57 rfl ?_
    refine g_imul dX8_house_58 ?_
    refine g_iconst (v := 1) dX8_house_59 (by decide) ?_
    refine g_iadd dX8_house_60 ?_
    refine g_iald (n := 400) dX8_house_61 rfl t.1 ?_
    have t := t.2
    refine g_iast (n := 17) dX8_house_62 rfl t.1 ?_
    have t := t.2
    refine g_aload_n dX8_house_63 rfl ?_
    refine g_getR (n := 25) dX8_house_64 fl_X8_16 rfl (by decide) (by decide) rfl rfl ?_
    refine g_iload_n dX8_house_67 rfl ?_
    refine g_aload_n dX8_house_68 rfl ?_
    refine g_getR (n := 25) dX8_house_69 fl_X8_37 rfl (by decide) (by decide) rfl rfl ?_
    refine g_iconst (v := 3) dX8_house_72 (by decide) ?_
    refine g_iload_n dX8_house_73 rfl ?_
    refine g_imul dX8_house_74 ?_
    refine g_iconst (v := 2) dX8_house_75 (by decide) ?_
    refine g_iadd dX8_house_76 ?_
    refine g_iald (n := 400) dX8_house_77 rfl t.1 ?_
    have t := t.2
    refine g_iast (n := 17) dX8_house_78 rfl t.1 ?_
    have t := t.2
    refine g_iinc (v := l2 + 1) (ls' := [.ref 45, .int l1, .int (l2 + 1)]) dX8_house_79 rfl rfl (by decide) rfl rfl ?_
    refine g_goto (tgt := 25) dX8_house_82 (by decide) ?_
    exact t
theorem w_X8_readVisit {Q : Int32 → tS → Prop} {S : tS} (p1 : Int32) (t : (tk_Ms mX8_readDigit [.ref 45, .int 3] S (fun x1 S2 => (vp_in (p1 + 1) 400 ∧ (vp_in (p1 + 1) 400 ∧ ((((tk_up S2 55 (p1 + 1).toNatClampNeg x1) 55 (p1 + 1).toNatClampNeg) < 0 → (tk_okQ mX8_readVisit Q) 0 (tk_up S2 55 (p1 + 1).toNatClampNeg x1)) ∧ (¬ ((tk_up S2 55 (p1 + 1).toNatClampNeg x1) 55 (p1 + 1).toNatClampNeg) < 0 → (tk_Ms mX8_takes [.ref 45, .int 62] (tk_up S2 55 (p1 + 1).toNatClampNeg x1) (fun x4 S5 => ((¬ x4 = 0 → (tk_Ms mX8_readDigit [.ref 45, .int 9] S5 (fun x7 S8 => (vp_in (p1 + 2) 400 ∧ (vp_in (p1 + 2) 400 ∧ ((((tk_up S8 55 (p1 + 2).toNatClampNeg x7) 55 (p1 + 2).toNatClampNeg) < 0 → (tk_okQ mX8_readVisit Q) 0 (tk_up S8 55 (p1 + 2).toNatClampNeg x7)) ∧ (¬ ((tk_up S8 55 (p1 + 2).toNatClampNeg x7) 55 (p1 + 2).toNatClampNeg) < 0 → (tk_Ms mX8_takes [.ref 45, .int 58] (tk_up S8 55 (p1 + 2).toNatClampNeg x7) (fun x10 S11 => ((¬ x10 = 0 → (tk_Ms mX8_readMinutes [.ref 45] S11 (fun x13 S14 => (vp_in (p1 + 3) 400 ∧ (vp_in (p1 + 3) 400 ∧ ((((tk_up S14 55 (p1 + 3).toNatClampNeg x13) 55 (p1 + 3).toNatClampNeg) < 0 → (tk_okQ mX8_readVisit Q) 0 (tk_up S14 55 (p1 + 3).toNatClampNeg x13)) ∧ (¬ ((tk_up S14 55 (p1 + 3).toNatClampNeg x13) 55 (p1 + 3).toNatClampNeg) < 0 → (tk_okQ mX8_readVisit Q) 1 (tk_up S14 55 (p1 + 3).toNatClampNeg x13)))))))) ∧ (x10 = 0 → (tk_okQ mX8_readVisit Q) 0 S11))))))))))) ∧ (x4 = 0 → (tk_okQ mX8_readVisit Q) 0 S5))))))))))) : tk_Ms mX8_readVisit [.ref 45, .int p1] S Q := by
  refine tk_Ms.of (ls := [.ref 45, .int p1]) (by decide) (by first | exact Or.inl rfl | exact Or.inr (Or.inl rfl) | exact Or.inr (Or.inr rfl)) (Nat.le_of_ble_eq_true rfl) rfl ?_
  refine g_aload_n dX8_readVisit_0 rfl ?_
  refine g_getR (n := 25) dX8_readVisit_1 fl_X8_37 rfl (by decide) (by decide) rfl rfl ?_
  refine g_iload_n dX8_readVisit_4 rfl ?_
  refine g_iconst (v := 1) dX8_readVisit_5 (by decide) ?_
  refine g_iadd dX8_readVisit_6 ?_
  refine g_aload_n dX8_readVisit_7 rfl ?_
  refine g_iconst (v := 3) dX8_readVisit_8 (by decide) ?_
  refine s_V1i dX8_readVisit_9 vm_X8_readDigit ml_X8_132 rfl rfl (by decide) (Nat.le_of_ble_eq_true rfl) rfl (tk_Ms.mono t (fun x1 S2 t => ?_))
  refine g_iast (n := 400) dX8_readVisit_12 rfl t.1 ?_
  have t := t.2
  refine g_aload_n dX8_readVisit_13 rfl ?_
  refine g_getR (n := 25) dX8_readVisit_14 fl_X8_37 rfl (by decide) (by decide) rfl rfl ?_
  refine g_iload_n dX8_readVisit_17 rfl ?_
  refine g_iconst (v := 1) dX8_readVisit_18 (by decide) ?_
  refine g_iadd dX8_readVisit_19 ?_
  refine g_iald (n := 400) dX8_readVisit_20 rfl t.1 ?_
  have t := t.2
  refine g_if_lt (tgt := 33) dX8_readVisit_21 (by decide) (fun c3 => ?_) (fun c3 => ?_)
  · have t := t.1 c3
    refine g_iconst (v := 0) dX8_readVisit_33 (by decide) ?_
    exact g_iret (st := []) dX8_readVisit_34 (fun e => by cases e) ⟨_, rfl, t⟩
  · have t := t.2 c3
    refine g_aload_n dX8_readVisit_24 rfl ?_
    refine g_bipush (v := 62) dX8_readVisit_25 (by decide) ?_
    refine s_V1i dX8_readVisit_27 vm_X8_takes ml_X8_129 rfl rfl (by decide) (Nat.le_of_ble_eq_true rfl) rfl (tk_Ms.mono t (fun x4 S5 t => ?_))
    refine g_if_ne (tgt := 35) dX8_readVisit_30 (by decide) (fun c6 => ?_) (fun c6 => ?_)
    · have t := t.1 c6
      refine g_aload_n dX8_readVisit_35 rfl ?_
      refine g_getR (n := 25) dX8_readVisit_36 fl_X8_37 rfl (by decide) (by decide) rfl rfl ?_
      refine g_iload_n dX8_readVisit_39 rfl ?_
      refine g_iconst (v := 2) dX8_readVisit_40 (by decide) ?_
      refine g_iadd dX8_readVisit_41 ?_
      refine g_aload_n dX8_readVisit_42 rfl ?_
      refine g_bipush (v := 9) dX8_readVisit_43 (by decide) ?_
      refine s_V1i dX8_readVisit_45 vm_X8_readDigit ml_X8_132 rfl rfl (by decide) (Nat.le_of_ble_eq_true rfl) rfl (tk_Ms.mono t (fun x7 S8 t => ?_))
      refine g_iast (n := 400) dX8_readVisit_48 rfl t.1 ?_
      have t := t.2
      refine g_aload_n dX8_readVisit_49 rfl ?_
      refine g_getR (n := 25) dX8_readVisit_50 fl_X8_37 rfl (by decide) (by decide) rfl rfl ?_
      refine g_iload_n dX8_readVisit_53 rfl ?_
      refine g_iconst (v := 2) dX8_readVisit_54 (by decide) ?_
      refine g_iadd dX8_readVisit_55 ?_
      refine g_iald (n := 400) dX8_readVisit_56 rfl t.1 ?_
      have t := t.2
      refine g_if_lt (tgt := 69) dX8_readVisit_57 (by decide) (fun c9 => ?_) (fun c9 => ?_)
      · have t := t.1 c9
        refine g_iconst (v := 0) dX8_readVisit_69 (by decide) ?_
        exact g_iret (st := []) dX8_readVisit_70 (fun e => by cases e) ⟨_, rfl, t⟩
      · have t := t.2 c9
        refine g_aload_n dX8_readVisit_60 rfl ?_
        refine g_bipush (v := 58) dX8_readVisit_61 (by decide) ?_
        refine s_V1i dX8_readVisit_63 vm_X8_takes ml_X8_129 rfl rfl (by decide) (Nat.le_of_ble_eq_true rfl) rfl (tk_Ms.mono t (fun x10 S11 t => ?_))
        refine g_if_ne (tgt := 71) dX8_readVisit_66 (by decide) (fun c12 => ?_) (fun c12 => ?_)
        · have t := t.1 c12
          refine g_aload_n dX8_readVisit_71 rfl ?_
          refine g_getR (n := 25) dX8_readVisit_72 fl_X8_37 rfl (by decide) (by decide) rfl rfl ?_
          refine g_iload_n dX8_readVisit_75 rfl ?_
          refine g_iconst (v := 3) dX8_readVisit_76 (by decide) ?_
          refine g_iadd dX8_readVisit_77 ?_
          refine g_aload_n dX8_readVisit_78 rfl ?_
          refine s_V0i dX8_readVisit_79 vm_X8_readMinutes ml_X8_149 rfl rfl (by decide) (Nat.le_of_ble_eq_true rfl) rfl (tk_Ms.mono t (fun x13 S14 t => ?_))
          refine g_iast (n := 400) dX8_readVisit_82 rfl t.1 ?_
          have t := t.2
          refine g_aload_n dX8_readVisit_83 rfl ?_
          refine g_getR (n := 25) dX8_readVisit_84 fl_X8_37 rfl (by decide) (by decide) rfl rfl ?_
          refine g_iload_n dX8_readVisit_87 rfl ?_
          refine g_iconst (v := 3) dX8_readVisit_88 (by decide) ?_
          refine g_iadd dX8_readVisit_89 ?_
          refine g_iald (n := 400) dX8_readVisit_90 rfl t.1 ?_
          have t := t.2
          refine g_if_lt (tgt := 98) dX8_readVisit_91 (by decide) (fun c15 => ?_) (fun c15 => ?_)
          · have t := t.1 c15
            refine g_iconst (v := 0) dX8_readVisit_98 (by decide) ?_
            exact g_iret (st := []) dX8_readVisit_99 (fun e => by cases e) ⟨_, rfl, t⟩
          · have t := t.2 c15
            refine g_iconst (v := 1) dX8_readVisit_94 (by decide) ?_
            refine g_goto (tgt := 99) dX8_readVisit_95 (by decide) ?_
            exact g_iret (st := []) dX8_readVisit_99 (fun e => by cases e) ⟨_, rfl, t⟩
        · have t := t.2 c12
          refine g_iconst (v := 0) dX8_readVisit_69 (by decide) ?_
          exact g_iret (st := []) dX8_readVisit_70 (fun e => by cases e) ⟨_, rfl, t⟩
    · have t := t.2 c6
      refine g_iconst (v := 0) dX8_readVisit_33 (by decide) ?_
      exact g_iret (st := []) dX8_readVisit_34 (fun e => by cases e) ⟨_, rfl, t⟩
theorem w_X8_readWash {Q : Int32 → tS → Prop} {S : tS} (p1 : Int32) (t : (tk_Ms mX8_readDigit [.ref 45, .int 3] S (fun x1 S2 => (vp_in (p1 + 1) 400 ∧ (vp_in (p1 + 1) 400 ∧ ((0 ≤ ((tk_up S2 55 (p1 + 1).toNatClampNeg x1) 55 (p1 + 1).toNatClampNeg) → (tk_Ms mX8_readDigit [.ref 45, .int ((S2 45 9) - 1)] (tk_up S2 55 (p1 + 1).toNatClampNeg x1) (fun x4 S5 => (vp_in (p1 + 2) 400 ∧ (vp_in (p1 + 2) 400 ∧ ((((tk_up S5 55 (p1 + 2).toNatClampNeg x4) 55 (p1 + 2).toNatClampNeg) < 0 → (tk_okQ mX8_readWash Q) 0 (tk_up S5 55 (p1 + 2).toNatClampNeg x4)) ∧ (¬ ((tk_up S5 55 (p1 + 2).toNatClampNeg x4) 55 (p1 + 2).toNatClampNeg) < 0 → (tk_okQ mX8_readWash Q) 1 (tk_up S5 55 (p1 + 2).toNatClampNeg x4)))))))) ∧ (¬ 0 ≤ ((tk_up S2 55 (p1 + 1).toNatClampNeg x1) 55 (p1 + 1).toNatClampNeg) → (tk_okQ mX8_readWash Q) 0 (tk_up S2 55 (p1 + 1).toNatClampNeg x1)))))))) : tk_Ms mX8_readWash [.ref 45, .int p1] S Q := by
  refine tk_Ms.of (ls := [.ref 45, .int p1]) (by decide) (by first | exact Or.inl rfl | exact Or.inr (Or.inl rfl) | exact Or.inr (Or.inr rfl)) (Nat.le_of_ble_eq_true rfl) rfl ?_
  refine g_aload_n dX8_readWash_0 rfl ?_
  refine g_getR (n := 25) dX8_readWash_1 fl_X8_37 rfl (by decide) (by decide) rfl rfl ?_
  refine g_iload_n dX8_readWash_4 rfl ?_
  refine g_iconst (v := 1) dX8_readWash_5 (by decide) ?_
  refine g_iadd dX8_readWash_6 ?_
  refine g_aload_n dX8_readWash_7 rfl ?_
  refine g_iconst (v := 3) dX8_readWash_8 (by decide) ?_
  refine s_V1i dX8_readWash_9 vm_X8_readDigit ml_X8_132 rfl rfl (by decide) (Nat.le_of_ble_eq_true rfl) rfl (tk_Ms.mono t (fun x1 S2 t => ?_))
  refine g_iast (n := 400) dX8_readWash_12 rfl t.1 ?_
  have t := t.2
  refine g_aload_n dX8_readWash_13 rfl ?_
  refine g_getR (n := 25) dX8_readWash_14 fl_X8_37 rfl (by decide) (by decide) rfl rfl ?_
  refine g_iload_n dX8_readWash_17 rfl ?_
  refine g_iconst (v := 1) dX8_readWash_18 (by decide) ?_
  refine g_iadd dX8_readWash_19 ?_
  refine g_iald (n := 400) dX8_readWash_20 rfl t.1 ?_
  have t := t.2
  refine g_if_ge (tgt := 26) dX8_readWash_21 (by decide) (fun c3 => ?_) (fun c3 => ?_)
  · have t := t.1 c3
    refine g_aload_n dX8_readWash_26 rfl ?_
    refine g_getR (n := 25) dX8_readWash_27 fl_X8_37 rfl (by decide) (by decide) rfl rfl ?_
    refine g_iload_n dX8_readWash_30 rfl ?_
    refine g_iconst (v := 2) dX8_readWash_31 (by decide) ?_
    refine g_iadd dX8_readWash_32 ?_
    refine g_aload_n dX8_readWash_33 rfl ?_
    refine g_aload_n dX8_readWash_34 rfl ?_
    refine g_getI (n := 25) dX8_readWash_35 fl_X8_70 rfl (by decide) (by decide) rfl ?_
    refine g_iconst (v := 1) dX8_readWash_38 (by decide) ?_
    refine g_isub dX8_readWash_39 ?_
    refine s_V1i dX8_readWash_40 vm_X8_readDigit ml_X8_132 rfl rfl (by decide) (Nat.le_of_ble_eq_true rfl) rfl (tk_Ms.mono t (fun x4 S5 t => ?_))
    refine g_iast (n := 400) dX8_readWash_43 rfl t.1 ?_
    have t := t.2
    refine g_aload_n dX8_readWash_44 rfl ?_
    refine g_getR (n := 25) dX8_readWash_45 fl_X8_37 rfl (by decide) (by decide) rfl rfl ?_
    refine g_iload_n dX8_readWash_48 rfl ?_
    refine g_iconst (v := 2) dX8_readWash_49 (by decide) ?_
    refine g_iadd dX8_readWash_50 ?_
    refine g_iald (n := 400) dX8_readWash_51 rfl t.1 ?_
    have t := t.2
    refine g_if_lt (tgt := 59) dX8_readWash_52 (by decide) (fun c6 => ?_) (fun c6 => ?_)
    · have t := t.1 c6
      refine g_iconst (v := 0) dX8_readWash_59 (by decide) ?_
      exact g_iret (st := []) dX8_readWash_60 (fun e => by cases e) ⟨_, rfl, t⟩
    · have t := t.2 c6
      refine g_iconst (v := 1) dX8_readWash_55 (by decide) ?_
      refine g_goto (tgt := 60) dX8_readWash_56 (by decide) ?_
      exact g_iret (st := []) dX8_readWash_60 (fun e => by cases e) ⟨_, rfl, t⟩
  · have t := t.2 c3
    refine g_iconst (v := 0) dX8_readWash_24 (by decide) ?_
    exact g_iret (st := []) dX8_readWash_25 (fun e => by cases e) ⟨_, rfl, t⟩
theorem w_X8_readChange {Q : Int32 → tS → Prop} {S : tS} (p1 : Int32) (t : (tk_Ms mX8_readDigit [.ref 45, .int ((S 45 9) - 1)] S (fun x1 S2 => (vp_in (p1 + 1) 400 ∧ (vp_in (p1 + 1) 400 ∧ ((((tk_up S2 55 (p1 + 1).toNatClampNeg x1) 55 (p1 + 1).toNatClampNeg) < 0 → (tk_okQ mX8_readChange Q) 0 (tk_up S2 55 (p1 + 1).toNatClampNeg x1)) ∧ (¬ ((tk_up S2 55 (p1 + 1).toNatClampNeg x1) 55 (p1 + 1).toNatClampNeg) < 0 → (tk_Ms mX8_takes [.ref 45, .int 62] (tk_up S2 55 (p1 + 1).toNatClampNeg x1) (fun x4 S5 => ((¬ x4 = 0 → (tk_Ms mX8_readDigit [.ref 45, .int 4] S5 (fun x7 S8 => (vp_in (p1 + 2) 400 ∧ (vp_in (p1 + 2) 400 ∧ ((((tk_up S8 55 (p1 + 2).toNatClampNeg x7) 55 (p1 + 2).toNatClampNeg) < 0 → (tk_okQ mX8_readChange Q) 0 (tk_up S8 55 (p1 + 2).toNatClampNeg x7)) ∧ (¬ ((tk_up S8 55 (p1 + 2).toNatClampNeg x7) 55 (p1 + 2).toNatClampNeg) < 0 → (tk_okQ mX8_readChange Q) 1 (tk_up S8 55 (p1 + 2).toNatClampNeg x7)))))))) ∧ (x4 = 0 → (tk_okQ mX8_readChange Q) 0 S5))))))))))) : tk_Ms mX8_readChange [.ref 45, .int p1] S Q := by
  refine tk_Ms.of (ls := [.ref 45, .int p1]) (by decide) (by first | exact Or.inl rfl | exact Or.inr (Or.inl rfl) | exact Or.inr (Or.inr rfl)) (Nat.le_of_ble_eq_true rfl) rfl ?_
  refine g_aload_n dX8_readChange_0 rfl ?_
  refine g_getR (n := 25) dX8_readChange_1 fl_X8_37 rfl (by decide) (by decide) rfl rfl ?_
  refine g_iload_n dX8_readChange_4 rfl ?_
  refine g_iconst (v := 1) dX8_readChange_5 (by decide) ?_
  refine g_iadd dX8_readChange_6 ?_
  refine g_aload_n dX8_readChange_7 rfl ?_
  refine g_aload_n dX8_readChange_8 rfl ?_
  refine g_getI (n := 25) dX8_readChange_9 fl_X8_70 rfl (by decide) (by decide) rfl ?_
  refine g_iconst (v := 1) dX8_readChange_12 (by decide) ?_
  refine g_isub dX8_readChange_13 ?_
  refine s_V1i dX8_readChange_14 vm_X8_readDigit ml_X8_132 rfl rfl (by decide) (Nat.le_of_ble_eq_true rfl) rfl (tk_Ms.mono t (fun x1 S2 t => ?_))
  refine g_iast (n := 400) dX8_readChange_17 rfl t.1 ?_
  have t := t.2
  refine g_aload_n dX8_readChange_18 rfl ?_
  refine g_getR (n := 25) dX8_readChange_19 fl_X8_37 rfl (by decide) (by decide) rfl rfl ?_
  refine g_iload_n dX8_readChange_22 rfl ?_
  refine g_iconst (v := 1) dX8_readChange_23 (by decide) ?_
  refine g_iadd dX8_readChange_24 ?_
  refine g_iald (n := 400) dX8_readChange_25 rfl t.1 ?_
  have t := t.2
  refine g_if_lt (tgt := 38) dX8_readChange_26 (by decide) (fun c3 => ?_) (fun c3 => ?_)
  · have t := t.1 c3
    refine g_iconst (v := 0) dX8_readChange_38 (by decide) ?_
    exact g_iret (st := []) dX8_readChange_39 (fun e => by cases e) ⟨_, rfl, t⟩
  · have t := t.2 c3
    refine g_aload_n dX8_readChange_29 rfl ?_
    refine g_bipush (v := 62) dX8_readChange_30 (by decide) ?_
    refine s_V1i dX8_readChange_32 vm_X8_takes ml_X8_129 rfl rfl (by decide) (Nat.le_of_ble_eq_true rfl) rfl (tk_Ms.mono t (fun x4 S5 t => ?_))
    refine g_if_ne (tgt := 40) dX8_readChange_35 (by decide) (fun c6 => ?_) (fun c6 => ?_)
    · have t := t.1 c6
      refine g_aload_n dX8_readChange_40 rfl ?_
      refine g_getR (n := 25) dX8_readChange_41 fl_X8_37 rfl (by decide) (by decide) rfl rfl ?_
      refine g_iload_n dX8_readChange_44 rfl ?_
      refine g_iconst (v := 2) dX8_readChange_45 (by decide) ?_
      refine g_iadd dX8_readChange_46 ?_
      refine g_aload_n dX8_readChange_47 rfl ?_
      refine g_iconst (v := 4) dX8_readChange_48 (by decide) ?_
      refine s_V1i dX8_readChange_49 vm_X8_readDigit ml_X8_132 rfl rfl (by decide) (Nat.le_of_ble_eq_true rfl) rfl (tk_Ms.mono t (fun x7 S8 t => ?_))
      refine g_iast (n := 400) dX8_readChange_52 rfl t.1 ?_
      have t := t.2
      refine g_aload_n dX8_readChange_53 rfl ?_
      refine g_getR (n := 25) dX8_readChange_54 fl_X8_37 rfl (by decide) (by decide) rfl rfl ?_
      refine g_iload_n dX8_readChange_57 rfl ?_
      refine g_iconst (v := 2) dX8_readChange_58 (by decide) ?_
      refine g_iadd dX8_readChange_59 ?_
      refine g_iald (n := 400) dX8_readChange_60 rfl t.1 ?_
      have t := t.2
      refine g_if_lt (tgt := 68) dX8_readChange_61 (by decide) (fun c9 => ?_) (fun c9 => ?_)
      · have t := t.1 c9
        refine g_iconst (v := 0) dX8_readChange_68 (by decide) ?_
        exact g_iret (st := []) dX8_readChange_69 (fun e => by cases e) ⟨_, rfl, t⟩
      · have t := t.2 c9
        refine g_iconst (v := 1) dX8_readChange_64 (by decide) ?_
        refine g_goto (tgt := 69) dX8_readChange_65 (by decide) ?_
        exact g_iret (st := []) dX8_readChange_69 (fun e => by cases e) ⟨_, rfl, t⟩
    · have t := t.2 c6
      refine g_iconst (v := 0) dX8_readChange_38 (by decide) ?_
      exact g_iret (st := []) dX8_readChange_39 (fun e => by cases e) ⟨_, rfl, t⟩
theorem w_X8_readAct {Q : Int32 → tS → Prop} {S : tS} (p1 : Int32) (t : (tk_Ms mX8_nextByte [.ref 45] S (fun x1 S2 => ((x1 = 118 → (vp_in p1 400 ∧ ((¬ x1 = 118 → ((¬ x1 = 119 → ((x1 = 110 → (tk_okQ mX8_readAct Q) 1 (tk_up (tk_up S2 45 13 ((S2 45 13) + 1)) 55 p1.toNatClampNeg x1)) ∧ (¬ x1 = 110 → (tk_Ms mX8_readChange [.ref 45, .int p1] (tk_up (tk_up S2 45 13 ((S2 45 13) + 1)) 55 p1.toNatClampNeg x1) (fun x7 S8 => ((x7 = 0 → (tk_okQ mX8_readAct Q) 0 S8) ∧ (¬ x7 = 0 → (tk_okQ mX8_readAct Q) 1 S8))))))) ∧ (x1 = 119 → (tk_Ms mX8_readWash [.ref 45, .int p1] (tk_up (tk_up S2 45 13 ((S2 45 13) + 1)) 55 p1.toNatClampNeg x1) (fun x10 S11 => (tk_okQ mX8_readAct Q) x10 S11))))) ∧ (x1 = 118 → (tk_Ms mX8_readVisit [.ref 45, .int p1] (tk_up (tk_up S2 45 13 ((S2 45 13) + 1)) 55 p1.toNatClampNeg x1) (fun x12 S13 => (tk_okQ mX8_readAct Q) x12 S13)))))) ∧ (¬ x1 = 118 → ((x1 = 119 → (vp_in p1 400 ∧ ((¬ x1 = 118 → ((¬ x1 = 119 → ((x1 = 110 → (tk_okQ mX8_readAct Q) 1 (tk_up (tk_up S2 45 13 ((S2 45 13) + 1)) 55 p1.toNatClampNeg x1)) ∧ (¬ x1 = 110 → (tk_Ms mX8_readChange [.ref 45, .int p1] (tk_up (tk_up S2 45 13 ((S2 45 13) + 1)) 55 p1.toNatClampNeg x1) (fun x18 S19 => ((x18 = 0 → (tk_okQ mX8_readAct Q) 0 S19) ∧ (¬ x18 = 0 → (tk_okQ mX8_readAct Q) 1 S19))))))) ∧ (x1 = 119 → (tk_Ms mX8_readWash [.ref 45, .int p1] (tk_up (tk_up S2 45 13 ((S2 45 13) + 1)) 55 p1.toNatClampNeg x1) (fun x21 S22 => (tk_okQ mX8_readAct Q) x21 S22))))) ∧ (x1 = 118 → (tk_Ms mX8_readVisit [.ref 45, .int p1] (tk_up (tk_up S2 45 13 ((S2 45 13) + 1)) 55 p1.toNatClampNeg x1) (fun x23 S24 => (tk_okQ mX8_readAct Q) x23 S24)))))) ∧ (¬ x1 = 119 → ((x1 = 99 → (vp_in p1 400 ∧ ((¬ x1 = 118 → ((¬ x1 = 119 → ((x1 = 110 → (tk_okQ mX8_readAct Q) 1 (tk_up (tk_up S2 45 13 ((S2 45 13) + 1)) 55 p1.toNatClampNeg x1)) ∧ (¬ x1 = 110 → (tk_Ms mX8_readChange [.ref 45, .int p1] (tk_up (tk_up S2 45 13 ((S2 45 13) + 1)) 55 p1.toNatClampNeg x1) (fun x29 S30 => ((x29 = 0 → (tk_okQ mX8_readAct Q) 0 S30) ∧ (¬ x29 = 0 → (tk_okQ mX8_readAct Q) 1 S30))))))) ∧ (x1 = 119 → (tk_Ms mX8_readWash [.ref 45, .int p1] (tk_up (tk_up S2 45 13 ((S2 45 13) + 1)) 55 p1.toNatClampNeg x1) (fun x32 S33 => (tk_okQ mX8_readAct Q) x32 S33))))) ∧ (x1 = 118 → (tk_Ms mX8_readVisit [.ref 45, .int p1] (tk_up (tk_up S2 45 13 ((S2 45 13) + 1)) 55 p1.toNatClampNeg x1) (fun x34 S35 => (tk_okQ mX8_readAct Q) x34 S35)))))) ∧ (¬ x1 = 99 → ((x1 = 110 → (vp_in p1 400 ∧ ((¬ x1 = 118 → ((¬ x1 = 119 → ((x1 = 110 → (tk_okQ mX8_readAct Q) 1 (tk_up (tk_up S2 45 13 ((S2 45 13) + 1)) 55 p1.toNatClampNeg x1)) ∧ (¬ x1 = 110 → (tk_Ms mX8_readChange [.ref 45, .int p1] (tk_up (tk_up S2 45 13 ((S2 45 13) + 1)) 55 p1.toNatClampNeg x1) (fun x40 S41 => ((x40 = 0 → (tk_okQ mX8_readAct Q) 0 S41) ∧ (¬ x40 = 0 → (tk_okQ mX8_readAct Q) 1 S41))))))) ∧ (x1 = 119 → (tk_Ms mX8_readWash [.ref 45, .int p1] (tk_up (tk_up S2 45 13 ((S2 45 13) + 1)) 55 p1.toNatClampNeg x1) (fun x43 S44 => (tk_okQ mX8_readAct Q) x43 S44))))) ∧ (x1 = 118 → (tk_Ms mX8_readVisit [.ref 45, .int p1] (tk_up (tk_up S2 45 13 ((S2 45 13) + 1)) 55 p1.toNatClampNeg x1) (fun x45 S46 => (tk_okQ mX8_readAct Q) x45 S46)))))) ∧ (¬ x1 = 110 → (tk_okQ mX8_readAct Q) 0 S2))))))))))) : tk_Ms mX8_readAct [.ref 45, .int p1] S Q := by
  refine tk_Ms.of (ls := [.ref 45, .int p1, .null]) (by decide) (by first | exact Or.inl rfl | exact Or.inr (Or.inl rfl) | exact Or.inr (Or.inr rfl)) (Nat.le_of_ble_eq_true rfl) rfl ?_
  refine g_aload_n dX8_readAct_0 rfl ?_
  refine s_V0i dX8_readAct_1 vm_X8_nextByte ml_X8_117 rfl rfl (by decide) (Nat.le_of_ble_eq_true rfl) rfl (tk_Ms.mono t (fun x1 S2 t => ?_))
  refine g_istore_n (ls' := [.ref 45, .int p1, .int x1]) dX8_readAct_4 rfl (by decide) rfl ?_
  refine g_iload_n dX8_readAct_5 rfl ?_
  refine g_bipush (v := 118) dX8_readAct_6 (by decide) ?_
  refine g_icmp_eq (tgt := 31) dX8_readAct_8 (by decide) (fun c3 => ?_) (fun c3 => ?_)
  · have t := t.1 c3
    refine g_aload_n dX8_readAct_31 rfl ?_
    refine g_dup dX8_readAct_32 rfl ?_
    refine g_getI (n := 25) dX8_readAct_33 fl_X8_114 rfl (by decide) (by decide) rfl ?_
    refine g_iconst (v := 1) dX8_readAct_36 (by decide) ?_
    refine g_iadd dX8_readAct_37 ?_
    refine g_putI (n := 25) dX8_readAct_38 fl_X8_114 rfl (by decide) (by decide) rfl rfl rfl ?_
    refine g_aload_n dX8_readAct_41 rfl ?_
    refine g_getR (n := 25) dX8_readAct_42 fl_X8_37 rfl (by decide) (by decide) rfl rfl ?_
    refine g_iload_n dX8_readAct_45 rfl ?_
    refine g_iload_n dX8_readAct_46 rfl ?_
    refine g_iast (n := 400) dX8_readAct_47 rfl t.1 ?_
    have t := t.2
    refine g_iload_n dX8_readAct_48 rfl ?_
    refine g_bipush (v := 118) dX8_readAct_49 (by decide) ?_
    refine g_icmp_ne (tgt := 62) dX8_readAct_51 (by decide) (fun c4 => ?_) (fun c4 => ?_)
    · have t := t.1 c4
      refine g_iload_n dX8_readAct_62 rfl ?_
      refine g_bipush (v := 119) dX8_readAct_63 (by decide) ?_
      refine g_icmp_ne (tgt := 76) dX8_readAct_65 (by decide) (fun c5 => ?_) (fun c5 => ?_)
      · have t := t.1 c5
        refine g_iload_n dX8_readAct_76 rfl ?_
        refine g_bipush (v := 110) dX8_readAct_77 (by decide) ?_
        refine g_icmp_eq (tgt := 90) dX8_readAct_79 (by decide) (fun c6 => ?_) (fun c6 => ?_)
        · have t := t.1 c6
          refine g_iconst (v := 1) dX8_readAct_90 (by decide) ?_
          refine g_goto (tgt := 95) dX8_readAct_91 (by decide) ?_
          exact g_iret (st := []) dX8_readAct_95 (fun e => by cases e) ⟨_, rfl, t⟩
        · have t := t.2 c6
          refine g_aload_n dX8_readAct_82 rfl ?_
          refine g_iload_n dX8_readAct_83 rfl ?_
          refine s_V1i dX8_readAct_84 vm_X8_readChange ml_X8_158 rfl rfl (by decide) (Nat.le_of_ble_eq_true rfl) rfl (tk_Ms.mono t (fun x7 S8 t => ?_))
          refine g_if_eq (tgt := 94) dX8_readAct_87 (by decide) (fun c9 => ?_) (fun c9 => ?_)
          · have t := t.1 c9
            refine g_iconst (v := 0) dX8_readAct_94 (by decide) ?_
            exact g_iret (st := []) dX8_readAct_95 (fun e => by cases e) ⟨_, rfl, t⟩
          · have t := t.2 c9
            refine g_iconst (v := 1) dX8_readAct_90 (by decide) ?_
            refine g_goto (tgt := 95) dX8_readAct_91 (by decide) ?_
            exact g_iret (st := []) dX8_readAct_95 (fun e => by cases e) ⟨_, rfl, t⟩
      · have t := t.2 c5
        refine g_aload_n dX8_readAct_68 rfl ?_
        refine g_iload_n dX8_readAct_69 rfl ?_
        refine s_V1i dX8_readAct_70 vm_X8_readWash ml_X8_155 rfl rfl (by decide) (Nat.le_of_ble_eq_true rfl) rfl (tk_Ms.mono t (fun x10 S11 t => ?_))
        refine g_goto (tgt := 95) dX8_readAct_73 (by decide) ?_
        exact g_iret (st := []) dX8_readAct_95 (fun e => by cases e) ⟨_, rfl, t⟩
    · have t := t.2 c4
      refine g_aload_n dX8_readAct_54 rfl ?_
      refine g_iload_n dX8_readAct_55 rfl ?_
      refine s_V1i dX8_readAct_56 vm_X8_readVisit ml_X8_152 rfl rfl (by decide) (Nat.le_of_ble_eq_true rfl) rfl (tk_Ms.mono t (fun x12 S13 t => ?_))
      refine g_goto (tgt := 95) dX8_readAct_59 (by decide) ?_
      exact g_iret (st := []) dX8_readAct_95 (fun e => by cases e) ⟨_, rfl, t⟩
  · have t := t.2 c3
    refine g_iload_n dX8_readAct_11 rfl ?_
    refine g_bipush (v := 119) dX8_readAct_12 (by decide) ?_
    refine g_icmp_eq (tgt := 31) dX8_readAct_14 (by decide) (fun c14 => ?_) (fun c14 => ?_)
    · have t := t.1 c14
      refine g_aload_n dX8_readAct_31 rfl ?_
      refine g_dup dX8_readAct_32 rfl ?_
      refine g_getI (n := 25) dX8_readAct_33 fl_X8_114 rfl (by decide) (by decide) rfl ?_
      refine g_iconst (v := 1) dX8_readAct_36 (by decide) ?_
      refine g_iadd dX8_readAct_37 ?_
      refine g_putI (n := 25) dX8_readAct_38 fl_X8_114 rfl (by decide) (by decide) rfl rfl rfl ?_
      refine g_aload_n dX8_readAct_41 rfl ?_
      refine g_getR (n := 25) dX8_readAct_42 fl_X8_37 rfl (by decide) (by decide) rfl rfl ?_
      refine g_iload_n dX8_readAct_45 rfl ?_
      refine g_iload_n dX8_readAct_46 rfl ?_
      refine g_iast (n := 400) dX8_readAct_47 rfl t.1 ?_
      have t := t.2
      refine g_iload_n dX8_readAct_48 rfl ?_
      refine g_bipush (v := 118) dX8_readAct_49 (by decide) ?_
      refine g_icmp_ne (tgt := 62) dX8_readAct_51 (by decide) (fun c15 => ?_) (fun c15 => ?_)
      · have t := t.1 c15
        refine g_iload_n dX8_readAct_62 rfl ?_
        refine g_bipush (v := 119) dX8_readAct_63 (by decide) ?_
        refine g_icmp_ne (tgt := 76) dX8_readAct_65 (by decide) (fun c16 => ?_) (fun c16 => ?_)
        · have t := t.1 c16
          refine g_iload_n dX8_readAct_76 rfl ?_
          refine g_bipush (v := 110) dX8_readAct_77 (by decide) ?_
          refine g_icmp_eq (tgt := 90) dX8_readAct_79 (by decide) (fun c17 => ?_) (fun c17 => ?_)
          · have t := t.1 c17
            refine g_iconst (v := 1) dX8_readAct_90 (by decide) ?_
            refine g_goto (tgt := 95) dX8_readAct_91 (by decide) ?_
            exact g_iret (st := []) dX8_readAct_95 (fun e => by cases e) ⟨_, rfl, t⟩
          · have t := t.2 c17
            refine g_aload_n dX8_readAct_82 rfl ?_
            refine g_iload_n dX8_readAct_83 rfl ?_
            refine s_V1i dX8_readAct_84 vm_X8_readChange ml_X8_158 rfl rfl (by decide) (Nat.le_of_ble_eq_true rfl) rfl (tk_Ms.mono t (fun x18 S19 t => ?_))
            refine g_if_eq (tgt := 94) dX8_readAct_87 (by decide) (fun c20 => ?_) (fun c20 => ?_)
            · have t := t.1 c20
              refine g_iconst (v := 0) dX8_readAct_94 (by decide) ?_
              exact g_iret (st := []) dX8_readAct_95 (fun e => by cases e) ⟨_, rfl, t⟩
            · have t := t.2 c20
              refine g_iconst (v := 1) dX8_readAct_90 (by decide) ?_
              refine g_goto (tgt := 95) dX8_readAct_91 (by decide) ?_
              exact g_iret (st := []) dX8_readAct_95 (fun e => by cases e) ⟨_, rfl, t⟩
        · have t := t.2 c16
          refine g_aload_n dX8_readAct_68 rfl ?_
          refine g_iload_n dX8_readAct_69 rfl ?_
          refine s_V1i dX8_readAct_70 vm_X8_readWash ml_X8_155 rfl rfl (by decide) (Nat.le_of_ble_eq_true rfl) rfl (tk_Ms.mono t (fun x21 S22 t => ?_))
          refine g_goto (tgt := 95) dX8_readAct_73 (by decide) ?_
          exact g_iret (st := []) dX8_readAct_95 (fun e => by cases e) ⟨_, rfl, t⟩
      · have t := t.2 c15
        refine g_aload_n dX8_readAct_54 rfl ?_
        refine g_iload_n dX8_readAct_55 rfl ?_
        refine s_V1i dX8_readAct_56 vm_X8_readVisit ml_X8_152 rfl rfl (by decide) (Nat.le_of_ble_eq_true rfl) rfl (tk_Ms.mono t (fun x23 S24 t => ?_))
        refine g_goto (tgt := 95) dX8_readAct_59 (by decide) ?_
        exact g_iret (st := []) dX8_readAct_95 (fun e => by cases e) ⟨_, rfl, t⟩
    · have t := t.2 c14
      refine g_iload_n dX8_readAct_17 rfl ?_
      refine g_bipush (v := 99) dX8_readAct_18 (by decide) ?_
      refine g_icmp_eq (tgt := 31) dX8_readAct_20 (by decide) (fun c25 => ?_) (fun c25 => ?_)
      · have t := t.1 c25
        refine g_aload_n dX8_readAct_31 rfl ?_
        refine g_dup dX8_readAct_32 rfl ?_
        refine g_getI (n := 25) dX8_readAct_33 fl_X8_114 rfl (by decide) (by decide) rfl ?_
        refine g_iconst (v := 1) dX8_readAct_36 (by decide) ?_
        refine g_iadd dX8_readAct_37 ?_
        refine g_putI (n := 25) dX8_readAct_38 fl_X8_114 rfl (by decide) (by decide) rfl rfl rfl ?_
        refine g_aload_n dX8_readAct_41 rfl ?_
        refine g_getR (n := 25) dX8_readAct_42 fl_X8_37 rfl (by decide) (by decide) rfl rfl ?_
        refine g_iload_n dX8_readAct_45 rfl ?_
        refine g_iload_n dX8_readAct_46 rfl ?_
        refine g_iast (n := 400) dX8_readAct_47 rfl t.1 ?_
        have t := t.2
        refine g_iload_n dX8_readAct_48 rfl ?_
        refine g_bipush (v := 118) dX8_readAct_49 (by decide) ?_
        refine g_icmp_ne (tgt := 62) dX8_readAct_51 (by decide) (fun c26 => ?_) (fun c26 => ?_)
        · have t := t.1 c26
          refine g_iload_n dX8_readAct_62 rfl ?_
          refine g_bipush (v := 119) dX8_readAct_63 (by decide) ?_
          refine g_icmp_ne (tgt := 76) dX8_readAct_65 (by decide) (fun c27 => ?_) (fun c27 => ?_)
          · have t := t.1 c27
            refine g_iload_n dX8_readAct_76 rfl ?_
            refine g_bipush (v := 110) dX8_readAct_77 (by decide) ?_
            refine g_icmp_eq (tgt := 90) dX8_readAct_79 (by decide) (fun c28 => ?_) (fun c28 => ?_)
            · have t := t.1 c28
              refine g_iconst (v := 1) dX8_readAct_90 (by decide) ?_
              refine g_goto (tgt := 95) dX8_readAct_91 (by decide) ?_
              exact g_iret (st := []) dX8_readAct_95 (fun e => by cases e) ⟨_, rfl, t⟩
            · have t := t.2 c28
              refine g_aload_n dX8_readAct_82 rfl ?_
              refine g_iload_n dX8_readAct_83 rfl ?_
              refine s_V1i dX8_readAct_84 vm_X8_readChange ml_X8_158 rfl rfl (by decide) (Nat.le_of_ble_eq_true rfl) rfl (tk_Ms.mono t (fun x29 S30 t => ?_))
              refine g_if_eq (tgt := 94) dX8_readAct_87 (by decide) (fun c31 => ?_) (fun c31 => ?_)
              · have t := t.1 c31
                refine g_iconst (v := 0) dX8_readAct_94 (by decide) ?_
                exact g_iret (st := []) dX8_readAct_95 (fun e => by cases e) ⟨_, rfl, t⟩
              · have t := t.2 c31
                refine g_iconst (v := 1) dX8_readAct_90 (by decide) ?_
                refine g_goto (tgt := 95) dX8_readAct_91 (by decide) ?_
                exact g_iret (st := []) dX8_readAct_95 (fun e => by cases e) ⟨_, rfl, t⟩
          · have t := t.2 c27
            refine g_aload_n dX8_readAct_68 rfl ?_
            refine g_iload_n dX8_readAct_69 rfl ?_
            refine s_V1i dX8_readAct_70 vm_X8_readWash ml_X8_155 rfl rfl (by decide) (Nat.le_of_ble_eq_true rfl) rfl (tk_Ms.mono t (fun x32 S33 t => ?_))
            refine g_goto (tgt := 95) dX8_readAct_73 (by decide) ?_
            exact g_iret (st := []) dX8_readAct_95 (fun e => by cases e) ⟨_, rfl, t⟩
        · have t := t.2 c26
          refine g_aload_n dX8_readAct_54 rfl ?_
          refine g_iload_n dX8_readAct_55 rfl ?_
          refine s_V1i dX8_readAct_56 vm_X8_readVisit ml_X8_152 rfl rfl (by decide) (Nat.le_of_ble_eq_true rfl) rfl (tk_Ms.mono t (fun x34 S35 t => ?_))
          refine g_goto (tgt := 95) dX8_readAct_59 (by decide) ?_
          exact g_iret (st := []) dX8_readAct_95 (fun e => by cases e) ⟨_, rfl, t⟩
      · have t := t.2 c25
        refine g_iload_n dX8_readAct_23 rfl ?_
        refine g_bipush (v := 110) dX8_readAct_24 (by decide) ?_
        refine g_icmp_eq (tgt := 31) dX8_readAct_26 (by decide) (fun c36 => ?_) (fun c36 => ?_)
        · have t := t.1 c36
          refine g_aload_n dX8_readAct_31 rfl ?_
          refine g_dup dX8_readAct_32 rfl ?_
          refine g_getI (n := 25) dX8_readAct_33 fl_X8_114 rfl (by decide) (by decide) rfl ?_
          refine g_iconst (v := 1) dX8_readAct_36 (by decide) ?_
          refine g_iadd dX8_readAct_37 ?_
          refine g_putI (n := 25) dX8_readAct_38 fl_X8_114 rfl (by decide) (by decide) rfl rfl rfl ?_
          refine g_aload_n dX8_readAct_41 rfl ?_
          refine g_getR (n := 25) dX8_readAct_42 fl_X8_37 rfl (by decide) (by decide) rfl rfl ?_
          refine g_iload_n dX8_readAct_45 rfl ?_
          refine g_iload_n dX8_readAct_46 rfl ?_
          refine g_iast (n := 400) dX8_readAct_47 rfl t.1 ?_
          have t := t.2
          refine g_iload_n dX8_readAct_48 rfl ?_
          refine g_bipush (v := 118) dX8_readAct_49 (by decide) ?_
          refine g_icmp_ne (tgt := 62) dX8_readAct_51 (by decide) (fun c37 => ?_) (fun c37 => ?_)
          · have t := t.1 c37
            refine g_iload_n dX8_readAct_62 rfl ?_
            refine g_bipush (v := 119) dX8_readAct_63 (by decide) ?_
            refine g_icmp_ne (tgt := 76) dX8_readAct_65 (by decide) (fun c38 => ?_) (fun c38 => ?_)
            · have t := t.1 c38
              refine g_iload_n dX8_readAct_76 rfl ?_
              refine g_bipush (v := 110) dX8_readAct_77 (by decide) ?_
              refine g_icmp_eq (tgt := 90) dX8_readAct_79 (by decide) (fun c39 => ?_) (fun c39 => ?_)
              · have t := t.1 c39
                refine g_iconst (v := 1) dX8_readAct_90 (by decide) ?_
                refine g_goto (tgt := 95) dX8_readAct_91 (by decide) ?_
                exact g_iret (st := []) dX8_readAct_95 (fun e => by cases e) ⟨_, rfl, t⟩
              · have t := t.2 c39
                refine g_aload_n dX8_readAct_82 rfl ?_
                refine g_iload_n dX8_readAct_83 rfl ?_
                refine s_V1i dX8_readAct_84 vm_X8_readChange ml_X8_158 rfl rfl (by decide) (Nat.le_of_ble_eq_true rfl) rfl (tk_Ms.mono t (fun x40 S41 t => ?_))
                refine g_if_eq (tgt := 94) dX8_readAct_87 (by decide) (fun c42 => ?_) (fun c42 => ?_)
                · have t := t.1 c42
                  refine g_iconst (v := 0) dX8_readAct_94 (by decide) ?_
                  exact g_iret (st := []) dX8_readAct_95 (fun e => by cases e) ⟨_, rfl, t⟩
                · have t := t.2 c42
                  refine g_iconst (v := 1) dX8_readAct_90 (by decide) ?_
                  refine g_goto (tgt := 95) dX8_readAct_91 (by decide) ?_
                  exact g_iret (st := []) dX8_readAct_95 (fun e => by cases e) ⟨_, rfl, t⟩
            · have t := t.2 c38
              refine g_aload_n dX8_readAct_68 rfl ?_
              refine g_iload_n dX8_readAct_69 rfl ?_
              refine s_V1i dX8_readAct_70 vm_X8_readWash ml_X8_155 rfl rfl (by decide) (Nat.le_of_ble_eq_true rfl) rfl (tk_Ms.mono t (fun x43 S44 t => ?_))
              refine g_goto (tgt := 95) dX8_readAct_73 (by decide) ?_
              exact g_iret (st := []) dX8_readAct_95 (fun e => by cases e) ⟨_, rfl, t⟩
          · have t := t.2 c37
            refine g_aload_n dX8_readAct_54 rfl ?_
            refine g_iload_n dX8_readAct_55 rfl ?_
            refine s_V1i dX8_readAct_56 vm_X8_readVisit ml_X8_152 rfl rfl (by decide) (Nat.le_of_ble_eq_true rfl) rfl (tk_Ms.mono t (fun x45 S46 t => ?_))
            refine g_goto (tgt := 95) dX8_readAct_59 (by decide) ?_
            exact g_iret (st := []) dX8_readAct_95 (fun e => by cases e) ⟨_, rfl, t⟩
        · have t := t.2 c36
          refine g_iconst (v := 0) dX8_readAct_29 (by decide) ?_
          exact g_iret (st := []) dX8_readAct_30 (fun e => by cases e) ⟨_, rfl, t⟩
theorem w_X8_readWeek {Q : Int32 → tS → Prop} {S : tS}  (t : tk_Gs mX8_readWeek none 12 [.ref 45, .int 1] [] (tk_up (tk_up S 45 13 0) 45 14 0) (tk_okQ mX8_readWeek Q)) : tk_Ms mX8_readWeek [.ref 45] S Q := by
  refine tk_Ms.of (ls := [.ref 45, .null]) (by decide) (by first | exact Or.inl rfl | exact Or.inr (Or.inl rfl) | exact Or.inr (Or.inr rfl)) (Nat.le_of_ble_eq_true rfl) rfl ?_
  refine g_aload_n dX8_readWeek_0 rfl ?_
  refine g_iconst (v := 0) dX8_readWeek_1 (by decide) ?_
  refine g_putI (n := 25) dX8_readWeek_2 fl_X8_114 rfl (by decide) (by decide) rfl rfl rfl ?_
  refine g_aload_n dX8_readWeek_5 rfl ?_
  refine g_iconst (v := 0) dX8_readWeek_6 (by decide) ?_
  refine g_putI (n := 25) dX8_readWeek_7 fl_X8_138 rfl (by decide) (by decide) rfl rfl rfl ?_
  refine g_iconst (v := 1) dX8_readWeek_10 (by decide) ?_
  refine g_istore_n (ls' := [.ref 45, .int 1]) dX8_readWeek_11 rfl (by decide) rfl ?_
  exact t
theorem w_X8_readWeek_12 {Q : Int32 → tS → Prop} {S : tS} (l1 : Int32)  (t : ((l1 = 0 → (tk_Ms mX8_nextByte [.ref 45] S (fun x2 S3 => ((0 ≤ x2 → Q 0 S3) ∧ (¬ 0 ≤ x2 → Q 1 S3))))) ∧ (¬ l1 = 0 → (tk_Ms mX8_readAct [.ref 45, .int (4 * (S 45 14))] S (fun x5 S6 => ((¬ x5 = 0 → (tk_Ms mX8_takes [.ref 45, .int 59] (tk_up S6 45 14 ((S6 45 14) + 1)) (fun x8 S9 => tk_Gs mX8_readWeek none 12 [.ref 45, .int x8] [] S9 Q))) ∧ (x5 = 0 → Q 0 S6))))))) : tk_Gs mX8_readWeek none 12 [.ref 45, .int l1] [] S Q := by
  show tk_G _ 0 0 _ _ _ _ (tkSH, S, tkRF) _
  refine g_iload_n dX8_readWeek_12 rfl ?_
  refine g_if_eq (tgt := 51) dX8_readWeek_13 (by decide) (fun c1 => ?_) (fun c1 => ?_)
  · have t := t.1 c1
    refine g_aload_n dX8_readWeek_51 rfl ?_
    refine s_V0i dX8_readWeek_52 vm_X8_nextByte ml_X8_117 rfl rfl (by decide) (Nat.le_of_ble_eq_true rfl) rfl (tk_Ms.mono t (fun x2 S3 t => ?_))
    refine g_if_ge (tgt := 62) dX8_readWeek_55 (by decide) (fun c4 => ?_) (fun c4 => ?_)
    · have t := t.1 c4
      refine g_iconst (v := 0) dX8_readWeek_62 (by decide) ?_
      exact g_iret (st := []) dX8_readWeek_63 (fun e => by cases e) ⟨_, rfl, t⟩
    · have t := t.2 c4
      refine g_iconst (v := 1) dX8_readWeek_58 (by decide) ?_
      refine g_goto (tgt := 63) dX8_readWeek_59 (by decide) ?_
      exact g_iret (st := []) dX8_readWeek_63 (fun e => by cases e) ⟨_, rfl, t⟩
  · have t := t.2 c1
    refine g_aload_n dX8_readWeek_16 rfl ?_
    refine g_iconst (v := 4) dX8_readWeek_17 (by decide) ?_
    refine g_aload_n dX8_readWeek_18 rfl ?_
    refine g_getI (n := 25) dX8_readWeek_19 fl_X8_138 rfl (by decide) (by decide) rfl ?_
    refine g_imul dX8_readWeek_22 ?_
    refine s_V1i dX8_readWeek_23 vm_X8_readAct ml_X8_161 rfl rfl (by decide) (Nat.le_of_ble_eq_true rfl) rfl (tk_Ms.mono t (fun x5 S6 t => ?_))
    refine g_if_ne (tgt := 31) dX8_readWeek_26 (by decide) (fun c7 => ?_) (fun c7 => ?_)
    · have t := t.1 c7
      refine g_aload_n dX8_readWeek_31 rfl ?_
      refine g_dup dX8_readWeek_32 rfl ?_
      refine g_getI (n := 25) dX8_readWeek_33 fl_X8_138 rfl (by decide) (by decide) rfl ?_
      refine g_iconst (v := 1) dX8_readWeek_36 (by decide) ?_
      refine g_iadd dX8_readWeek_37 ?_
      refine g_putI (n := 25) dX8_readWeek_38 fl_X8_138 rfl (by decide) (by decide) rfl rfl rfl ?_
      refine g_aload_n dX8_readWeek_41 rfl ?_
      refine g_bipush (v := 59) dX8_readWeek_42 (by decide) ?_
      refine s_V1i dX8_readWeek_44 vm_X8_takes ml_X8_129 rfl rfl (by decide) (Nat.le_of_ble_eq_true rfl) rfl (tk_Ms.mono t (fun x8 S9 t => ?_))
      refine g_istore_n (ls' := [.ref 45, .int x8]) dX8_readWeek_47 rfl (by decide) rfl ?_
      refine g_goto (tgt := 12) dX8_readWeek_48 (by decide) ?_
      exact t
    · have t := t.2 c7
      refine g_iconst (v := 0) dX8_readWeek_29 (by decide) ?_
      exact g_iret (st := []) dX8_readWeek_30 (fun e => by cases e) ⟨_, rfl, t⟩
theorem w_X8_does {Q : Int32 → tS → Prop} {S : tS} (p1 : Int32) (t : (vp_in p1 400 ∧ (vp_in (p1 + 1) 400 ∧ (vp_in (p1 + 2) 400 ∧ ((¬ (S 55 p1.toNatClampNeg) = 118 → ((¬ (S 55 p1.toNatClampNeg) = 119 → ((¬ (S 55 p1.toNatClampNeg) = 99 → (tk_Ms mX8_next [.ref 45] S (fun x4 S5 => ((x4 < 0 → (tk_okQ mX8_does Q) 0 S5) ∧ (¬ x4 < 0 → (tk_okQ mX8_does Q) 1 S5))))) ∧ ((S 55 p1.toNatClampNeg) = 99 → (tk_Ms mX8_change [.ref 45, .int (S 55 (p1 + 1).toNatClampNeg), .int (S 55 (p1 + 2).toNatClampNeg)] S (fun x7 S8 => ((x7 < 0 → (tk_okQ mX8_does Q) 0 S8) ∧ (¬ x7 < 0 → (tk_okQ mX8_does Q) 1 S8))))))) ∧ ((S 55 p1.toNatClampNeg) = 119 → (tk_Ms mX8_wash [.ref 45, .int (S 55 (p1 + 1).toNatClampNeg), .int (S 55 (p1 + 2).toNatClampNeg)] S (fun x10 S11 => ((x10 < 0 → (tk_okQ mX8_does Q) 0 S11) ∧ (¬ x10 < 0 → (tk_okQ mX8_does Q) 1 S11))))))) ∧ ((S 55 p1.toNatClampNeg) = 118 → (vp_in (p1 + 3) 400 ∧ (tk_Ms mX8_visit [.ref 45, .int (S 55 (p1 + 1).toNatClampNeg), .int (S 55 (p1 + 2).toNatClampNeg), .int (S 55 (p1 + 3).toNatClampNeg)] S (fun x13 S14 => ((x13 < 0 → (tk_okQ mX8_does Q) 0 S14) ∧ (¬ x13 < 0 → (tk_okQ mX8_does Q) 1 S14))))))))))) : tk_Ms mX8_does [.ref 45, .int p1] S Q := by
  refine tk_Ms.of (ls := [.ref 45, .int p1, .null, .null, .null]) (by decide) (by first | exact Or.inl rfl | exact Or.inr (Or.inl rfl) | exact Or.inr (Or.inr rfl)) (Nat.le_of_ble_eq_true rfl) rfl ?_
  refine g_aload_n dX8_does_0 rfl ?_
  refine g_getR (n := 25) dX8_does_1 fl_X8_37 rfl (by decide) (by decide) rfl rfl ?_
  refine g_iload_n dX8_does_4 rfl ?_
  refine g_iald (n := 400) dX8_does_5 rfl t.1 ?_
  have t := t.2
  refine g_istore_n (ls' := [.ref 45, .int p1, .int (S 55 p1.toNatClampNeg), .null, .null]) dX8_does_6 rfl (by decide) rfl ?_
  refine g_aload_n dX8_does_7 rfl ?_
  refine g_getR (n := 25) dX8_does_8 fl_X8_37 rfl (by decide) (by decide) rfl rfl ?_
  refine g_iload_n dX8_does_11 rfl ?_
  refine g_iconst (v := 1) dX8_does_12 (by decide) ?_
  refine g_iadd dX8_does_13 ?_
  refine g_iald (n := 400) dX8_does_14 rfl t.1 ?_
  have t := t.2
  refine g_istore_n (ls' := [.ref 45, .int p1, .int (S 55 p1.toNatClampNeg), .int (S 55 (p1 + 1).toNatClampNeg), .null]) dX8_does_15 rfl (by decide) rfl ?_
  refine g_aload_n dX8_does_16 rfl ?_
  refine g_getR (n := 25) dX8_does_17 fl_X8_37 rfl (by decide) (by decide) rfl rfl ?_
  refine g_iload_n dX8_does_20 rfl ?_
  refine g_iconst (v := 2) dX8_does_21 (by decide) ?_
  refine g_iadd dX8_does_22 ?_
  refine g_iald (n := 400) dX8_does_23 rfl t.1 ?_
  have t := t.2
  refine g_istore (ls' := [.ref 45, .int p1, .int (S 55 p1.toNatClampNeg), .int (S 55 (p1 + 1).toNatClampNeg), .int (S 55 (p1 + 2).toNatClampNeg)]) dX8_does_24 rfl (by decide) rfl ?_
  refine g_iload_n dX8_does_26 rfl ?_
  refine g_bipush (v := 118) dX8_does_27 (by decide) ?_
  refine g_icmp_ne (tgt := 50) dX8_does_29 (by decide) (fun c1 => ?_) (fun c1 => ?_)
  · have t := t.1 c1
    refine g_iload_n dX8_does_50 rfl ?_
    refine g_bipush (v := 119) dX8_does_51 (by decide) ?_
    refine g_icmp_ne (tgt := 66) dX8_does_53 (by decide) (fun c2 => ?_) (fun c2 => ?_)
    · have t := t.1 c2
      refine g_iload_n dX8_does_66 rfl ?_
      refine g_bipush (v := 99) dX8_does_67 (by decide) ?_
      refine g_icmp_ne (tgt := 82) dX8_does_69 (by decide) (fun c3 => ?_) (fun c3 => ?_)
      · have t := t.1 c3
        refine g_aload_n dX8_does_82 rfl ?_
        refine s_V0i dX8_does_83 vm_X8_next ml_X8_173 rfl rfl (by decide) (Nat.le_of_ble_eq_true rfl) rfl (tk_Ms.mono t (fun x4 S5 t => ?_))
        refine g_if_lt (tgt := 93) dX8_does_86 (by decide) (fun c6 => ?_) (fun c6 => ?_)
        · have t := t.1 c6
          refine g_iconst (v := 0) dX8_does_93 (by decide) ?_
          exact g_iret (st := []) dX8_does_94 (fun e => by cases e) ⟨_, rfl, t⟩
        · have t := t.2 c6
          refine g_iconst (v := 1) dX8_does_89 (by decide) ?_
          refine g_goto (tgt := 94) dX8_does_90 (by decide) ?_
          exact g_iret (st := []) dX8_does_94 (fun e => by cases e) ⟨_, rfl, t⟩
      · have t := t.2 c3
        refine g_aload_n dX8_does_72 rfl ?_
        refine g_iload_n dX8_does_73 rfl ?_
        refine g_iload dX8_does_74 rfl ?_
        refine s_V2i dX8_does_76 vm_X8_change ml_X8_170 rfl rfl (by decide) (Nat.le_of_ble_eq_true rfl) rfl (tk_Ms.mono t (fun x7 S8 t => ?_))
        refine g_goto (tgt := 86) dX8_does_79 (by decide) ?_
        refine g_if_lt (tgt := 93) dX8_does_86 (by decide) (fun c9 => ?_) (fun c9 => ?_)
        · have t := t.1 c9
          refine g_iconst (v := 0) dX8_does_93 (by decide) ?_
          exact g_iret (st := []) dX8_does_94 (fun e => by cases e) ⟨_, rfl, t⟩
        · have t := t.2 c9
          refine g_iconst (v := 1) dX8_does_89 (by decide) ?_
          refine g_goto (tgt := 94) dX8_does_90 (by decide) ?_
          exact g_iret (st := []) dX8_does_94 (fun e => by cases e) ⟨_, rfl, t⟩
    · have t := t.2 c2
      refine g_aload_n dX8_does_56 rfl ?_
      refine g_iload_n dX8_does_57 rfl ?_
      refine g_iload dX8_does_58 rfl ?_
      refine s_V2i dX8_does_60 vm_X8_wash ml_X8_167 rfl rfl (by decide) (Nat.le_of_ble_eq_true rfl) rfl (tk_Ms.mono t (fun x10 S11 t => ?_))
      refine g_goto (tgt := 86) dX8_does_63 (by decide) ?_
      refine g_if_lt (tgt := 93) dX8_does_86 (by decide) (fun c12 => ?_) (fun c12 => ?_)
      · have t := t.1 c12
        refine g_iconst (v := 0) dX8_does_93 (by decide) ?_
        exact g_iret (st := []) dX8_does_94 (fun e => by cases e) ⟨_, rfl, t⟩
      · have t := t.2 c12
        refine g_iconst (v := 1) dX8_does_89 (by decide) ?_
        refine g_goto (tgt := 94) dX8_does_90 (by decide) ?_
        exact g_iret (st := []) dX8_does_94 (fun e => by cases e) ⟨_, rfl, t⟩
  · have t := t.2 c1
    refine g_aload_n dX8_does_32 rfl ?_
    refine g_iload_n dX8_does_33 rfl ?_
    refine g_iload dX8_does_34 rfl ?_
    refine g_aload_n dX8_does_36 rfl ?_
    refine g_getR (n := 25) dX8_does_37 fl_X8_37 rfl (by decide) (by decide) rfl rfl ?_
    refine g_iload_n dX8_does_40 rfl ?_
    refine g_iconst (v := 3) dX8_does_41 (by decide) ?_
    refine g_iadd dX8_does_42 ?_
    refine g_iald (n := 400) dX8_does_43 rfl t.1 ?_
    have t := t.2
    refine s_V3i dX8_does_44 vm_X8_visit ml_X8_164 rfl rfl (by decide) (Nat.le_of_ble_eq_true rfl) rfl (tk_Ms.mono t (fun x13 S14 t => ?_))
    refine g_goto (tgt := 86) dX8_does_47 (by decide) ?_
    refine g_if_lt (tgt := 93) dX8_does_86 (by decide) (fun c15 => ?_) (fun c15 => ?_)
    · have t := t.1 c15
      refine g_iconst (v := 0) dX8_does_93 (by decide) ?_
      exact g_iret (st := []) dX8_does_94 (fun e => by cases e) ⟨_, rfl, t⟩
    · have t := t.2 c15
      refine g_iconst (v := 1) dX8_does_89 (by decide) ?_
      refine g_goto (tgt := 94) dX8_does_90 (by decide) ?_
      exact g_iret (st := []) dX8_does_94 (fun e => by cases e) ⟨_, rfl, t⟩
theorem w_X8_week {Q : Int32 → tS → Prop} {S : tS}  (t : (tk_Ms mX8_readWeek [.ref 45] S (fun x1 S2 => (tk_Ms mX8_end [.ref 45, .int x1] S2 (fun x3 S4 => ((0 ≤ x3 → tk_Gs mX8_week none 22 [.ref 45, .int x3, .int (S4 45 14), .int 0] [] S4 (tk_okQ mX8_week Q)) ∧ (¬ 0 ≤ x3 → (tk_okQ mX8_week Q) x3 S4))))))) : tk_Ms mX8_week [.ref 45] S Q := by
  refine tk_Ms.of (ls := [.ref 45, .null, .null, .null]) (by decide) (by first | exact Or.inl rfl | exact Or.inr (Or.inl rfl) | exact Or.inr (Or.inr rfl)) (Nat.le_of_ble_eq_true rfl) rfl ?_
  refine g_aload_n dX8_week_0 rfl ?_
  refine g_aload_n dX8_week_1 rfl ?_
  refine s_V0i dX8_week_2 vm_X8_readWeek ml_X8_176 rfl rfl (by decide) (Nat.le_of_ble_eq_true rfl) rfl (tk_Ms.mono t (fun x1 S2 t => ?_))
  refine s_V1i dX8_week_5 vm_X8_end ml_X8_145 rfl rfl (by decide) (Nat.le_of_ble_eq_true rfl) rfl (tk_Ms.mono t (fun x3 S4 t => ?_))
  refine g_istore_n (ls' := [.ref 45, .int x3, .null, .null]) dX8_week_8 rfl (by decide) rfl ?_
  refine g_iload_n dX8_week_9 rfl ?_
  refine g_if_ge (tgt := 15) dX8_week_10 (by decide) (fun c5 => ?_) (fun c5 => ?_)
  · have t := t.1 c5
    refine g_aload_n dX8_week_15 rfl ?_
    refine g_getI (n := 25) dX8_week_16 fl_X8_138 rfl (by decide) (by decide) rfl ?_
    refine g_istore_n (ls' := [.ref 45, .int x3, .int (S4 45 14), .null]) dX8_week_19 rfl (by decide) rfl ?_
    refine g_iconst (v := 0) dX8_week_20 (by decide) ?_
    refine g_istore_n (ls' := [.ref 45, .int x3, .int (S4 45 14), .int 0]) dX8_week_21 rfl (by decide) rfl ?_
    exact t
  · have t := t.2 c5
    refine g_iload_n dX8_week_13 rfl ?_
    exact g_iret (st := []) dX8_week_14 (fun e => by cases e) ⟨_, rfl, t⟩
theorem w_X8_week_22 {Q : Int32 → tS → Prop} {S : tS} (l1 : Int32) (l2 : Int32) (l3 : Int32)  (t : ((l2 ≤ l3 → Q l2 S) ∧ (¬ l2 ≤ l3 → (tk_Ms mX8_does [.ref 45, .int (4 * l3)] S (fun x2 S3 => ((¬ x2 = 0 → tk_Gs mX8_week none 22 [.ref 45, .int l1, .int l2, .int (l3 + 1)] [] S3 Q) ∧ (x2 = 0 → Q l3 S3))))))) : tk_Gs mX8_week none 22 [.ref 45, .int l1, .int l2, .int l3] [] S Q := by
  show tk_G _ 0 0 _ _ _ _ (tkSH, S, tkRF) _
  refine g_iload_n dX8_week_22 rfl ?_
  refine g_iload_n dX8_week_23 rfl ?_
  refine g_icmp_ge (tgt := 45) dX8_week_24 (by decide) (fun c1 => ?_) (fun c1 => ?_)
  · have t := t.1 c1
    refine g_iload_n dX8_week_45 rfl ?_
    exact g_iret (st := []) dX8_week_46 (fun e => by cases e) ⟨_, rfl, t⟩
  · have t := t.2 c1
    refine g_aload_n dX8_week_27 rfl ?_
    refine g_iconst (v := 4) dX8_week_28 (by decide) ?_
    refine g_iload_n dX8_week_29 rfl ?_
    refine g_imul dX8_week_30 ?_
    refine s_V1i dX8_week_31 vm_X8_does ml_X8_179 rfl rfl (by decide) (Nat.le_of_ble_eq_true rfl) rfl (tk_Ms.mono t (fun x2 S3 t => ?_))
    refine g_if_ne (tgt := 39) dX8_week_34 (by decide) (fun c4 => ?_) (fun c4 => ?_)
    · have t := t.1 c4
      refine g_iinc (v := l3 + 1) (ls' := [.ref 45, .int l1, .int l2, .int (l3 + 1)]) dX8_week_39 rfl rfl (by decide) rfl rfl ?_
      refine g_goto (tgt := 22) dX8_week_42 (by decide) ?_
      exact t
    · have t := t.2 c4
      refine g_iload_n dX8_week_37 rfl ?_
      exact g_iret (st := []) dX8_week_38 (fun e => by cases e) ⟨_, rfl, t⟩
theorem w_X8_isSister {Q : Int32 → tS → Prop} {S : tS} (p1 : Int32) (t : (tk_Ms mX8_in [.long ((p1 : Int32).toInt64), .long (0 : Int64), .long (3 : Int64)] S (fun x1 S2 => (tk_okQ mX8_isSister Q) x1 S2))) : tk_Ms mX8_isSister [.int p1] S Q := by
  refine tk_Ms.of (ls := [.int p1]) (by decide) (by first | exact Or.inl rfl | exact Or.inr (Or.inl rfl) | exact Or.inr (Or.inr rfl)) (Nat.le_of_ble_eq_true rfl) rfl ?_
  refine g_iload_n dX8_isSister_0 rfl ?_
  refine g_i2l dX8_isSister_1 ?_
  refine g_lconst (v := 0) dX8_isSister_2 (by decide) ?_
  refine g_ldc2 (v := 3) dX8_isSister_3 kl_X8_87 ?_
  refine s_S3i dX8_isSister_6 sm_X8_in ml_X8_66 rfl (by decide) (Nat.le_of_ble_eq_true rfl) rfl (tk_Ms.mono t (fun x1 S2 t => ?_))
  exact g_iret (st := []) dX8_isSister_9 (fun e => by cases e) ⟨_, rfl, t⟩
theorem w_X8_ringOf {Q : Int32 → tS → Prop} {S : tS} (p1 : Int32) (p2 : Int32) (t : tk_Gs mX8_ringOf none 7 [.ref 45, .int p1, .int p2, .int 256, .int 0] [] S (tk_okQ mX8_ringOf Q)) : tk_Ms mX8_ringOf [.ref 45, .int p1, .int p2] S Q := by
  refine tk_Ms.of (ls := [.ref 45, .int p1, .int p2, .null, .null]) (by decide) (by first | exact Or.inl rfl | exact Or.inr (Or.inl rfl) | exact Or.inr (Or.inr rfl)) (Nat.le_of_ble_eq_true rfl) rfl ?_
  refine g_sipush (v := 256) dX8_ringOf_0 (by decide) ?_
  refine g_istore_n (ls' := [.ref 45, .int p1, .int p2, .int 256, .null]) dX8_ringOf_3 rfl (by decide) rfl ?_
  refine g_iconst (v := 0) dX8_ringOf_4 (by decide) ?_
  refine g_istore (ls' := [.ref 45, .int p1, .int p2, .int 256, .int 0]) dX8_ringOf_5 rfl (by decide) rfl ?_
  exact t
theorem w_X8_ringOf_7 {Q : Int32 → tS → Prop} {S : tS} (l1 : Int32) (l2 : Int32) (l3 : Int32) (l4 : Int32)  (t : (((S 45 9) ≤ l4 → Q l3 S) ∧ (¬ (S 45 9) ≤ l4 → (vp_in l4 8 ∧ ((¬ (S 51 l4.toNatClampNeg) = l1 → tk_Gs mX8_ringOf none 7 [.ref 45, .int l1, .int l2, .int (l3 ||| 0), .int (l4 + 1)] [] S Q) ∧ ((S 51 l4.toNatClampNeg) = l1 → ((l2 = 0 → tk_Gs mX8_ringOf none 7 [.ref 45, .int l1, .int l2, .int (l3 ||| (1 <<< (l4 &&& 31))), .int (l4 + 1)] [] S Q) ∧ (¬ l2 = 0 → (vp_in l4 8 ∧ (((S 50 l4.toNatClampNeg) = 1 → tk_Gs mX8_ringOf none 7 [.ref 45, .int l1, .int l2, .int (l3 ||| 0), .int (l4 + 1)] [] S Q) ∧ (¬ (S 50 l4.toNatClampNeg) = 1 → tk_Gs mX8_ringOf none 7 [.ref 45, .int l1, .int l2, .int (l3 ||| (1 <<< (l4 &&& 31))), .int (l4 + 1)] [] S Q))))))))))) : tk_Gs mX8_ringOf none 7 [.ref 45, .int l1, .int l2, .int l3, .int l4] [] S Q := by
  show tk_G _ 0 0 _ _ _ _ (tkSH, S, tkRF) _
  refine g_iload dX8_ringOf_7 rfl ?_
  refine g_aload_n dX8_ringOf_9 rfl ?_
  refine g_getI (n := 25) dX8_ringOf_10 fl_X8_70 rfl (by decide) (by decide) rfl ?_
  refine g_icmp_ge (tgt := 59) dX8_ringOf_13 (by decide) (fun c1 => ?_) (fun c1 => ?_)
  · have t := t.1 c1
    refine g_iload_n dX8_ringOf_59 rfl ?_
    exact g_iret (st := []) dX8_ringOf_60 (fun e => by cases e) ⟨_, rfl, t⟩
  · have t := t.2 c1
    refine g_iload_n dX8_ringOf_16 rfl ?_
    refine g_aload_n dX8_ringOf_17 rfl ?_
    refine g_getR (n := 25) dX8_ringOf_18 fl_X8_25 rfl (by decide) (by decide) rfl rfl ?_
    refine g_iload dX8_ringOf_21 rfl ?_
    refine g_iald (n := 8) dX8_ringOf_23 rfl t.1 ?_
    have t := t.2
    refine g_iload_n dX8_ringOf_24 rfl ?_
    refine g_icmp_ne (tgt := 50) dX8_ringOf_25 (by decide) (fun c2 => ?_) (fun c2 => ?_)
    · have t := t.1 c2
      refine g_iconst (v := 0) dX8_ringOf_50 (by decide) ?_
      refine g_ior dX8_ringOf_51 ?_
      refine g_istore_n (ls' := [.ref 45, .int l1, .int l2, .int (l3 ||| 0), .int l4]) dX8_ringOf_52 rfl (by decide) rfl ?_
      refine g_iinc (v := l4 + 1) (ls' := [.ref 45, .int l1, .int l2, .int (l3 ||| 0), .int (l4 + 1)]) dX8_ringOf_53 rfl rfl (by decide) rfl rfl ?_
      refine g_goto (tgt := 7) dX8_ringOf_56 (by decide) ?_
      exact t
    · have t := t.2 c2
      refine g_iload_n dX8_ringOf_28 rfl ?_
      refine g_if_eq (tgt := 43) dX8_ringOf_29 (by decide) (fun c3 => ?_) (fun c3 => ?_)
      · have t := t.1 c3
        refine g_iconst (v := 1) dX8_ringOf_43 (by decide) ?_
        refine g_iload dX8_ringOf_44 rfl ?_
        refine g_ishl dX8_ringOf_46 ?_
        refine g_goto (tgt := 51) dX8_ringOf_47 (by decide) ?_
        refine g_ior dX8_ringOf_51 ?_
        refine g_istore_n (ls' := [.ref 45, .int l1, .int l2, .int (l3 ||| (1 <<< (l4 &&& 31))), .int l4]) dX8_ringOf_52 rfl (by decide) rfl ?_
        refine g_iinc (v := l4 + 1) (ls' := [.ref 45, .int l1, .int l2, .int (l3 ||| (1 <<< (l4 &&& 31))), .int (l4 + 1)]) dX8_ringOf_53 rfl rfl (by decide) rfl rfl ?_
        refine g_goto (tgt := 7) dX8_ringOf_56 (by decide) ?_
        exact t
      · have t := t.2 c3
        refine g_aload_n dX8_ringOf_32 rfl ?_
        refine g_getR (n := 25) dX8_ringOf_33 fl_X8_22 rfl (by decide) (by decide) rfl rfl ?_
        refine g_iload dX8_ringOf_36 rfl ?_
        refine g_iald (n := 8) dX8_ringOf_38 rfl t.1 ?_
        have t := t.2
        refine g_iconst (v := 1) dX8_ringOf_39 (by decide) ?_
        refine g_icmp_eq (tgt := 50) dX8_ringOf_40 (by decide) (fun c4 => ?_) (fun c4 => ?_)
        · have t := t.1 c4
          refine g_iconst (v := 0) dX8_ringOf_50 (by decide) ?_
          refine g_ior dX8_ringOf_51 ?_
          refine g_istore_n (ls' := [.ref 45, .int l1, .int l2, .int (l3 ||| 0), .int l4]) dX8_ringOf_52 rfl (by decide) rfl ?_
          refine g_iinc (v := l4 + 1) (ls' := [.ref 45, .int l1, .int l2, .int (l3 ||| 0), .int (l4 + 1)]) dX8_ringOf_53 rfl rfl (by decide) rfl rfl ?_
          refine g_goto (tgt := 7) dX8_ringOf_56 (by decide) ?_
          exact t
        · have t := t.2 c4
          refine g_iconst (v := 1) dX8_ringOf_43 (by decide) ?_
          refine g_iload dX8_ringOf_44 rfl ?_
          refine g_ishl dX8_ringOf_46 ?_
          refine g_goto (tgt := 51) dX8_ringOf_47 (by decide) ?_
          refine g_ior dX8_ringOf_51 ?_
          refine g_istore_n (ls' := [.ref 45, .int l1, .int l2, .int (l3 ||| (1 <<< (l4 &&& 31))), .int l4]) dX8_ringOf_52 rfl (by decide) rfl ?_
          refine g_iinc (v := l4 + 1) (ls' := [.ref 45, .int l1, .int l2, .int (l3 ||| (1 <<< (l4 &&& 31))), .int (l4 + 1)]) dX8_ringOf_53 rfl rfl (by decide) rfl rfl ?_
          refine g_goto (tgt := 7) dX8_ringOf_56 (by decide) ?_
          exact t
theorem w_X8_doorOf {Q : Int32 → tS → Prop} {S : tS} (p1 : Int32) (t : (((S 45 3) ≤ p1 → (tk_okQ mX8_doorOf Q) 16 S) ∧ (¬ (S 45 3) ≤ p1 → (tk_okQ mX8_doorOf Q) p1 S))) : tk_Ms mX8_doorOf [.ref 45, .int p1] S Q := by
  refine tk_Ms.of (ls := [.ref 45, .int p1]) (by decide) (by first | exact Or.inl rfl | exact Or.inr (Or.inl rfl) | exact Or.inr (Or.inr rfl)) (Nat.le_of_ble_eq_true rfl) rfl ?_
  refine g_iload_n dX8_doorOf_0 rfl ?_
  refine g_aload_n dX8_doorOf_1 rfl ?_
  refine g_getI (n := 25) dX8_doorOf_2 fl_X8_84 rfl (by decide) (by decide) rfl ?_
  refine g_icmp_ge (tgt := 12) dX8_doorOf_5 (by decide) (fun c1 => ?_) (fun c1 => ?_)
  · have t := t.1 c1
    refine g_bipush (v := 16) dX8_doorOf_12 (by decide) ?_
    exact g_iret (st := []) dX8_doorOf_14 (fun e => by cases e) ⟨_, rfl, t⟩
  · have t := t.2 c1
    refine g_iload_n dX8_doorOf_8 rfl ?_
    refine g_goto (tgt := 14) dX8_doorOf_9 (by decide) ?_
    exact g_iret (st := []) dX8_doorOf_14 (fun e => by cases e) ⟨_, rfl, t⟩
theorem w_X8_findFars {Q : Int32 → tS → Prop} {S : tS} (p1 : Int32) (p2 : Int32) (t : tk_Gs mX8_findFars none 2 [.ref 45, .int p1, .int p2, .int 0, .null, .null, .null, .null] [] S (tk_okQ mX8_findFars Q)) : tk_Ms mX8_findFars [.ref 45, .int p1, .int p2] S Q := by
  refine tk_Ms.of (ls := [.ref 45, .int p1, .int p2, .null, .null, .null, .null, .null]) (by decide) (by first | exact Or.inl rfl | exact Or.inr (Or.inl rfl) | exact Or.inr (Or.inr rfl)) (Nat.le_of_ble_eq_true rfl) rfl ?_
  refine g_iconst (v := 0) dX8_findFars_0 (by decide) ?_
  refine g_istore_n (ls' := [.ref 45, .int p1, .int p2, .int 0, .null, .null, .null, .null]) dX8_findFars_1 rfl (by decide) rfl ?_
  exact t
theorem w_X8_findFars_2 {Q : Int32 → tS → Prop} {S : tS} (l1 : Int32) (l2 : Int32) (l3 : Int32)  (t : ((11 ≤ l3 → tk_Gs mX8_findFars none 33 [.ref 45, .int l1, .int l2, .int 1, .null, .null, .null, .null] [] S Q) ∧ (¬ 11 ≤ l3 → ((¬ l3 = l1 → (vp_in l3 11 ∧ tk_Gs mX8_findFars none 2 [.ref 45, .int l1, .int l2, .int (l3 + 1), .null, .null, .null, .null] [] (tk_up S 56 l3.toNatClampNeg 99) Q)) ∧ (l3 = l1 → (vp_in l3 11 ∧ tk_Gs mX8_findFars none 2 [.ref 45, .int l1, .int l2, .int (l3 + 1), .null, .null, .null, .null] [] (tk_up S 56 l3.toNatClampNeg 0) Q)))))) : tk_Gs mX8_findFars none 2 [.ref 45, .int l1, .int l2, .int l3, .null, .null, .null, .null] [] S Q := by
  show tk_G _ 0 0 _ _ _ _ (tkSH, S, tkRF) _
  refine g_iload_n dX8_findFars_2 rfl ?_
  refine g_bipush (v := 11) dX8_findFars_3 (by decide) ?_
  refine g_icmp_ge (tgt := 31) dX8_findFars_5 (by decide) (fun c1 => ?_) (fun c1 => ?_)
  · have t := t.1 c1
    refine g_iconst (v := 1) dX8_findFars_31 (by decide) ?_
    refine g_istore_n (ls' := [.ref 45, .int l1, .int l2, .int 1, .null, .null, .null, .null]) dX8_findFars_32 rfl (by decide) rfl ?_
    exact t
  · have t := t.2 c1
    refine g_aload_n dX8_findFars_8 rfl ?_
    refine g_getR (n := 25) dX8_findFars_9 fl_X8_40 rfl (by decide) (by decide) rfl rfl ?_
    refine g_iload_n dX8_findFars_12 rfl ?_
    refine g_iload_n dX8_findFars_13 rfl ?_
    refine g_iload_n dX8_findFars_14 rfl ?_
    refine g_icmp_ne (tgt := 22) dX8_findFars_15 (by decide) (fun c2 => ?_) (fun c2 => ?_)
    · have t := t.1 c2
      refine g_bipush (v := 99) dX8_findFars_22 (by decide) ?_
      refine g_iast (n := 11) dX8_findFars_24 rfl t.1 ?_
      have t := t.2
      refine g_iinc (v := l3 + 1) (ls' := [.ref 45, .int l1, .int l2, .int (l3 + 1), .null, .null, .null, .null]) dX8_findFars_25 rfl rfl (by decide) rfl rfl ?_
      refine g_goto (tgt := 2) dX8_findFars_28 (by decide) ?_
      exact t
    · have t := t.2 c2
      refine g_iconst (v := 0) dX8_findFars_18 (by decide) ?_
      refine g_goto (tgt := 24) dX8_findFars_19 (by decide) ?_
      refine g_iast (n := 11) dX8_findFars_24 rfl t.1 ?_
      have t := t.2
      refine g_iinc (v := l3 + 1) (ls' := [.ref 45, .int l1, .int l2, .int (l3 + 1), .null, .null, .null, .null]) dX8_findFars_25 rfl rfl (by decide) rfl rfl ?_
      refine g_goto (tgt := 2) dX8_findFars_28 (by decide) ?_
      exact t
theorem w_X8_findFars_33 {Q : Int32 → tS → Prop} {S : tS} (l1 : Int32) (l2 : Int32) (l3 : Int32)  (t : ((l3 = 0 → Q 0 S) ∧ (¬ l3 = 0 → tk_Gs mX8_findFars none 42 [.ref 45, .int l1, .int l2, .int 0, .int 0, .null, .null, .null] [] S Q))) : tk_Gs mX8_findFars none 33 [.ref 45, .int l1, .int l2, .int l3, .null, .null, .null, .null] [] S Q := by
  show tk_G _ 0 0 _ _ _ _ (tkSH, S, tkRF) _
  refine g_iload_n dX8_findFars_33 rfl ?_
  refine g_if_eq (tgt := 230) dX8_findFars_34 (by decide) (fun c1 => ?_) (fun c1 => ?_)
  · have t := t.1 c1
    exact g_vret (st := []) dX8_findFars_230 rfl ⟨_, rfl, t⟩
  · have t := t.2 c1
    refine g_iconst (v := 0) dX8_findFars_37 (by decide) ?_
    refine g_istore_n (ls' := [.ref 45, .int l1, .int l2, .int 0, .null, .null, .null, .null]) dX8_findFars_38 rfl (by decide) rfl ?_
    refine g_iconst (v := 0) dX8_findFars_39 (by decide) ?_
    refine g_istore (ls' := [.ref 45, .int l1, .int l2, .int 0, .int 0, .null, .null, .null]) dX8_findFars_40 rfl (by decide) rfl ?_
    exact t
theorem w_X8_findFars_42 {Q : Int32 → tS → Prop} {S : tS} (l1 : Int32) (l2 : Int32) (l3 : Int32) (l4 : Int32)  (t : (((S 45 3) < l4 → tk_Gs mX8_findFars none 33 [.ref 45, .int l1, .int l2, .int l3, .null, .null, .null, .null] [] S Q) ∧ (¬ (S 45 3) < l4 → (tk_Ms mX8_doorOf [.ref 45, .int l4] S (fun x2 S3 => (vp_in x2 17 ∧ (vp_in x2 17 ∧ (vp_in x2 17 ∧ (tk_Ms mX8_has [.int l2, .int (S3 48 x2.toNatClampNeg)] S3 (fun x4 S5 => ((x4 = 0 → tk_Gs mX8_findFars none 42 [.ref 45, .int l1, .int l2, .int l3, .int (l4 + 1), .null, .null, .null] [] S5 Q) ∧ (¬ x4 = 0 → (vp_in (S3 46 x2.toNatClampNeg) 11 ∧ (vp_in (S3 47 x2.toNatClampNeg) 11 ∧ ((((S5 56 (S3 47 x2.toNatClampNeg).toNatClampNeg) + 1) < (S5 56 (S3 46 x2.toNatClampNeg).toNatClampNeg) → (vp_in (S3 46 x2.toNatClampNeg) 11 ∧ (vp_in (S3 47 x2.toNatClampNeg) 11 ∧ (((S5 56 (S3 46 x2.toNatClampNeg).toNatClampNeg) ≤ ((S5 56 (S3 47 x2.toNatClampNeg).toNatClampNeg) + 1) → (vp_in (S3 46 x2.toNatClampNeg) 11 ∧ (vp_in (S3 46 x2.toNatClampNeg) 11 ∧ (vp_in (S3 47 x2.toNatClampNeg) 11 ∧ (vp_in (S3 46 x2.toNatClampNeg) 11 ∧ ((((tk_up S5 56 (S3 46 x2.toNatClampNeg).toNatClampNeg (S5 56 (S3 46 x2.toNatClampNeg).toNatClampNeg)) 56 (S3 47 x2.toNatClampNeg).toNatClampNeg) ≤ (((tk_up S5 56 (S3 46 x2.toNatClampNeg).toNatClampNeg (S5 56 (S3 46 x2.toNatClampNeg).toNatClampNeg)) 56 (S3 46 x2.toNatClampNeg).toNatClampNeg) + 1) → (vp_in (S3 47 x2.toNatClampNeg) 11 ∧ (vp_in (S3 47 x2.toNatClampNeg) 11 ∧ tk_Gs mX8_findFars none 42 [.ref 45, .int l1, .int l2, .int 1, .int (l4 + 1), .null, .null, .null] [] (tk_up (tk_up S5 56 (S3 46 x2.toNatClampNeg).toNatClampNeg (S5 56 (S3 46 x2.toNatClampNeg).toNatClampNeg)) 56 (S3 47 x2.toNatClampNeg).toNatClampNeg ((tk_up S5 56 (S3 46 x2.toNatClampNeg).toNatClampNeg (S5 56 (S3 46 x2.toNatClampNeg).toNatClampNeg)) 56 (S3 47 x2.toNatClampNeg).toNatClampNeg)) Q))) ∧ (¬ ((tk_up S5 56 (S3 46 x2.toNatClampNeg).toNatClampNeg (S5 56 (S3 46 x2.toNatClampNeg).toNatClampNeg)) 56 (S3 47 x2.toNatClampNeg).toNatClampNeg) ≤ (((tk_up S5 56 (S3 46 x2.toNatClampNeg).toNatClampNeg (S5 56 (S3 46 x2.toNatClampNeg).toNatClampNeg)) 56 (S3 46 x2.toNatClampNeg).toNatClampNeg) + 1) → (vp_in (S3 46 x2.toNatClampNeg) 11 ∧ (vp_in (S3 47 x2.toNatClampNeg) 11 ∧ tk_Gs mX8_findFars none 42 [.ref 45, .int l1, .int l2, .int 1, .int (l4 + 1), .null, .null, .null] [] (tk_up (tk_up S5 56 (S3 46 x2.toNatClampNeg).toNatClampNeg (S5 56 (S3 46 x2.toNatClampNeg).toNatClampNeg)) 56 (S3 47 x2.toNatClampNeg).toNatClampNeg (((tk_up S5 56 (S3 46 x2.toNatClampNeg).toNatClampNeg (S5 56 (S3 46 x2.toNatClampNeg).toNatClampNeg)) 56 (S3 46 x2.toNatClampNeg).toNatClampNeg) + 1)) Q))))))))) ∧ (¬ (S5 56 (S3 46 x2.toNatClampNeg).toNatClampNeg) ≤ ((S5 56 (S3 47 x2.toNatClampNeg).toNatClampNeg) + 1) → (vp_in (S3 47 x2.toNatClampNeg) 11 ∧ (vp_in (S3 46 x2.toNatClampNeg) 11 ∧ (vp_in (S3 47 x2.toNatClampNeg) 11 ∧ (vp_in (S3 46 x2.toNatClampNeg) 11 ∧ ((((tk_up S5 56 (S3 46 x2.toNatClampNeg).toNatClampNeg ((S5 56 (S3 47 x2.toNatClampNeg).toNatClampNeg) + 1)) 56 (S3 47 x2.toNatClampNeg).toNatClampNeg) ≤ (((tk_up S5 56 (S3 46 x2.toNatClampNeg).toNatClampNeg ((S5 56 (S3 47 x2.toNatClampNeg).toNatClampNeg) + 1)) 56 (S3 46 x2.toNatClampNeg).toNatClampNeg) + 1) → (vp_in (S3 47 x2.toNatClampNeg) 11 ∧ (vp_in (S3 47 x2.toNatClampNeg) 11 ∧ tk_Gs mX8_findFars none 42 [.ref 45, .int l1, .int l2, .int 1, .int (l4 + 1), .null, .null, .null] [] (tk_up (tk_up S5 56 (S3 46 x2.toNatClampNeg).toNatClampNeg ((S5 56 (S3 47 x2.toNatClampNeg).toNatClampNeg) + 1)) 56 (S3 47 x2.toNatClampNeg).toNatClampNeg ((tk_up S5 56 (S3 46 x2.toNatClampNeg).toNatClampNeg ((S5 56 (S3 47 x2.toNatClampNeg).toNatClampNeg) + 1)) 56 (S3 47 x2.toNatClampNeg).toNatClampNeg)) Q))) ∧ (¬ ((tk_up S5 56 (S3 46 x2.toNatClampNeg).toNatClampNeg ((S5 56 (S3 47 x2.toNatClampNeg).toNatClampNeg) + 1)) 56 (S3 47 x2.toNatClampNeg).toNatClampNeg) ≤ (((tk_up S5 56 (S3 46 x2.toNatClampNeg).toNatClampNeg ((S5 56 (S3 47 x2.toNatClampNeg).toNatClampNeg) + 1)) 56 (S3 46 x2.toNatClampNeg).toNatClampNeg) + 1) → (vp_in (S3 46 x2.toNatClampNeg) 11 ∧ (vp_in (S3 47 x2.toNatClampNeg) 11 ∧ tk_Gs mX8_findFars none 42 [.ref 45, .int l1, .int l2, .int 1, .int (l4 + 1), .null, .null, .null] [] (tk_up (tk_up S5 56 (S3 46 x2.toNatClampNeg).toNatClampNeg ((S5 56 (S3 47 x2.toNatClampNeg).toNatClampNeg) + 1)) 56 (S3 47 x2.toNatClampNeg).toNatClampNeg (((tk_up S5 56 (S3 46 x2.toNatClampNeg).toNatClampNeg ((S5 56 (S3 47 x2.toNatClampNeg).toNatClampNeg) + 1)) 56 (S3 46 x2.toNatClampNeg).toNatClampNeg) + 1)) Q))))))))))))) ∧ (¬ ((S5 56 (S3 47 x2.toNatClampNeg).toNatClampNeg) + 1) < (S5 56 (S3 46 x2.toNatClampNeg).toNatClampNeg) → (vp_in (S3 47 x2.toNatClampNeg) 11 ∧ (vp_in (S3 46 x2.toNatClampNeg) 11 ∧ (((S5 56 (S3 47 x2.toNatClampNeg).toNatClampNeg) ≤ ((S5 56 (S3 46 x2.toNatClampNeg).toNatClampNeg) + 1) → tk_Gs mX8_findFars none 42 [.ref 45, .int l1, .int l2, .int l3, .int (l4 + 1), .null, .null, .null] [] S5 Q) ∧ (¬ (S5 56 (S3 47 x2.toNatClampNeg).toNatClampNeg) ≤ ((S5 56 (S3 46 x2.toNatClampNeg).toNatClampNeg) + 1) → (vp_in (S3 46 x2.toNatClampNeg) 11 ∧ (vp_in (S3 47 x2.toNatClampNeg) 11 ∧ (((S5 56 (S3 46 x2.toNatClampNeg).toNatClampNeg) ≤ ((S5 56 (S3 47 x2.toNatClampNeg).toNatClampNeg) + 1) → (vp_in (S3 46 x2.toNatClampNeg) 11 ∧ (vp_in (S3 46 x2.toNatClampNeg) 11 ∧ (vp_in (S3 47 x2.toNatClampNeg) 11 ∧ (vp_in (S3 46 x2.toNatClampNeg) 11 ∧ ((((tk_up S5 56 (S3 46 x2.toNatClampNeg).toNatClampNeg (S5 56 (S3 46 x2.toNatClampNeg).toNatClampNeg)) 56 (S3 47 x2.toNatClampNeg).toNatClampNeg) ≤ (((tk_up S5 56 (S3 46 x2.toNatClampNeg).toNatClampNeg (S5 56 (S3 46 x2.toNatClampNeg).toNatClampNeg)) 56 (S3 46 x2.toNatClampNeg).toNatClampNeg) + 1) → (vp_in (S3 47 x2.toNatClampNeg) 11 ∧ (vp_in (S3 47 x2.toNatClampNeg) 11 ∧ tk_Gs mX8_findFars none 42 [.ref 45, .int l1, .int l2, .int 1, .int (l4 + 1), .null, .null, .null] [] (tk_up (tk_up S5 56 (S3 46 x2.toNatClampNeg).toNatClampNeg (S5 56 (S3 46 x2.toNatClampNeg).toNatClampNeg)) 56 (S3 47 x2.toNatClampNeg).toNatClampNeg ((tk_up S5 56 (S3 46 x2.toNatClampNeg).toNatClampNeg (S5 56 (S3 46 x2.toNatClampNeg).toNatClampNeg)) 56 (S3 47 x2.toNatClampNeg).toNatClampNeg)) Q))) ∧ (¬ ((tk_up S5 56 (S3 46 x2.toNatClampNeg).toNatClampNeg (S5 56 (S3 46 x2.toNatClampNeg).toNatClampNeg)) 56 (S3 47 x2.toNatClampNeg).toNatClampNeg) ≤ (((tk_up S5 56 (S3 46 x2.toNatClampNeg).toNatClampNeg (S5 56 (S3 46 x2.toNatClampNeg).toNatClampNeg)) 56 (S3 46 x2.toNatClampNeg).toNatClampNeg) + 1) → (vp_in (S3 46 x2.toNatClampNeg) 11 ∧ (vp_in (S3 47 x2.toNatClampNeg) 11 ∧ tk_Gs mX8_findFars none 42 [.ref 45, .int l1, .int l2, .int 1, .int (l4 + 1), .null, .null, .null] [] (tk_up (tk_up S5 56 (S3 46 x2.toNatClampNeg).toNatClampNeg (S5 56 (S3 46 x2.toNatClampNeg).toNatClampNeg)) 56 (S3 47 x2.toNatClampNeg).toNatClampNeg (((tk_up S5 56 (S3 46 x2.toNatClampNeg).toNatClampNeg (S5 56 (S3 46 x2.toNatClampNeg).toNatClampNeg)) 56 (S3 46 x2.toNatClampNeg).toNatClampNeg) + 1)) Q))))))))) ∧ (¬ (S5 56 (S3 46 x2.toNatClampNeg).toNatClampNeg) ≤ ((S5 56 (S3 47 x2.toNatClampNeg).toNatClampNeg) + 1) → (vp_in (S3 47 x2.toNatClampNeg) 11 ∧ (vp_in (S3 46 x2.toNatClampNeg) 11 ∧ (vp_in (S3 47 x2.toNatClampNeg) 11 ∧ (vp_in (S3 46 x2.toNatClampNeg) 11 ∧ ((((tk_up S5 56 (S3 46 x2.toNatClampNeg).toNatClampNeg ((S5 56 (S3 47 x2.toNatClampNeg).toNatClampNeg) + 1)) 56 (S3 47 x2.toNatClampNeg).toNatClampNeg) ≤ (((tk_up S5 56 (S3 46 x2.toNatClampNeg).toNatClampNeg ((S5 56 (S3 47 x2.toNatClampNeg).toNatClampNeg) + 1)) 56 (S3 46 x2.toNatClampNeg).toNatClampNeg) + 1) → (vp_in (S3 47 x2.toNatClampNeg) 11 ∧ (vp_in (S3 47 x2.toNatClampNeg) 11 ∧ tk_Gs mX8_findFars none 42 [.ref 45, .int l1, .int l2, .int 1, .int (l4 + 1), .null, .null, .null] [] (tk_up (tk_up S5 56 (S3 46 x2.toNatClampNeg).toNatClampNeg ((S5 56 (S3 47 x2.toNatClampNeg).toNatClampNeg) + 1)) 56 (S3 47 x2.toNatClampNeg).toNatClampNeg ((tk_up S5 56 (S3 46 x2.toNatClampNeg).toNatClampNeg ((S5 56 (S3 47 x2.toNatClampNeg).toNatClampNeg) + 1)) 56 (S3 47 x2.toNatClampNeg).toNatClampNeg)) Q))) ∧ (¬ ((tk_up S5 56 (S3 46 x2.toNatClampNeg).toNatClampNeg ((S5 56 (S3 47 x2.toNatClampNeg).toNatClampNeg) + 1)) 56 (S3 47 x2.toNatClampNeg).toNatClampNeg) ≤ (((tk_up S5 56 (S3 46 x2.toNatClampNeg).toNatClampNeg ((S5 56 (S3 47 x2.toNatClampNeg).toNatClampNeg) + 1)) 56 (S3 46 x2.toNatClampNeg).toNatClampNeg) + 1) → (vp_in (S3 46 x2.toNatClampNeg) 11 ∧ (vp_in (S3 47 x2.toNatClampNeg) 11 ∧ tk_Gs mX8_findFars none 42 [.ref 45, .int l1, .int l2, .int 1, .int (l4 + 1), .null, .null, .null] [] (tk_up (tk_up S5 56 (S3 46 x2.toNatClampNeg).toNatClampNeg ((S5 56 (S3 47 x2.toNatClampNeg).toNatClampNeg) + 1)) 56 (S3 47 x2.toNatClampNeg).toNatClampNeg (((tk_up S5 56 (S3 46 x2.toNatClampNeg).toNatClampNeg ((S5 56 (S3 47 x2.toNatClampNeg).toNatClampNeg) + 1)) 56 (S3 46 x2.toNatClampNeg).toNatClampNeg) + 1)) Q)))))))))))))))))))))))))))))))) : tk_Gs mX8_findFars none 42 [.ref 45, .int l1, .int l2, .int l3, .int l4, .null, .null, .null] [] S Q := by
  show tk_G _ 0 0 _ _ _ _ (tkSH, S, tkRF) _
  refine g_iload dX8_findFars_42 rfl ?_
  refine g_aload_n dX8_findFars_44 rfl ?_
  refine g_getI (n := 25) dX8_findFars_45 fl_X8_84 rfl (by decide) (by decide) rfl ?_
  refine g_icmp_gt (tgt := 227) dX8_findFars_48 (by decide) (fun c1 => ?_) (fun c1 => ?_)
  · have t := t.1 c1
    refine g_goto (tgt := 33) dX8_findFars_227 (by decide) ?_
    refine g_drop (ls' := [.ref 45, .int l1, .int l2, .int l3, .null, .null, .null, .null]) ⟨Or.inl rfl, Or.inl rfl, Or.inl rfl, Or.inl rfl, Or.inr rfl, Or.inl rfl, Or.inl rfl, Or.inl rfl, trivial⟩ ?_
    exact t
  · have t := t.2 c1
    refine g_aload_n dX8_findFars_51 rfl ?_
    refine g_iload dX8_findFars_52 rfl ?_
    refine s_V1i dX8_findFars_54 vm_X8_doorOf ml_X8_182 rfl rfl (by decide) (Nat.le_of_ble_eq_true rfl) rfl (tk_Ms.mono t (fun x2 S3 t => ?_))
    refine g_istore (ls' := [.ref 45, .int l1, .int l2, .int l3, .int l4, .int x2, .null, .null]) dX8_findFars_57 rfl (by decide) rfl ?_
    refine g_aload_n dX8_findFars_59 rfl ?_
    refine g_getR (n := 25) dX8_findFars_60 fl_X8_7 rfl (by decide) (by decide) rfl rfl ?_
    refine g_iload dX8_findFars_63 rfl ?_
    refine g_iald (n := 17) dX8_findFars_65 rfl t.1 ?_
    have t := t.2
    refine g_istore (ls' := [.ref 45, .int l1, .int l2, .int l3, .int l4, .int x2, .int (S3 46 x2.toNatClampNeg), .null]) dX8_findFars_66 rfl (by decide) rfl ?_
    refine g_aload_n dX8_findFars_68 rfl ?_
    refine g_getR (n := 25) dX8_findFars_69 fl_X8_13 rfl (by decide) (by decide) rfl rfl ?_
    refine g_iload dX8_findFars_72 rfl ?_
    refine g_iald (n := 17) dX8_findFars_74 rfl t.1 ?_
    have t := t.2
    refine g_istore (ls' := [.ref 45, .int l1, .int l2, .int l3, .int l4, .int x2, .int (S3 46 x2.toNatClampNeg), .int (S3 47 x2.toNatClampNeg)]) dX8_findFars_75 rfl (by decide) rfl ?_
    refine g_iload_n dX8_findFars_77 rfl ?_
    refine g_aload_n dX8_findFars_78 rfl ?_
    refine g_getR (n := 25) dX8_findFars_79 fl_X8_16 rfl (by decide) (by decide) rfl rfl ?_
    refine g_iload dX8_findFars_82 rfl ?_
    refine g_iald (n := 17) dX8_findFars_84 rfl t.1 ?_
    have t := t.2
    refine s_S2i dX8_findFars_85 sm_X8_has ml_X8_185 rfl (by decide) (Nat.le_of_ble_eq_true rfl) rfl (tk_Ms.mono t (fun x4 S5 t => ?_))
    refine g_if_eq (tgt := 221) dX8_findFars_88 (by decide) (fun c6 => ?_) (fun c6 => ?_)
    · have t := t.1 c6
      refine g_iinc (v := l4 + 1) (ls' := [.ref 45, .int l1, .int l2, .int l3, .int (l4 + 1), .int x2, .int (S3 46 x2.toNatClampNeg), .int (S3 47 x2.toNatClampNeg)]) dX8_findFars_221 rfl rfl (by decide) rfl rfl ?_
      refine g_goto (tgt := 42) dX8_findFars_224 (by decide) ?_
      refine g_drop (ls' := [.ref 45, .int l1, .int l2, .int l3, .int (l4 + 1), .null, .null, .null]) ⟨Or.inl rfl, Or.inl rfl, Or.inl rfl, Or.inl rfl, Or.inl rfl, Or.inr rfl, Or.inr rfl, Or.inr rfl, trivial⟩ ?_
      exact t
    · have t := t.2 c6
      refine g_aload_n dX8_findFars_91 rfl ?_
      refine g_getR (n := 25) dX8_findFars_92 fl_X8_40 rfl (by decide) (by decide) rfl rfl ?_
      refine g_iload dX8_findFars_95 rfl ?_
      refine g_iald (n := 11) dX8_findFars_97 rfl t.1 ?_
      have t := t.2
      refine g_aload_n dX8_findFars_98 rfl ?_
      refine g_getR (n := 25) dX8_findFars_99 fl_X8_40 rfl (by decide) (by decide) rfl rfl ?_
      refine g_iload dX8_findFars_102 rfl ?_
      refine g_iald (n := 11) dX8_findFars_104 rfl t.1 ?_
      have t := t.2
      refine g_iconst (v := 1) dX8_findFars_105 (by decide) ?_
      refine g_iadd dX8_findFars_106 ?_
      refine g_icmp_gt (tgt := 129) dX8_findFars_107 (by decide) (fun c7 => ?_) (fun c7 => ?_)
      · have t := t.1 c7
        refine g_aload_n dX8_findFars_129 rfl ?_
        refine g_getR (n := 25) dX8_findFars_130 fl_X8_40 rfl (by decide) (by decide) rfl rfl ?_
        refine g_iload dX8_findFars_133 rfl ?_
        refine g_aload_n dX8_findFars_135 rfl ?_
        refine g_getR (n := 25) dX8_findFars_136 fl_X8_40 rfl (by decide) (by decide) rfl rfl ?_
        refine g_iload dX8_findFars_139 rfl ?_
        refine g_iald (n := 11) dX8_findFars_141 rfl t.1 ?_
        have t := t.2
        refine g_aload_n dX8_findFars_142 rfl ?_
        refine g_getR (n := 25) dX8_findFars_143 fl_X8_40 rfl (by decide) (by decide) rfl rfl ?_
        refine g_iload dX8_findFars_146 rfl ?_
        refine g_iald (n := 11) dX8_findFars_148 rfl t.1 ?_
        have t := t.2
        refine g_iconst (v := 1) dX8_findFars_149 (by decide) ?_
        refine g_iadd dX8_findFars_150 ?_
        refine g_icmp_le (tgt := 166) dX8_findFars_151 (by decide) (fun c8 => ?_) (fun c8 => ?_)
        · have t := t.1 c8
          refine g_aload_n dX8_findFars_166 rfl ?_
          refine g_getR (n := 25) dX8_findFars_167 fl_X8_40 rfl (by decide) (by decide) rfl rfl ?_
          refine g_iload dX8_findFars_170 rfl ?_
          refine g_iald (n := 11) dX8_findFars_172 rfl t.1 ?_
          have t := t.2
          refine g_iast (n := 11) dX8_findFars_173 rfl t.1 ?_
          have t := t.2
          refine g_aload_n dX8_findFars_174 rfl ?_
          refine g_getR (n := 25) dX8_findFars_175 fl_X8_40 rfl (by decide) (by decide) rfl rfl ?_
          refine g_iload dX8_findFars_178 rfl ?_
          refine g_aload_n dX8_findFars_180 rfl ?_
          refine g_getR (n := 25) dX8_findFars_181 fl_X8_40 rfl (by decide) (by decide) rfl rfl ?_
          refine g_iload dX8_findFars_184 rfl ?_
          refine g_iald (n := 11) dX8_findFars_186 rfl t.1 ?_
          have t := t.2
          refine g_aload_n dX8_findFars_187 rfl ?_
          refine g_getR (n := 25) dX8_findFars_188 fl_X8_40 rfl (by decide) (by decide) rfl rfl ?_
          refine g_iload dX8_findFars_191 rfl ?_
          refine g_iald (n := 11) dX8_findFars_193 rfl t.1 ?_
          have t := t.2
          refine g_iconst (v := 1) dX8_findFars_194 (by decide) ?_
          refine g_iadd dX8_findFars_195 ?_
          refine g_icmp_le (tgt := 211) dX8_findFars_196 (by decide) (fun c9 => ?_) (fun c9 => ?_)
          · have t := t.1 c9
            refine g_aload_n dX8_findFars_211 rfl ?_
            refine g_getR (n := 25) dX8_findFars_212 fl_X8_40 rfl (by decide) (by decide) rfl rfl ?_
            refine g_iload dX8_findFars_215 rfl ?_
            refine g_iald (n := 11) dX8_findFars_217 rfl t.1 ?_
            have t := t.2
            refine g_iast (n := 11) dX8_findFars_218 rfl t.1 ?_
            have t := t.2
            refine g_iconst (v := 1) dX8_findFars_219 (by decide) ?_
            refine g_istore_n (ls' := [.ref 45, .int l1, .int l2, .int 1, .int l4, .int x2, .int (S3 46 x2.toNatClampNeg), .int (S3 47 x2.toNatClampNeg)]) dX8_findFars_220 rfl (by decide) rfl ?_
            refine g_iinc (v := l4 + 1) (ls' := [.ref 45, .int l1, .int l2, .int 1, .int (l4 + 1), .int x2, .int (S3 46 x2.toNatClampNeg), .int (S3 47 x2.toNatClampNeg)]) dX8_findFars_221 rfl rfl (by decide) rfl rfl ?_
            refine g_goto (tgt := 42) dX8_findFars_224 (by decide) ?_
            refine g_drop (ls' := [.ref 45, .int l1, .int l2, .int 1, .int (l4 + 1), .null, .null, .null]) ⟨Or.inl rfl, Or.inl rfl, Or.inl rfl, Or.inl rfl, Or.inl rfl, Or.inr rfl, Or.inr rfl, Or.inr rfl, trivial⟩ ?_
            exact t
          · have t := t.2 c9
            refine g_aload_n dX8_findFars_199 rfl ?_
            refine g_getR (n := 25) dX8_findFars_200 fl_X8_40 rfl (by decide) (by decide) rfl rfl ?_
            refine g_iload dX8_findFars_203 rfl ?_
            refine g_iald (n := 11) dX8_findFars_205 rfl t.1 ?_
            have t := t.2
            refine g_iconst (v := 1) dX8_findFars_206 (by decide) ?_
            refine g_iadd dX8_findFars_207 ?_
            refine g_goto (tgt := 218) dX8_findFars_208 (by decide) ?_
            refine g_iast (n := 11) dX8_findFars_218 rfl t.1 ?_
            have t := t.2
            refine g_iconst (v := 1) dX8_findFars_219 (by decide) ?_
            refine g_istore_n (ls' := [.ref 45, .int l1, .int l2, .int 1, .int l4, .int x2, .int (S3 46 x2.toNatClampNeg), .int (S3 47 x2.toNatClampNeg)]) dX8_findFars_220 rfl (by decide) rfl ?_
            refine g_iinc (v := l4 + 1) (ls' := [.ref 45, .int l1, .int l2, .int 1, .int (l4 + 1), .int x2, .int (S3 46 x2.toNatClampNeg), .int (S3 47 x2.toNatClampNeg)]) dX8_findFars_221 rfl rfl (by decide) rfl rfl ?_
            refine g_goto (tgt := 42) dX8_findFars_224 (by decide) ?_
            refine g_drop (ls' := [.ref 45, .int l1, .int l2, .int 1, .int (l4 + 1), .null, .null, .null]) ⟨Or.inl rfl, Or.inl rfl, Or.inl rfl, Or.inl rfl, Or.inl rfl, Or.inr rfl, Or.inr rfl, Or.inr rfl, trivial⟩ ?_
            exact t
        · have t := t.2 c8
          refine g_aload_n dX8_findFars_154 rfl ?_
          refine g_getR (n := 25) dX8_findFars_155 fl_X8_40 rfl (by decide) (by decide) rfl rfl ?_
          refine g_iload dX8_findFars_158 rfl ?_
          refine g_iald (n := 11) dX8_findFars_160 rfl t.1 ?_
          have t := t.2
          refine g_iconst (v := 1) dX8_findFars_161 (by decide) ?_
          refine g_iadd dX8_findFars_162 ?_
          refine g_goto (tgt := 173) dX8_findFars_163 (by decide) ?_
          refine g_iast (n := 11) dX8_findFars_173 rfl t.1 ?_
          have t := t.2
          refine g_aload_n dX8_findFars_174 rfl ?_
          refine g_getR (n := 25) dX8_findFars_175 fl_X8_40 rfl (by decide) (by decide) rfl rfl ?_
          refine g_iload dX8_findFars_178 rfl ?_
          refine g_aload_n dX8_findFars_180 rfl ?_
          refine g_getR (n := 25) dX8_findFars_181 fl_X8_40 rfl (by decide) (by decide) rfl rfl ?_
          refine g_iload dX8_findFars_184 rfl ?_
          refine g_iald (n := 11) dX8_findFars_186 rfl t.1 ?_
          have t := t.2
          refine g_aload_n dX8_findFars_187 rfl ?_
          refine g_getR (n := 25) dX8_findFars_188 fl_X8_40 rfl (by decide) (by decide) rfl rfl ?_
          refine g_iload dX8_findFars_191 rfl ?_
          refine g_iald (n := 11) dX8_findFars_193 rfl t.1 ?_
          have t := t.2
          refine g_iconst (v := 1) dX8_findFars_194 (by decide) ?_
          refine g_iadd dX8_findFars_195 ?_
          refine g_icmp_le (tgt := 211) dX8_findFars_196 (by decide) (fun c10 => ?_) (fun c10 => ?_)
          · have t := t.1 c10
            refine g_aload_n dX8_findFars_211 rfl ?_
            refine g_getR (n := 25) dX8_findFars_212 fl_X8_40 rfl (by decide) (by decide) rfl rfl ?_
            refine g_iload dX8_findFars_215 rfl ?_
            refine g_iald (n := 11) dX8_findFars_217 rfl t.1 ?_
            have t := t.2
            refine g_iast (n := 11) dX8_findFars_218 rfl t.1 ?_
            have t := t.2
            refine g_iconst (v := 1) dX8_findFars_219 (by decide) ?_
            refine g_istore_n (ls' := [.ref 45, .int l1, .int l2, .int 1, .int l4, .int x2, .int (S3 46 x2.toNatClampNeg), .int (S3 47 x2.toNatClampNeg)]) dX8_findFars_220 rfl (by decide) rfl ?_
            refine g_iinc (v := l4 + 1) (ls' := [.ref 45, .int l1, .int l2, .int 1, .int (l4 + 1), .int x2, .int (S3 46 x2.toNatClampNeg), .int (S3 47 x2.toNatClampNeg)]) dX8_findFars_221 rfl rfl (by decide) rfl rfl ?_
            refine g_goto (tgt := 42) dX8_findFars_224 (by decide) ?_
            refine g_drop (ls' := [.ref 45, .int l1, .int l2, .int 1, .int (l4 + 1), .null, .null, .null]) ⟨Or.inl rfl, Or.inl rfl, Or.inl rfl, Or.inl rfl, Or.inl rfl, Or.inr rfl, Or.inr rfl, Or.inr rfl, trivial⟩ ?_
            exact t
          · have t := t.2 c10
            refine g_aload_n dX8_findFars_199 rfl ?_
            refine g_getR (n := 25) dX8_findFars_200 fl_X8_40 rfl (by decide) (by decide) rfl rfl ?_
            refine g_iload dX8_findFars_203 rfl ?_
            refine g_iald (n := 11) dX8_findFars_205 rfl t.1 ?_
            have t := t.2
            refine g_iconst (v := 1) dX8_findFars_206 (by decide) ?_
            refine g_iadd dX8_findFars_207 ?_
            refine g_goto (tgt := 218) dX8_findFars_208 (by decide) ?_
            refine g_iast (n := 11) dX8_findFars_218 rfl t.1 ?_
            have t := t.2
            refine g_iconst (v := 1) dX8_findFars_219 (by decide) ?_
            refine g_istore_n (ls' := [.ref 45, .int l1, .int l2, .int 1, .int l4, .int x2, .int (S3 46 x2.toNatClampNeg), .int (S3 47 x2.toNatClampNeg)]) dX8_findFars_220 rfl (by decide) rfl ?_
            refine g_iinc (v := l4 + 1) (ls' := [.ref 45, .int l1, .int l2, .int 1, .int (l4 + 1), .int x2, .int (S3 46 x2.toNatClampNeg), .int (S3 47 x2.toNatClampNeg)]) dX8_findFars_221 rfl rfl (by decide) rfl rfl ?_
            refine g_goto (tgt := 42) dX8_findFars_224 (by decide) ?_
            refine g_drop (ls' := [.ref 45, .int l1, .int l2, .int 1, .int (l4 + 1), .null, .null, .null]) ⟨Or.inl rfl, Or.inl rfl, Or.inl rfl, Or.inl rfl, Or.inl rfl, Or.inr rfl, Or.inr rfl, Or.inr rfl, trivial⟩ ?_
            exact t
      · have t := t.2 c7
        refine g_aload_n dX8_findFars_110 rfl ?_
        refine g_getR (n := 25) dX8_findFars_111 fl_X8_40 rfl (by decide) (by decide) rfl rfl ?_
        refine g_iload dX8_findFars_114 rfl ?_
        refine g_iald (n := 11) dX8_findFars_116 rfl t.1 ?_
        have t := t.2
        refine g_aload_n dX8_findFars_117 rfl ?_
        refine g_getR (n := 25) dX8_findFars_118 fl_X8_40 rfl (by decide) (by decide) rfl rfl ?_
        refine g_iload dX8_findFars_121 rfl ?_
        refine g_iald (n := 11) dX8_findFars_123 rfl t.1 ?_
        have t := t.2
        refine g_iconst (v := 1) dX8_findFars_124 (by decide) ?_
        refine g_iadd dX8_findFars_125 ?_
        refine g_icmp_le (tgt := 221) dX8_findFars_126 (by decide) (fun c11 => ?_) (fun c11 => ?_)
        · have t := t.1 c11
          refine g_iinc (v := l4 + 1) (ls' := [.ref 45, .int l1, .int l2, .int l3, .int (l4 + 1), .int x2, .int (S3 46 x2.toNatClampNeg), .int (S3 47 x2.toNatClampNeg)]) dX8_findFars_221 rfl rfl (by decide) rfl rfl ?_
          refine g_goto (tgt := 42) dX8_findFars_224 (by decide) ?_
          refine g_drop (ls' := [.ref 45, .int l1, .int l2, .int l3, .int (l4 + 1), .null, .null, .null]) ⟨Or.inl rfl, Or.inl rfl, Or.inl rfl, Or.inl rfl, Or.inl rfl, Or.inr rfl, Or.inr rfl, Or.inr rfl, trivial⟩ ?_
          exact t
        · have t := t.2 c11
          refine g_aload_n dX8_findFars_129 rfl ?_
          refine g_getR (n := 25) dX8_findFars_130 fl_X8_40 rfl (by decide) (by decide) rfl rfl ?_
          refine g_iload dX8_findFars_133 rfl ?_
          refine g_aload_n dX8_findFars_135 rfl ?_
          refine g_getR (n := 25) dX8_findFars_136 fl_X8_40 rfl (by decide) (by decide) rfl rfl ?_
          refine g_iload dX8_findFars_139 rfl ?_
          refine g_iald (n := 11) dX8_findFars_141 rfl t.1 ?_
          have t := t.2
          refine g_aload_n dX8_findFars_142 rfl ?_
          refine g_getR (n := 25) dX8_findFars_143 fl_X8_40 rfl (by decide) (by decide) rfl rfl ?_
          refine g_iload dX8_findFars_146 rfl ?_
          refine g_iald (n := 11) dX8_findFars_148 rfl t.1 ?_
          have t := t.2
          refine g_iconst (v := 1) dX8_findFars_149 (by decide) ?_
          refine g_iadd dX8_findFars_150 ?_
          refine g_icmp_le (tgt := 166) dX8_findFars_151 (by decide) (fun c12 => ?_) (fun c12 => ?_)
          · have t := t.1 c12
            refine g_aload_n dX8_findFars_166 rfl ?_
            refine g_getR (n := 25) dX8_findFars_167 fl_X8_40 rfl (by decide) (by decide) rfl rfl ?_
            refine g_iload dX8_findFars_170 rfl ?_
            refine g_iald (n := 11) dX8_findFars_172 rfl t.1 ?_
            have t := t.2
            refine g_iast (n := 11) dX8_findFars_173 rfl t.1 ?_
            have t := t.2
            refine g_aload_n dX8_findFars_174 rfl ?_
            refine g_getR (n := 25) dX8_findFars_175 fl_X8_40 rfl (by decide) (by decide) rfl rfl ?_
            refine g_iload dX8_findFars_178 rfl ?_
            refine g_aload_n dX8_findFars_180 rfl ?_
            refine g_getR (n := 25) dX8_findFars_181 fl_X8_40 rfl (by decide) (by decide) rfl rfl ?_
            refine g_iload dX8_findFars_184 rfl ?_
            refine g_iald (n := 11) dX8_findFars_186 rfl t.1 ?_
            have t := t.2
            refine g_aload_n dX8_findFars_187 rfl ?_
            refine g_getR (n := 25) dX8_findFars_188 fl_X8_40 rfl (by decide) (by decide) rfl rfl ?_
            refine g_iload dX8_findFars_191 rfl ?_
            refine g_iald (n := 11) dX8_findFars_193 rfl t.1 ?_
            have t := t.2
            refine g_iconst (v := 1) dX8_findFars_194 (by decide) ?_
            refine g_iadd dX8_findFars_195 ?_
            refine g_icmp_le (tgt := 211) dX8_findFars_196 (by decide) (fun c13 => ?_) (fun c13 => ?_)
            · have t := t.1 c13
              refine g_aload_n dX8_findFars_211 rfl ?_
              refine g_getR (n := 25) dX8_findFars_212 fl_X8_40 rfl (by decide) (by decide) rfl rfl ?_
              refine g_iload dX8_findFars_215 rfl ?_
              refine g_iald (n := 11) dX8_findFars_217 rfl t.1 ?_
              have t := t.2
              refine g_iast (n := 11) dX8_findFars_218 rfl t.1 ?_
              have t := t.2
              refine g_iconst (v := 1) dX8_findFars_219 (by decide) ?_
              refine g_istore_n (ls' := [.ref 45, .int l1, .int l2, .int 1, .int l4, .int x2, .int (S3 46 x2.toNatClampNeg), .int (S3 47 x2.toNatClampNeg)]) dX8_findFars_220 rfl (by decide) rfl ?_
              refine g_iinc (v := l4 + 1) (ls' := [.ref 45, .int l1, .int l2, .int 1, .int (l4 + 1), .int x2, .int (S3 46 x2.toNatClampNeg), .int (S3 47 x2.toNatClampNeg)]) dX8_findFars_221 rfl rfl (by decide) rfl rfl ?_
              refine g_goto (tgt := 42) dX8_findFars_224 (by decide) ?_
              refine g_drop (ls' := [.ref 45, .int l1, .int l2, .int 1, .int (l4 + 1), .null, .null, .null]) ⟨Or.inl rfl, Or.inl rfl, Or.inl rfl, Or.inl rfl, Or.inl rfl, Or.inr rfl, Or.inr rfl, Or.inr rfl, trivial⟩ ?_
              exact t
            · have t := t.2 c13
              refine g_aload_n dX8_findFars_199 rfl ?_
              refine g_getR (n := 25) dX8_findFars_200 fl_X8_40 rfl (by decide) (by decide) rfl rfl ?_
              refine g_iload dX8_findFars_203 rfl ?_
              refine g_iald (n := 11) dX8_findFars_205 rfl t.1 ?_
              have t := t.2
              refine g_iconst (v := 1) dX8_findFars_206 (by decide) ?_
              refine g_iadd dX8_findFars_207 ?_
              refine g_goto (tgt := 218) dX8_findFars_208 (by decide) ?_
              refine g_iast (n := 11) dX8_findFars_218 rfl t.1 ?_
              have t := t.2
              refine g_iconst (v := 1) dX8_findFars_219 (by decide) ?_
              refine g_istore_n (ls' := [.ref 45, .int l1, .int l2, .int 1, .int l4, .int x2, .int (S3 46 x2.toNatClampNeg), .int (S3 47 x2.toNatClampNeg)]) dX8_findFars_220 rfl (by decide) rfl ?_
              refine g_iinc (v := l4 + 1) (ls' := [.ref 45, .int l1, .int l2, .int 1, .int (l4 + 1), .int x2, .int (S3 46 x2.toNatClampNeg), .int (S3 47 x2.toNatClampNeg)]) dX8_findFars_221 rfl rfl (by decide) rfl rfl ?_
              refine g_goto (tgt := 42) dX8_findFars_224 (by decide) ?_
              refine g_drop (ls' := [.ref 45, .int l1, .int l2, .int 1, .int (l4 + 1), .null, .null, .null]) ⟨Or.inl rfl, Or.inl rfl, Or.inl rfl, Or.inl rfl, Or.inl rfl, Or.inr rfl, Or.inr rfl, Or.inr rfl, trivial⟩ ?_
              exact t
          · have t := t.2 c12
            refine g_aload_n dX8_findFars_154 rfl ?_
            refine g_getR (n := 25) dX8_findFars_155 fl_X8_40 rfl (by decide) (by decide) rfl rfl ?_
            refine g_iload dX8_findFars_158 rfl ?_
            refine g_iald (n := 11) dX8_findFars_160 rfl t.1 ?_
            have t := t.2
            refine g_iconst (v := 1) dX8_findFars_161 (by decide) ?_
            refine g_iadd dX8_findFars_162 ?_
            refine g_goto (tgt := 173) dX8_findFars_163 (by decide) ?_
            refine g_iast (n := 11) dX8_findFars_173 rfl t.1 ?_
            have t := t.2
            refine g_aload_n dX8_findFars_174 rfl ?_
            refine g_getR (n := 25) dX8_findFars_175 fl_X8_40 rfl (by decide) (by decide) rfl rfl ?_
            refine g_iload dX8_findFars_178 rfl ?_
            refine g_aload_n dX8_findFars_180 rfl ?_
            refine g_getR (n := 25) dX8_findFars_181 fl_X8_40 rfl (by decide) (by decide) rfl rfl ?_
            refine g_iload dX8_findFars_184 rfl ?_
            refine g_iald (n := 11) dX8_findFars_186 rfl t.1 ?_
            have t := t.2
            refine g_aload_n dX8_findFars_187 rfl ?_
            refine g_getR (n := 25) dX8_findFars_188 fl_X8_40 rfl (by decide) (by decide) rfl rfl ?_
            refine g_iload dX8_findFars_191 rfl ?_
            refine g_iald (n := 11) dX8_findFars_193 rfl t.1 ?_
            have t := t.2
            refine g_iconst (v := 1) dX8_findFars_194 (by decide) ?_
            refine g_iadd dX8_findFars_195 ?_
            refine g_icmp_le (tgt := 211) dX8_findFars_196 (by decide) (fun c14 => ?_) (fun c14 => ?_)
            · have t := t.1 c14
              refine g_aload_n dX8_findFars_211 rfl ?_
              refine g_getR (n := 25) dX8_findFars_212 fl_X8_40 rfl (by decide) (by decide) rfl rfl ?_
              refine g_iload dX8_findFars_215 rfl ?_
              refine g_iald (n := 11) dX8_findFars_217 rfl t.1 ?_
              have t := t.2
              refine g_iast (n := 11) dX8_findFars_218 rfl t.1 ?_
              have t := t.2
              refine g_iconst (v := 1) dX8_findFars_219 (by decide) ?_
              refine g_istore_n (ls' := [.ref 45, .int l1, .int l2, .int 1, .int l4, .int x2, .int (S3 46 x2.toNatClampNeg), .int (S3 47 x2.toNatClampNeg)]) dX8_findFars_220 rfl (by decide) rfl ?_
              refine g_iinc (v := l4 + 1) (ls' := [.ref 45, .int l1, .int l2, .int 1, .int (l4 + 1), .int x2, .int (S3 46 x2.toNatClampNeg), .int (S3 47 x2.toNatClampNeg)]) dX8_findFars_221 rfl rfl (by decide) rfl rfl ?_
              refine g_goto (tgt := 42) dX8_findFars_224 (by decide) ?_
              refine g_drop (ls' := [.ref 45, .int l1, .int l2, .int 1, .int (l4 + 1), .null, .null, .null]) ⟨Or.inl rfl, Or.inl rfl, Or.inl rfl, Or.inl rfl, Or.inl rfl, Or.inr rfl, Or.inr rfl, Or.inr rfl, trivial⟩ ?_
              exact t
            · have t := t.2 c14
              refine g_aload_n dX8_findFars_199 rfl ?_
              refine g_getR (n := 25) dX8_findFars_200 fl_X8_40 rfl (by decide) (by decide) rfl rfl ?_
              refine g_iload dX8_findFars_203 rfl ?_
              refine g_iald (n := 11) dX8_findFars_205 rfl t.1 ?_
              have t := t.2
              refine g_iconst (v := 1) dX8_findFars_206 (by decide) ?_
              refine g_iadd dX8_findFars_207 ?_
              refine g_goto (tgt := 218) dX8_findFars_208 (by decide) ?_
              refine g_iast (n := 11) dX8_findFars_218 rfl t.1 ?_
              have t := t.2
              refine g_iconst (v := 1) dX8_findFars_219 (by decide) ?_
              refine g_istore_n (ls' := [.ref 45, .int l1, .int l2, .int 1, .int l4, .int x2, .int (S3 46 x2.toNatClampNeg), .int (S3 47 x2.toNatClampNeg)]) dX8_findFars_220 rfl (by decide) rfl ?_
              refine g_iinc (v := l4 + 1) (ls' := [.ref 45, .int l1, .int l2, .int 1, .int (l4 + 1), .int x2, .int (S3 46 x2.toNatClampNeg), .int (S3 47 x2.toNatClampNeg)]) dX8_findFars_221 rfl rfl (by decide) rfl rfl ?_
              refine g_goto (tgt := 42) dX8_findFars_224 (by decide) ?_
              refine g_drop (ls' := [.ref 45, .int l1, .int l2, .int 1, .int (l4 + 1), .null, .null, .null]) ⟨Or.inl rfl, Or.inl rfl, Or.inl rfl, Or.inl rfl, Or.inl rfl, Or.inr rfl, Or.inr rfl, Or.inr rfl, trivial⟩ ?_
              exact t
theorem w_X8_visit {Q : Int32 → tS → Prop} {S : tS} (p1 : Int32) (p2 : Int32) (p3 : Int32) (t : (tk_Ms mX8_isSister [.int p1] S (fun x1 S2 => ((x1 = 0 → (tk_okQ mX8_visit Q) (-1) S2) ∧ (¬ x1 = 0 → (tk_Ms mX8_isPlace [.int p2] S2 (fun x4 S5 => ((x4 = 0 → (tk_okQ mX8_visit Q) (-1) S5) ∧ (¬ x4 = 0 → (tk_Ms mX8_in [.long ((p3 : Int32).toInt64), .long (0 : Int64), .long (30 : Int64)] S5 (fun x7 S8 => ((¬ x7 = 0 → (tk_Ms mX8_ringOf [.ref 45, .int p1, .int 0] S8 (fun x10 S11 => (tk_Ms mX8_findFars [.ref 45, .int p2, .int x10] S11 (fun _ S13 => (vp_in 0 11 ∧ ((¬ (S13 56 0) = 99 → tk_Gs mX8_visit none 60 [.ref 45, .int p1, .int p2, .int p3, .int x10, .int 0, .null, .null] [] S13 (tk_okQ mX8_visit Q)) ∧ ((S13 56 0) = 99 → (tk_okQ mX8_visit Q) (-2) S13)))))))) ∧ (x7 = 0 → (tk_okQ mX8_visit Q) (-1) S8))))))))))))) : tk_Ms mX8_visit [.ref 45, .int p1, .int p2, .int p3] S Q := by
  refine tk_Ms.of (ls := [.ref 45, .int p1, .int p2, .int p3, .null, .null, .null, .null]) (by decide) (by first | exact Or.inl rfl | exact Or.inr (Or.inl rfl) | exact Or.inr (Or.inr rfl)) (Nat.le_of_ble_eq_true rfl) rfl ?_
  refine g_iload_n dX8_visit_0 rfl ?_
  refine s_S1i dX8_visit_1 sm_X8_isSister ml_X8_188 rfl (by decide) (Nat.le_of_ble_eq_true rfl) rfl (tk_Ms.mono t (fun x1 S2 t => ?_))
  refine g_if_eq (tgt := 26) dX8_visit_4 (by decide) (fun c3 => ?_) (fun c3 => ?_)
  · have t := t.1 c3
    refine g_iconst (v := (-1)) dX8_visit_26 (by decide) ?_
    exact g_iret (st := []) dX8_visit_27 (fun e => by cases e) ⟨_, rfl, t⟩
  · have t := t.2 c3
    refine g_iload_n dX8_visit_7 rfl ?_
    refine s_S1i dX8_visit_8 sm_X8_isPlace ml_X8_74 rfl (by decide) (Nat.le_of_ble_eq_true rfl) rfl (tk_Ms.mono t (fun x4 S5 t => ?_))
    refine g_if_eq (tgt := 26) dX8_visit_11 (by decide) (fun c6 => ?_) (fun c6 => ?_)
    · have t := t.1 c6
      refine g_iconst (v := (-1)) dX8_visit_26 (by decide) ?_
      exact g_iret (st := []) dX8_visit_27 (fun e => by cases e) ⟨_, rfl, t⟩
    · have t := t.2 c6
      refine g_iload_n dX8_visit_14 rfl ?_
      refine g_i2l dX8_visit_15 ?_
      refine g_lconst (v := 0) dX8_visit_16 (by decide) ?_
      refine g_ldc2 (v := 30) dX8_visit_17 kl_X8_191 ?_
      refine s_S3i dX8_visit_20 sm_X8_in ml_X8_66 rfl (by decide) (Nat.le_of_ble_eq_true rfl) rfl (tk_Ms.mono t (fun x7 S8 t => ?_))
      refine g_if_ne (tgt := 28) dX8_visit_23 (by decide) (fun c9 => ?_) (fun c9 => ?_)
      · have t := t.1 c9
        refine g_aload_n dX8_visit_28 rfl ?_
        refine g_iload_n dX8_visit_29 rfl ?_
        refine g_iconst (v := 0) dX8_visit_30 (by decide) ?_
        refine s_V2i dX8_visit_31 vm_X8_ringOf ml_X8_193 rfl rfl (by decide) (Nat.le_of_ble_eq_true rfl) rfl (tk_Ms.mono t (fun x10 S11 t => ?_))
        refine g_istore (ls' := [.ref 45, .int p1, .int p2, .int p3, .int x10, .null, .null, .null]) dX8_visit_34 rfl (by decide) rfl ?_
        refine g_aload_n dX8_visit_36 rfl ?_
        refine g_iload_n dX8_visit_37 rfl ?_
        refine g_iload dX8_visit_38 rfl ?_
        refine s_V2v dX8_visit_40 vm_X8_findFars ml_X8_197 rfl rfl (by decide) (Nat.le_of_ble_eq_true rfl) rfl (tk_Ms.mono t (fun _ S13 t => ?_))
        refine g_aload_n dX8_visit_43 rfl ?_
        refine g_getR (n := 25) dX8_visit_44 fl_X8_40 rfl (by decide) (by decide) rfl rfl ?_
        refine g_iconst (v := 0) dX8_visit_47 (by decide) ?_
        refine g_iald (n := 11) dX8_visit_48 rfl t.1 ?_
        have t := t.2
        refine g_bipush (v := 99) dX8_visit_49 (by decide) ?_
        refine g_icmp_ne (tgt := 57) dX8_visit_51 (by decide) (fun c14 => ?_) (fun c14 => ?_)
        · have t := t.1 c14
          refine g_iconst (v := 0) dX8_visit_57 (by decide) ?_
          refine g_istore (ls' := [.ref 45, .int p1, .int p2, .int p3, .int x10, .int 0, .null, .null]) dX8_visit_58 rfl (by decide) rfl ?_
          exact t
        · have t := t.2 c14
          refine g_bipush (v := (-2)) dX8_visit_54 (by decide) ?_
          exact g_iret (st := []) dX8_visit_56 (fun e => by cases e) ⟨_, rfl, t⟩
      · have t := t.2 c9
        refine g_iconst (v := (-1)) dX8_visit_26 (by decide) ?_
        exact g_iret (st := []) dX8_visit_27 (fun e => by cases e) ⟨_, rfl, t⟩
theorem w_X8_visit_60 {Q : Int32 → tS → Prop} {S : tS} (l1 : Int32) (l2 : Int32) (l3 : Int32) (l4 : Int32) (l5 : Int32)  (t : ((l5 = l2 → (vp_in 0 11 ∧ Q ((2 * (S 56 0)) + l3) S)) ∧ (¬ l5 = l2 → tk_Gs mX8_visit none 69 [.ref 45, .int l1, .int l2, .int l3, .int l4, .int l5, .int 0, .null] [] S Q))) : tk_Gs mX8_visit none 60 [.ref 45, .int l1, .int l2, .int l3, .int l4, .int l5, .null, .null] [] S Q := by
  show tk_G _ 0 0 _ _ _ _ (tkSH, S, tkRF) _
  refine g_iload dX8_visit_60 rfl ?_
  refine g_iload_n dX8_visit_62 rfl ?_
  refine g_icmp_eq (tgt := 146) dX8_visit_63 (by decide) (fun c1 => ?_) (fun c1 => ?_)
  · have t := t.1 c1
    refine g_iconst (v := 2) dX8_visit_146 (by decide) ?_
    refine g_aload_n dX8_visit_147 rfl ?_
    refine g_getR (n := 25) dX8_visit_148 fl_X8_40 rfl (by decide) (by decide) rfl rfl ?_
    refine g_iconst (v := 0) dX8_visit_151 (by decide) ?_
    refine g_iald (n := 11) dX8_visit_152 rfl t.1 ?_
    have t := t.2
    refine g_imul dX8_visit_153 ?_
    refine g_iload_n dX8_visit_154 rfl ?_
    refine g_iadd dX8_visit_155 ?_
    exact g_iret (st := []) dX8_visit_156 (fun e => by cases e) ⟨_, rfl, t⟩
  · have t := t.2 c1
    refine g_iconst (v := 0) dX8_visit_66 (by decide) ?_
    refine g_istore (ls' := [.ref 45, .int l1, .int l2, .int l3, .int l4, .int l5, .int 0, .null]) dX8_visit_67 rfl (by decide) rfl ?_
    exact t
theorem w_X8_visit_69 {Q : Int32 → tS → Prop} {S : tS} (l1 : Int32) (l2 : Int32) (l3 : Int32) (l4 : Int32) (l5 : Int32) (l6 : Int32)  (t : (tk_Ms mX8_doorOf [.ref 45, .int l6] S (fun x1 S2 => (tk_Ms mX8_isNext [.ref 45, .int x1, .int l5, .int l4] S2 (fun x3 S4 => ((¬ x3 = 0 → (tk_Ms mX8_doorOf [.ref 45, .int l6] S4 (fun x6 S7 => (vp_in x6 17 ∧ (tk_Ms mX8_stain [.ref 45, .int (S7 48 x6.toNatClampNeg), .int l3] S7 (fun _ S9 => (vp_in x6 17 ∧ ((¬ (S9 46 x6.toNatClampNeg) = l5 → (vp_in x6 17 ∧ tk_Gs mX8_visit none 60 [.ref 45, .int l1, .int l2, .int l3, .int l4, .int (S9 46 x6.toNatClampNeg), .null, .null] [] S9 Q)) ∧ ((S9 46 x6.toNatClampNeg) = l5 → (vp_in x6 17 ∧ tk_Gs mX8_visit none 60 [.ref 45, .int l1, .int l2, .int l3, .int l4, .int (S9 47 x6.toNatClampNeg), .null, .null] [] S9 Q)))))))))) ∧ (x3 = 0 → tk_Gs mX8_visit none 69 [.ref 45, .int l1, .int l2, .int l3, .int l4, .int l5, .int (l6 + 1), .null] [] S4 Q))))))) : tk_Gs mX8_visit none 69 [.ref 45, .int l1, .int l2, .int l3, .int l4, .int l5, .int l6, .null] [] S Q := by
  show tk_G _ 0 0 _ _ _ _ (tkSH, S, tkRF) _
  refine g_aload_n dX8_visit_69 rfl ?_
  refine g_aload_n dX8_visit_70 rfl ?_
  refine g_iload dX8_visit_71 rfl ?_
  refine s_V1i dX8_visit_73 vm_X8_doorOf ml_X8_182 rfl rfl (by decide) (Nat.le_of_ble_eq_true rfl) rfl (tk_Ms.mono t (fun x1 S2 t => ?_))
  refine g_iload dX8_visit_76 rfl ?_
  refine g_iload dX8_visit_78 rfl ?_
  refine s_V3i dX8_visit_80 vm_X8_isNext ml_X8_201 rfl rfl (by decide) (Nat.le_of_ble_eq_true rfl) rfl (tk_Ms.mono t (fun x3 S4 t => ?_))
  refine g_if_ne (tgt := 92) dX8_visit_83 (by decide) (fun c5 => ?_) (fun c5 => ?_)
  · have t := t.1 c5
    refine g_aload_n dX8_visit_92 rfl ?_
    refine g_iload dX8_visit_93 rfl ?_
    refine s_V1i dX8_visit_95 vm_X8_doorOf ml_X8_182 rfl rfl (by decide) (Nat.le_of_ble_eq_true rfl) rfl (tk_Ms.mono t (fun x6 S7 t => ?_))
    refine g_istore (ls' := [.ref 45, .int l1, .int l2, .int l3, .int l4, .int l5, .int l6, .int x6]) dX8_visit_98 rfl (by decide) rfl ?_
    refine g_aload_n dX8_visit_100 rfl ?_
    refine g_aload_n dX8_visit_101 rfl ?_
    refine g_getR (n := 25) dX8_visit_102 fl_X8_16 rfl (by decide) (by decide) rfl rfl ?_
    refine g_iload dX8_visit_105 rfl ?_
    refine g_iald (n := 17) dX8_visit_107 rfl t.1 ?_
    have t := t.2
    refine g_iload_n dX8_visit_108 rfl ?_
    refine s_V2v dX8_visit_109 vm_X8_stain ml_X8_205 rfl rfl (by decide) (Nat.le_of_ble_eq_true rfl) rfl (tk_Ms.mono t (fun _ S9 t => ?_))
    refine g_aload_n dX8_visit_112 rfl ?_
    refine g_getR (n := 25) dX8_visit_113 fl_X8_7 rfl (by decide) (by decide) rfl rfl ?_
    refine g_iload dX8_visit_116 rfl ?_
    refine g_iald (n := 17) dX8_visit_118 rfl t.1 ?_
    have t := t.2
    refine g_iload dX8_visit_119 rfl ?_
    refine g_icmp_ne (tgt := 134) dX8_visit_121 (by decide) (fun c10 => ?_) (fun c10 => ?_)
    · have t := t.1 c10
      refine g_aload_n dX8_visit_134 rfl ?_
      refine g_getR (n := 25) dX8_visit_135 fl_X8_7 rfl (by decide) (by decide) rfl rfl ?_
      refine g_iload dX8_visit_138 rfl ?_
      refine g_iald (n := 17) dX8_visit_140 rfl t.1 ?_
      have t := t.2
      refine g_istore (ls' := [.ref 45, .int l1, .int l2, .int l3, .int l4, .int (S9 46 x6.toNatClampNeg), .int l6, .int x6]) dX8_visit_141 rfl (by decide) rfl ?_
      refine g_goto (tgt := 60) dX8_visit_143 (by decide) ?_
      refine g_drop (ls' := [.ref 45, .int l1, .int l2, .int l3, .int l4, .int (S9 46 x6.toNatClampNeg), .null, .null]) ⟨Or.inl rfl, Or.inl rfl, Or.inl rfl, Or.inl rfl, Or.inl rfl, Or.inl rfl, Or.inr rfl, Or.inr rfl, trivial⟩ ?_
      exact t
    · have t := t.2 c10
      refine g_aload_n dX8_visit_124 rfl ?_
      refine g_getR (n := 25) dX8_visit_125 fl_X8_13 rfl (by decide) (by decide) rfl rfl ?_
      refine g_iload dX8_visit_128 rfl ?_
      refine g_iald (n := 17) dX8_visit_130 rfl t.1 ?_
      have t := t.2
      refine g_goto (tgt := 141) dX8_visit_131 (by decide) ?_
      refine g_istore (ls' := [.ref 45, .int l1, .int l2, .int l3, .int l4, .int (S9 47 x6.toNatClampNeg), .int l6, .int x6]) dX8_visit_141 rfl (by decide) rfl ?_
      refine g_goto (tgt := 60) dX8_visit_143 (by decide) ?_
      refine g_drop (ls' := [.ref 45, .int l1, .int l2, .int l3, .int l4, .int (S9 47 x6.toNatClampNeg), .null, .null]) ⟨Or.inl rfl, Or.inl rfl, Or.inl rfl, Or.inl rfl, Or.inl rfl, Or.inl rfl, Or.inr rfl, Or.inr rfl, trivial⟩ ?_
      exact t
  · have t := t.2 c5
    refine g_iinc (v := l6 + 1) (ls' := [.ref 45, .int l1, .int l2, .int l3, .int l4, .int l5, .int (l6 + 1), .null]) dX8_visit_86 rfl rfl (by decide) rfl rfl ?_
    refine g_goto (tgt := 69) dX8_visit_89 (by decide) ?_
    exact t
theorem w_X8_isNext {Q : Int32 → tS → Prop} {S : tS} (p1 : Int32) (p2 : Int32) (p3 : Int32) (t : (vp_in p1 17 ∧ ((¬ (S 46 p1.toNatClampNeg) = p2 → (vp_in p1 17 ∧ ((¬ (S 47 p1.toNatClampNeg) = p2 → (((0 : Int32) = 0 → (tk_okQ mX8_isNext Q) 0 S) ∧ (¬ (0 : Int32) = 0 → (vp_in p1 17 ∧ (tk_Ms mX8_has [.int p3, .int (S 48 p1.toNatClampNeg)] S (fun x4 S5 => ((x4 = 0 → (tk_okQ mX8_isNext Q) 0 S5) ∧ (¬ x4 = 0 → (tk_okQ mX8_isNext Q) 1 S5)))))))) ∧ ((S 47 p1.toNatClampNeg) = p2 → (vp_in p1 17 ∧ (vp_in (S 46 p1.toNatClampNeg) 11 ∧ (vp_in p2 11 ∧ ((¬ (S 56 (S 46 p1.toNatClampNeg).toNatClampNeg) = ((S 56 p2.toNatClampNeg) - 1) → (((0 : Int32) = 0 → (tk_okQ mX8_isNext Q) 0 S) ∧ (¬ (0 : Int32) = 0 → (vp_in p1 17 ∧ (tk_Ms mX8_has [.int p3, .int (S 48 p1.toNatClampNeg)] S (fun x9 S10 => ((x9 = 0 → (tk_okQ mX8_isNext Q) 0 S10) ∧ (¬ x9 = 0 → (tk_okQ mX8_isNext Q) 1 S10)))))))) ∧ ((S 56 (S 46 p1.toNatClampNeg).toNatClampNeg) = ((S 56 p2.toNatClampNeg) - 1) → (((1 : Int32) = 0 → (tk_okQ mX8_isNext Q) 0 S) ∧ (¬ (1 : Int32) = 0 → (vp_in p1 17 ∧ (tk_Ms mX8_has [.int p3, .int (S 48 p1.toNatClampNeg)] S (fun x13 S14 => ((x13 = 0 → (tk_okQ mX8_isNext Q) 0 S14) ∧ (¬ x13 = 0 → (tk_okQ mX8_isNext Q) 1 S14)))))))))))))))) ∧ ((S 46 p1.toNatClampNeg) = p2 → (vp_in p1 17 ∧ (vp_in (S 47 p1.toNatClampNeg) 11 ∧ (vp_in p2 11 ∧ (((S 56 (S 47 p1.toNatClampNeg).toNatClampNeg) = ((S 56 p2.toNatClampNeg) - 1) → (((1 : Int32) = 0 → (tk_okQ mX8_isNext Q) 0 S) ∧ (¬ (1 : Int32) = 0 → (vp_in p1 17 ∧ (tk_Ms mX8_has [.int p3, .int (S 48 p1.toNatClampNeg)] S (fun x18 S19 => ((x18 = 0 → (tk_okQ mX8_isNext Q) 0 S19) ∧ (¬ x18 = 0 → (tk_okQ mX8_isNext Q) 1 S19)))))))) ∧ (¬ (S 56 (S 47 p1.toNatClampNeg).toNatClampNeg) = ((S 56 p2.toNatClampNeg) - 1) → (vp_in p1 17 ∧ ((¬ (S 47 p1.toNatClampNeg) = p2 → (((0 : Int32) = 0 → (tk_okQ mX8_isNext Q) 0 S) ∧ (¬ (0 : Int32) = 0 → (vp_in p1 17 ∧ (tk_Ms mX8_has [.int p3, .int (S 48 p1.toNatClampNeg)] S (fun x23 S24 => ((x23 = 0 → (tk_okQ mX8_isNext Q) 0 S24) ∧ (¬ x23 = 0 → (tk_okQ mX8_isNext Q) 1 S24)))))))) ∧ ((S 47 p1.toNatClampNeg) = p2 → (vp_in p1 17 ∧ (vp_in (S 46 p1.toNatClampNeg) 11 ∧ (vp_in p2 11 ∧ ((¬ (S 56 (S 46 p1.toNatClampNeg).toNatClampNeg) = ((S 56 p2.toNatClampNeg) - 1) → (((0 : Int32) = 0 → (tk_okQ mX8_isNext Q) 0 S) ∧ (¬ (0 : Int32) = 0 → (vp_in p1 17 ∧ (tk_Ms mX8_has [.int p3, .int (S 48 p1.toNatClampNeg)] S (fun x28 S29 => ((x28 = 0 → (tk_okQ mX8_isNext Q) 0 S29) ∧ (¬ x28 = 0 → (tk_okQ mX8_isNext Q) 1 S29)))))))) ∧ ((S 56 (S 46 p1.toNatClampNeg).toNatClampNeg) = ((S 56 p2.toNatClampNeg) - 1) → (((1 : Int32) = 0 → (tk_okQ mX8_isNext Q) 0 S) ∧ (¬ (1 : Int32) = 0 → (vp_in p1 17 ∧ (tk_Ms mX8_has [.int p3, .int (S 48 p1.toNatClampNeg)] S (fun x32 S33 => ((x32 = 0 → (tk_okQ mX8_isNext Q) 0 S33) ∧ (¬ x32 = 0 → (tk_okQ mX8_isNext Q) 1 S33)))))))))))))))))))))))) : tk_Ms mX8_isNext [.ref 45, .int p1, .int p2, .int p3] S Q := by
  refine tk_Ms.of (ls := [.ref 45, .int p1, .int p2, .int p3, .null]) (by decide) (by first | exact Or.inl rfl | exact Or.inr (Or.inl rfl) | exact Or.inr (Or.inr rfl)) (Nat.le_of_ble_eq_true rfl) rfl ?_
  refine g_aload_n dX8_isNext_0 rfl ?_
  refine g_getR (n := 25) dX8_isNext_1 fl_X8_7 rfl (by decide) (by decide) rfl rfl ?_
  refine g_iload_n dX8_isNext_4 rfl ?_
  refine g_iald (n := 17) dX8_isNext_5 rfl t.1 ?_
  have t := t.2
  refine g_iload_n dX8_isNext_6 rfl ?_
  refine g_icmp_ne (tgt := 32) dX8_isNext_7 (by decide) (fun c1 => ?_) (fun c1 => ?_)
  · have t := t.1 c1
    refine g_aload_n dX8_isNext_32 rfl ?_
    refine g_getR (n := 25) dX8_isNext_33 fl_X8_13 rfl (by decide) (by decide) rfl rfl ?_
    refine g_iload_n dX8_isNext_36 rfl ?_
    refine g_iald (n := 17) dX8_isNext_37 rfl t.1 ?_
    have t := t.2
    refine g_iload_n dX8_isNext_38 rfl ?_
    refine g_icmp_ne (tgt := 68) dX8_isNext_39 (by decide) (fun c2 => ?_) (fun c2 => ?_)
    · have t := t.1 c2
      refine g_iconst (v := 0) dX8_isNext_68 (by decide) ?_
      refine g_istore (ls' := [.ref 45, .int p1, .int p2, .int p3, .int 0]) dX8_isNext_69 rfl (by decide) rfl ?_
      refine g_iload dX8_isNext_71 rfl ?_
      refine g_if_eq (tgt := 93) dX8_isNext_73 (by decide) (fun c3 => ?_) (fun c3 => ?_)
      · have t := t.1 c3
        refine g_iconst (v := 0) dX8_isNext_93 (by decide) ?_
        exact g_iret (st := []) dX8_isNext_94 (fun e => by cases e) ⟨_, rfl, t⟩
      · have t := t.2 c3
        refine g_iload_n dX8_isNext_76 rfl ?_
        refine g_aload_n dX8_isNext_77 rfl ?_
        refine g_getR (n := 25) dX8_isNext_78 fl_X8_16 rfl (by decide) (by decide) rfl rfl ?_
        refine g_iload_n dX8_isNext_81 rfl ?_
        refine g_iald (n := 17) dX8_isNext_82 rfl t.1 ?_
        have t := t.2
        refine s_S2i dX8_isNext_83 sm_X8_has ml_X8_185 rfl (by decide) (Nat.le_of_ble_eq_true rfl) rfl (tk_Ms.mono t (fun x4 S5 t => ?_))
        refine g_if_eq (tgt := 93) dX8_isNext_86 (by decide) (fun c6 => ?_) (fun c6 => ?_)
        · have t := t.1 c6
          refine g_iconst (v := 0) dX8_isNext_93 (by decide) ?_
          exact g_iret (st := []) dX8_isNext_94 (fun e => by cases e) ⟨_, rfl, t⟩
        · have t := t.2 c6
          refine g_iconst (v := 1) dX8_isNext_89 (by decide) ?_
          refine g_goto (tgt := 94) dX8_isNext_90 (by decide) ?_
          exact g_iret (st := []) dX8_isNext_94 (fun e => by cases e) ⟨_, rfl, t⟩
    · have t := t.2 c2
      refine g_aload_n dX8_isNext_42 rfl ?_
      refine g_getR (n := 25) dX8_isNext_43 fl_X8_40 rfl (by decide) (by decide) rfl rfl ?_
      refine g_aload_n dX8_isNext_46 rfl ?_
      refine g_getR (n := 25) dX8_isNext_47 fl_X8_7 rfl (by decide) (by decide) rfl rfl ?_
      refine g_iload_n dX8_isNext_50 rfl ?_
      refine g_iald (n := 17) dX8_isNext_51 rfl t.1 ?_
      have t := t.2
      refine g_iald (n := 11) dX8_isNext_52 rfl t.1 ?_
      have t := t.2
      refine g_aload_n dX8_isNext_53 rfl ?_
      refine g_getR (n := 25) dX8_isNext_54 fl_X8_40 rfl (by decide) (by decide) rfl rfl ?_
      refine g_iload_n dX8_isNext_57 rfl ?_
      refine g_iald (n := 11) dX8_isNext_58 rfl t.1 ?_
      have t := t.2
      refine g_iconst (v := 1) dX8_isNext_59 (by decide) ?_
      refine g_isub dX8_isNext_60 ?_
      refine g_icmp_ne (tgt := 68) dX8_isNext_61 (by decide) (fun c7 => ?_) (fun c7 => ?_)
      · have t := t.1 c7
        refine g_iconst (v := 0) dX8_isNext_68 (by decide) ?_
        refine g_istore (ls' := [.ref 45, .int p1, .int p2, .int p3, .int 0]) dX8_isNext_69 rfl (by decide) rfl ?_
        refine g_iload dX8_isNext_71 rfl ?_
        refine g_if_eq (tgt := 93) dX8_isNext_73 (by decide) (fun c8 => ?_) (fun c8 => ?_)
        · have t := t.1 c8
          refine g_iconst (v := 0) dX8_isNext_93 (by decide) ?_
          exact g_iret (st := []) dX8_isNext_94 (fun e => by cases e) ⟨_, rfl, t⟩
        · have t := t.2 c8
          refine g_iload_n dX8_isNext_76 rfl ?_
          refine g_aload_n dX8_isNext_77 rfl ?_
          refine g_getR (n := 25) dX8_isNext_78 fl_X8_16 rfl (by decide) (by decide) rfl rfl ?_
          refine g_iload_n dX8_isNext_81 rfl ?_
          refine g_iald (n := 17) dX8_isNext_82 rfl t.1 ?_
          have t := t.2
          refine s_S2i dX8_isNext_83 sm_X8_has ml_X8_185 rfl (by decide) (Nat.le_of_ble_eq_true rfl) rfl (tk_Ms.mono t (fun x9 S10 t => ?_))
          refine g_if_eq (tgt := 93) dX8_isNext_86 (by decide) (fun c11 => ?_) (fun c11 => ?_)
          · have t := t.1 c11
            refine g_iconst (v := 0) dX8_isNext_93 (by decide) ?_
            exact g_iret (st := []) dX8_isNext_94 (fun e => by cases e) ⟨_, rfl, t⟩
          · have t := t.2 c11
            refine g_iconst (v := 1) dX8_isNext_89 (by decide) ?_
            refine g_goto (tgt := 94) dX8_isNext_90 (by decide) ?_
            exact g_iret (st := []) dX8_isNext_94 (fun e => by cases e) ⟨_, rfl, t⟩
      · have t := t.2 c7
        refine g_iconst (v := 1) dX8_isNext_64 (by decide) ?_
        refine g_goto (tgt := 69) dX8_isNext_65 (by decide) ?_
        refine g_istore (ls' := [.ref 45, .int p1, .int p2, .int p3, .int 1]) dX8_isNext_69 rfl (by decide) rfl ?_
        refine g_iload dX8_isNext_71 rfl ?_
        refine g_if_eq (tgt := 93) dX8_isNext_73 (by decide) (fun c12 => ?_) (fun c12 => ?_)
        · have t := t.1 c12
          refine g_iconst (v := 0) dX8_isNext_93 (by decide) ?_
          exact g_iret (st := []) dX8_isNext_94 (fun e => by cases e) ⟨_, rfl, t⟩
        · have t := t.2 c12
          refine g_iload_n dX8_isNext_76 rfl ?_
          refine g_aload_n dX8_isNext_77 rfl ?_
          refine g_getR (n := 25) dX8_isNext_78 fl_X8_16 rfl (by decide) (by decide) rfl rfl ?_
          refine g_iload_n dX8_isNext_81 rfl ?_
          refine g_iald (n := 17) dX8_isNext_82 rfl t.1 ?_
          have t := t.2
          refine s_S2i dX8_isNext_83 sm_X8_has ml_X8_185 rfl (by decide) (Nat.le_of_ble_eq_true rfl) rfl (tk_Ms.mono t (fun x13 S14 t => ?_))
          refine g_if_eq (tgt := 93) dX8_isNext_86 (by decide) (fun c15 => ?_) (fun c15 => ?_)
          · have t := t.1 c15
            refine g_iconst (v := 0) dX8_isNext_93 (by decide) ?_
            exact g_iret (st := []) dX8_isNext_94 (fun e => by cases e) ⟨_, rfl, t⟩
          · have t := t.2 c15
            refine g_iconst (v := 1) dX8_isNext_89 (by decide) ?_
            refine g_goto (tgt := 94) dX8_isNext_90 (by decide) ?_
            exact g_iret (st := []) dX8_isNext_94 (fun e => by cases e) ⟨_, rfl, t⟩
  · have t := t.2 c1
    refine g_aload_n dX8_isNext_10 rfl ?_
    refine g_getR (n := 25) dX8_isNext_11 fl_X8_40 rfl (by decide) (by decide) rfl rfl ?_
    refine g_aload_n dX8_isNext_14 rfl ?_
    refine g_getR (n := 25) dX8_isNext_15 fl_X8_13 rfl (by decide) (by decide) rfl rfl ?_
    refine g_iload_n dX8_isNext_18 rfl ?_
    refine g_iald (n := 17) dX8_isNext_19 rfl t.1 ?_
    have t := t.2
    refine g_iald (n := 11) dX8_isNext_20 rfl t.1 ?_
    have t := t.2
    refine g_aload_n dX8_isNext_21 rfl ?_
    refine g_getR (n := 25) dX8_isNext_22 fl_X8_40 rfl (by decide) (by decide) rfl rfl ?_
    refine g_iload_n dX8_isNext_25 rfl ?_
    refine g_iald (n := 11) dX8_isNext_26 rfl t.1 ?_
    have t := t.2
    refine g_iconst (v := 1) dX8_isNext_27 (by decide) ?_
    refine g_isub dX8_isNext_28 ?_
    refine g_icmp_eq (tgt := 64) dX8_isNext_29 (by decide) (fun c16 => ?_) (fun c16 => ?_)
    · have t := t.1 c16
      refine g_iconst (v := 1) dX8_isNext_64 (by decide) ?_
      refine g_goto (tgt := 69) dX8_isNext_65 (by decide) ?_
      refine g_istore (ls' := [.ref 45, .int p1, .int p2, .int p3, .int 1]) dX8_isNext_69 rfl (by decide) rfl ?_
      refine g_iload dX8_isNext_71 rfl ?_
      refine g_if_eq (tgt := 93) dX8_isNext_73 (by decide) (fun c17 => ?_) (fun c17 => ?_)
      · have t := t.1 c17
        refine g_iconst (v := 0) dX8_isNext_93 (by decide) ?_
        exact g_iret (st := []) dX8_isNext_94 (fun e => by cases e) ⟨_, rfl, t⟩
      · have t := t.2 c17
        refine g_iload_n dX8_isNext_76 rfl ?_
        refine g_aload_n dX8_isNext_77 rfl ?_
        refine g_getR (n := 25) dX8_isNext_78 fl_X8_16 rfl (by decide) (by decide) rfl rfl ?_
        refine g_iload_n dX8_isNext_81 rfl ?_
        refine g_iald (n := 17) dX8_isNext_82 rfl t.1 ?_
        have t := t.2
        refine s_S2i dX8_isNext_83 sm_X8_has ml_X8_185 rfl (by decide) (Nat.le_of_ble_eq_true rfl) rfl (tk_Ms.mono t (fun x18 S19 t => ?_))
        refine g_if_eq (tgt := 93) dX8_isNext_86 (by decide) (fun c20 => ?_) (fun c20 => ?_)
        · have t := t.1 c20
          refine g_iconst (v := 0) dX8_isNext_93 (by decide) ?_
          exact g_iret (st := []) dX8_isNext_94 (fun e => by cases e) ⟨_, rfl, t⟩
        · have t := t.2 c20
          refine g_iconst (v := 1) dX8_isNext_89 (by decide) ?_
          refine g_goto (tgt := 94) dX8_isNext_90 (by decide) ?_
          exact g_iret (st := []) dX8_isNext_94 (fun e => by cases e) ⟨_, rfl, t⟩
    · have t := t.2 c16
      refine g_aload_n dX8_isNext_32 rfl ?_
      refine g_getR (n := 25) dX8_isNext_33 fl_X8_13 rfl (by decide) (by decide) rfl rfl ?_
      refine g_iload_n dX8_isNext_36 rfl ?_
      refine g_iald (n := 17) dX8_isNext_37 rfl t.1 ?_
      have t := t.2
      refine g_iload_n dX8_isNext_38 rfl ?_
      refine g_icmp_ne (tgt := 68) dX8_isNext_39 (by decide) (fun c21 => ?_) (fun c21 => ?_)
      · have t := t.1 c21
        refine g_iconst (v := 0) dX8_isNext_68 (by decide) ?_
        refine g_istore (ls' := [.ref 45, .int p1, .int p2, .int p3, .int 0]) dX8_isNext_69 rfl (by decide) rfl ?_
        refine g_iload dX8_isNext_71 rfl ?_
        refine g_if_eq (tgt := 93) dX8_isNext_73 (by decide) (fun c22 => ?_) (fun c22 => ?_)
        · have t := t.1 c22
          refine g_iconst (v := 0) dX8_isNext_93 (by decide) ?_
          exact g_iret (st := []) dX8_isNext_94 (fun e => by cases e) ⟨_, rfl, t⟩
        · have t := t.2 c22
          refine g_iload_n dX8_isNext_76 rfl ?_
          refine g_aload_n dX8_isNext_77 rfl ?_
          refine g_getR (n := 25) dX8_isNext_78 fl_X8_16 rfl (by decide) (by decide) rfl rfl ?_
          refine g_iload_n dX8_isNext_81 rfl ?_
          refine g_iald (n := 17) dX8_isNext_82 rfl t.1 ?_
          have t := t.2
          refine s_S2i dX8_isNext_83 sm_X8_has ml_X8_185 rfl (by decide) (Nat.le_of_ble_eq_true rfl) rfl (tk_Ms.mono t (fun x23 S24 t => ?_))
          refine g_if_eq (tgt := 93) dX8_isNext_86 (by decide) (fun c25 => ?_) (fun c25 => ?_)
          · have t := t.1 c25
            refine g_iconst (v := 0) dX8_isNext_93 (by decide) ?_
            exact g_iret (st := []) dX8_isNext_94 (fun e => by cases e) ⟨_, rfl, t⟩
          · have t := t.2 c25
            refine g_iconst (v := 1) dX8_isNext_89 (by decide) ?_
            refine g_goto (tgt := 94) dX8_isNext_90 (by decide) ?_
            exact g_iret (st := []) dX8_isNext_94 (fun e => by cases e) ⟨_, rfl, t⟩
      · have t := t.2 c21
        refine g_aload_n dX8_isNext_42 rfl ?_
        refine g_getR (n := 25) dX8_isNext_43 fl_X8_40 rfl (by decide) (by decide) rfl rfl ?_
        refine g_aload_n dX8_isNext_46 rfl ?_
        refine g_getR (n := 25) dX8_isNext_47 fl_X8_7 rfl (by decide) (by decide) rfl rfl ?_
        refine g_iload_n dX8_isNext_50 rfl ?_
        refine g_iald (n := 17) dX8_isNext_51 rfl t.1 ?_
        have t := t.2
        refine g_iald (n := 11) dX8_isNext_52 rfl t.1 ?_
        have t := t.2
        refine g_aload_n dX8_isNext_53 rfl ?_
        refine g_getR (n := 25) dX8_isNext_54 fl_X8_40 rfl (by decide) (by decide) rfl rfl ?_
        refine g_iload_n dX8_isNext_57 rfl ?_
        refine g_iald (n := 11) dX8_isNext_58 rfl t.1 ?_
        have t := t.2
        refine g_iconst (v := 1) dX8_isNext_59 (by decide) ?_
        refine g_isub dX8_isNext_60 ?_
        refine g_icmp_ne (tgt := 68) dX8_isNext_61 (by decide) (fun c26 => ?_) (fun c26 => ?_)
        · have t := t.1 c26
          refine g_iconst (v := 0) dX8_isNext_68 (by decide) ?_
          refine g_istore (ls' := [.ref 45, .int p1, .int p2, .int p3, .int 0]) dX8_isNext_69 rfl (by decide) rfl ?_
          refine g_iload dX8_isNext_71 rfl ?_
          refine g_if_eq (tgt := 93) dX8_isNext_73 (by decide) (fun c27 => ?_) (fun c27 => ?_)
          · have t := t.1 c27
            refine g_iconst (v := 0) dX8_isNext_93 (by decide) ?_
            exact g_iret (st := []) dX8_isNext_94 (fun e => by cases e) ⟨_, rfl, t⟩
          · have t := t.2 c27
            refine g_iload_n dX8_isNext_76 rfl ?_
            refine g_aload_n dX8_isNext_77 rfl ?_
            refine g_getR (n := 25) dX8_isNext_78 fl_X8_16 rfl (by decide) (by decide) rfl rfl ?_
            refine g_iload_n dX8_isNext_81 rfl ?_
            refine g_iald (n := 17) dX8_isNext_82 rfl t.1 ?_
            have t := t.2
            refine s_S2i dX8_isNext_83 sm_X8_has ml_X8_185 rfl (by decide) (Nat.le_of_ble_eq_true rfl) rfl (tk_Ms.mono t (fun x28 S29 t => ?_))
            refine g_if_eq (tgt := 93) dX8_isNext_86 (by decide) (fun c30 => ?_) (fun c30 => ?_)
            · have t := t.1 c30
              refine g_iconst (v := 0) dX8_isNext_93 (by decide) ?_
              exact g_iret (st := []) dX8_isNext_94 (fun e => by cases e) ⟨_, rfl, t⟩
            · have t := t.2 c30
              refine g_iconst (v := 1) dX8_isNext_89 (by decide) ?_
              refine g_goto (tgt := 94) dX8_isNext_90 (by decide) ?_
              exact g_iret (st := []) dX8_isNext_94 (fun e => by cases e) ⟨_, rfl, t⟩
        · have t := t.2 c26
          refine g_iconst (v := 1) dX8_isNext_64 (by decide) ?_
          refine g_goto (tgt := 69) dX8_isNext_65 (by decide) ?_
          refine g_istore (ls' := [.ref 45, .int p1, .int p2, .int p3, .int 1]) dX8_isNext_69 rfl (by decide) rfl ?_
          refine g_iload dX8_isNext_71 rfl ?_
          refine g_if_eq (tgt := 93) dX8_isNext_73 (by decide) (fun c31 => ?_) (fun c31 => ?_)
          · have t := t.1 c31
            refine g_iconst (v := 0) dX8_isNext_93 (by decide) ?_
            exact g_iret (st := []) dX8_isNext_94 (fun e => by cases e) ⟨_, rfl, t⟩
          · have t := t.2 c31
            refine g_iload_n dX8_isNext_76 rfl ?_
            refine g_aload_n dX8_isNext_77 rfl ?_
            refine g_getR (n := 25) dX8_isNext_78 fl_X8_16 rfl (by decide) (by decide) rfl rfl ?_
            refine g_iload_n dX8_isNext_81 rfl ?_
            refine g_iald (n := 17) dX8_isNext_82 rfl t.1 ?_
            have t := t.2
            refine s_S2i dX8_isNext_83 sm_X8_has ml_X8_185 rfl (by decide) (Nat.le_of_ble_eq_true rfl) rfl (tk_Ms.mono t (fun x32 S33 t => ?_))
            refine g_if_eq (tgt := 93) dX8_isNext_86 (by decide) (fun c34 => ?_) (fun c34 => ?_)
            · have t := t.1 c34
              refine g_iconst (v := 0) dX8_isNext_93 (by decide) ?_
              exact g_iret (st := []) dX8_isNext_94 (fun e => by cases e) ⟨_, rfl, t⟩
            · have t := t.2 c34
              refine g_iconst (v := 1) dX8_isNext_89 (by decide) ?_
              refine g_goto (tgt := 94) dX8_isNext_90 (by decide) ?_
              exact g_iret (st := []) dX8_isNext_94 (fun e => by cases e) ⟨_, rfl, t⟩
theorem w_X8_stain {Q : Int32 → tS → Prop} {S : tS} (p1 : Int32) (p2 : Int32) (t : ((8 ≤ p1 → (tk_okQ mX8_stain Q) 0 S) ∧ (¬ 8 ≤ p1 → (vp_in p1 8 ∧ ((¬ (S 50 p1.toNatClampNeg) = 1 → (tk_okQ mX8_stain Q) 0 S) ∧ ((S 50 p1.toNatClampNeg) = 1 → (vp_in p1 8 ∧ ((p2 ≤ (S 52 p1.toNatClampNeg) → (tk_okQ mX8_stain Q) 0 S) ∧ (¬ p2 ≤ (S 52 p1.toNatClampNeg) → (vp_in p1 8 ∧ (vp_in p1 8 ∧ (tk_okQ mX8_stain Q) 0 (tk_up (tk_up S 52 p1.toNatClampNeg p2) 53 p1.toNatClampNeg (S 45 10))))))))))))) : tk_Ms mX8_stain [.ref 45, .int p1, .int p2] S Q := by
  refine tk_Ms.of (ls := [.ref 45, .int p1, .int p2]) (by decide) (by first | exact Or.inl rfl | exact Or.inr (Or.inl rfl) | exact Or.inr (Or.inr rfl)) (Nat.le_of_ble_eq_true rfl) rfl ?_
  refine g_iload_n dX8_stain_0 rfl ?_
  refine g_bipush (v := 8) dX8_stain_1 (by decide) ?_
  refine g_icmp_ge (tgt := 43) dX8_stain_3 (by decide) (fun c1 => ?_) (fun c1 => ?_)
  · have t := t.1 c1
    exact g_vret (st := []) dX8_stain_43 rfl ⟨_, rfl, t⟩
  · have t := t.2 c1
    refine g_aload_n dX8_stain_6 rfl ?_
    refine g_getR (n := 25) dX8_stain_7 fl_X8_22 rfl (by decide) (by decide) rfl rfl ?_
    refine g_iload_n dX8_stain_10 rfl ?_
    refine g_iald (n := 8) dX8_stain_11 rfl t.1 ?_
    have t := t.2
    refine g_iconst (v := 1) dX8_stain_12 (by decide) ?_
    refine g_icmp_ne (tgt := 43) dX8_stain_13 (by decide) (fun c2 => ?_) (fun c2 => ?_)
    · have t := t.1 c2
      exact g_vret (st := []) dX8_stain_43 rfl ⟨_, rfl, t⟩
    · have t := t.2 c2
      refine g_aload_n dX8_stain_16 rfl ?_
      refine g_getR (n := 25) dX8_stain_17 fl_X8_28 rfl (by decide) (by decide) rfl rfl ?_
      refine g_iload_n dX8_stain_20 rfl ?_
      refine g_iald (n := 8) dX8_stain_21 rfl t.1 ?_
      have t := t.2
      refine g_iload_n dX8_stain_22 rfl ?_
      refine g_icmp_ge (tgt := 43) dX8_stain_23 (by decide) (fun c3 => ?_) (fun c3 => ?_)
      · have t := t.1 c3
        exact g_vret (st := []) dX8_stain_43 rfl ⟨_, rfl, t⟩
      · have t := t.2 c3
        refine g_aload_n dX8_stain_26 rfl ?_
        refine g_getR (n := 25) dX8_stain_27 fl_X8_28 rfl (by decide) (by decide) rfl rfl ?_
        refine g_iload_n dX8_stain_30 rfl ?_
        refine g_iload_n dX8_stain_31 rfl ?_
        refine g_iast (n := 8) dX8_stain_32 rfl t.1 ?_
        have t := t.2
        refine g_aload_n dX8_stain_33 rfl ?_
        refine g_getR (n := 25) dX8_stain_34 fl_X8_31 rfl (by decide) (by decide) rfl rfl ?_
        refine g_iload_n dX8_stain_37 rfl ?_
        refine g_aload_n dX8_stain_38 rfl ?_
        refine g_getI (n := 25) dX8_stain_39 fl_X8_98 rfl (by decide) (by decide) rfl ?_
        refine g_iast (n := 8) dX8_stain_42 rfl t.1 ?_
        have t := t.2
        exact g_vret (st := []) dX8_stain_43 rfl ⟨_, rfl, t⟩
theorem w_X8_wash {Q : Int32 → tS → Prop} {S : tS} (p1 : Int32) (p2 : Int32) (t : (tk_Ms mX8_isSister [.int p1] S (fun x1 S2 => ((x1 = 0 → (tk_okQ mX8_wash Q) (-1) S2) ∧ (¬ x1 = 0 → (tk_Ms mX8_isKey [.ref 45, .int p2] S2 (fun x4 S5 => ((¬ x4 = 0 → (vp_in p2 8 ∧ ((¬ (S5 51 p2.toNatClampNeg) = p1 → (tk_okQ mX8_wash Q) (-2) S5) ∧ ((S5 51 p2.toNatClampNeg) = p1 → (vp_in p2 8 ∧ (((S5 49 p2.toNatClampNeg) = 3 → (vp_in p2 8 ∧ (vp_in p2 8 ∧ (vp_in p2 8 ∧ (tk_okQ mX8_wash Q) ((tk_up S5 52 p2.toNatClampNeg ((S5 52 p2.toNatClampNeg) / 2)) 52 p2.toNatClampNeg) (tk_up S5 52 p2.toNatClampNeg ((S5 52 p2.toNatClampNeg) / 2)))))) ∧ (¬ (S5 49 p2.toNatClampNeg) = 3 → (tk_okQ mX8_wash Q) (-2) S5))))))) ∧ (x4 = 0 → (tk_okQ mX8_wash Q) (-1) S5))))))))) : tk_Ms mX8_wash [.ref 45, .int p1, .int p2] S Q := by
  refine tk_Ms.of (ls := [.ref 45, .int p1, .int p2]) (by decide) (by first | exact Or.inl rfl | exact Or.inr (Or.inl rfl) | exact Or.inr (Or.inr rfl)) (Nat.le_of_ble_eq_true rfl) rfl ?_
  refine g_iload_n dX8_wash_0 rfl ?_
  refine s_S1i dX8_wash_1 sm_X8_isSister ml_X8_188 rfl (by decide) (Nat.le_of_ble_eq_true rfl) rfl (tk_Ms.mono t (fun x1 S2 t => ?_))
  refine g_if_eq (tgt := 15) dX8_wash_4 (by decide) (fun c3 => ?_) (fun c3 => ?_)
  · have t := t.1 c3
    refine g_iconst (v := (-1)) dX8_wash_15 (by decide) ?_
    exact g_iret (st := []) dX8_wash_16 (fun e => by cases e) ⟨_, rfl, t⟩
  · have t := t.2 c3
    refine g_aload_n dX8_wash_7 rfl ?_
    refine g_iload_n dX8_wash_8 rfl ?_
    refine s_V1i dX8_wash_9 vm_X8_isKey ml_X8_89 rfl rfl (by decide) (Nat.le_of_ble_eq_true rfl) rfl (tk_Ms.mono t (fun x4 S5 t => ?_))
    refine g_if_ne (tgt := 17) dX8_wash_12 (by decide) (fun c6 => ?_) (fun c6 => ?_)
    · have t := t.1 c6
      refine g_aload_n dX8_wash_17 rfl ?_
      refine g_getR (n := 25) dX8_wash_18 fl_X8_25 rfl (by decide) (by decide) rfl rfl ?_
      refine g_iload_n dX8_wash_21 rfl ?_
      refine g_iald (n := 8) dX8_wash_22 rfl t.1 ?_
      have t := t.2
      refine g_iload_n dX8_wash_23 rfl ?_
      refine g_icmp_ne (tgt := 37) dX8_wash_24 (by decide) (fun c7 => ?_) (fun c7 => ?_)
      · have t := t.1 c7
        refine g_bipush (v := (-2)) dX8_wash_37 (by decide) ?_
        exact g_iret (st := []) dX8_wash_39 (fun e => by cases e) ⟨_, rfl, t⟩
      · have t := t.2 c7
        refine g_aload_n dX8_wash_27 rfl ?_
        refine g_getR (n := 25) dX8_wash_28 fl_X8_19 rfl (by decide) (by decide) rfl rfl ?_
        refine g_iload_n dX8_wash_31 rfl ?_
        refine g_iald (n := 8) dX8_wash_32 rfl t.1 ?_
        have t := t.2
        refine g_iconst (v := 3) dX8_wash_33 (by decide) ?_
        refine g_icmp_eq (tgt := 40) dX8_wash_34 (by decide) (fun c8 => ?_) (fun c8 => ?_)
        · have t := t.1 c8
          refine g_aload_n dX8_wash_40 rfl ?_
          refine g_getR (n := 25) dX8_wash_41 fl_X8_28 rfl (by decide) (by decide) rfl rfl ?_
          refine g_iload_n dX8_wash_44 rfl ?_
          refine g_dup2 dX8_wash_45 rfl rfl ?_
          refine g_iald (n := 8) dX8_wash_46 rfl t.1 ?_
          have t := t.2
          refine g_iconst (v := 2) dX8_wash_47 (by decide) ?_
          refine g_idiv dX8_wash_48 (by decide) ?_
          refine g_iast (n := 8) dX8_wash_49 rfl t.1 ?_
          have t := t.2
          refine g_aload_n dX8_wash_50 rfl ?_
          refine g_getR (n := 25) dX8_wash_51 fl_X8_28 rfl (by decide) (by decide) rfl rfl ?_
          refine g_iload_n dX8_wash_54 rfl ?_
          refine g_iald (n := 8) dX8_wash_55 rfl t.1 ?_
          have t := t.2
          exact g_iret (st := []) dX8_wash_56 (fun e => by cases e) ⟨_, rfl, t⟩
        · have t := t.2 c8
          refine g_bipush (v := (-2)) dX8_wash_37 (by decide) ?_
          exact g_iret (st := []) dX8_wash_39 (fun e => by cases e) ⟨_, rfl, t⟩
    · have t := t.2 c6
      refine g_iconst (v := (-1)) dX8_wash_15 (by decide) ?_
      exact g_iret (st := []) dX8_wash_16 (fun e => by cases e) ⟨_, rfl, t⟩
theorem w_X8_change {Q : Int32 → tS → Prop} {S : tS} (p1 : Int32) (p2 : Int32) (t : (tk_Ms mX8_isKey [.ref 45, .int p1] S (fun x1 S2 => ((x1 = 0 → (tk_okQ mX8_change Q) (-1) S2) ∧ (¬ x1 = 0 → (tk_Ms mX8_in [.long ((p2 : Int32).toInt64), .long (0 : Int64), .long (4 : Int64)] S2 (fun x4 S5 => ((¬ x4 = 0 → (vp_in p1 8 ∧ ((¬ (S5 51 p1.toNatClampNeg) = p2 → (vp_in p1 8 ∧ (tk_okQ mX8_change Q) (S5 51 p1.toNatClampNeg) (tk_up S5 51 p1.toNatClampNeg p2))) ∧ ((S5 51 p1.toNatClampNeg) = p2 → (tk_okQ mX8_change Q) (-2) S5)))) ∧ (x4 = 0 → (tk_okQ mX8_change Q) (-1) S5))))))))) : tk_Ms mX8_change [.ref 45, .int p1, .int p2] S Q := by
  refine tk_Ms.of (ls := [.ref 45, .int p1, .int p2, .null]) (by decide) (by first | exact Or.inl rfl | exact Or.inr (Or.inl rfl) | exact Or.inr (Or.inr rfl)) (Nat.le_of_ble_eq_true rfl) rfl ?_
  refine g_aload_n dX8_change_0 rfl ?_
  refine g_iload_n dX8_change_1 rfl ?_
  refine s_V1i dX8_change_2 vm_X8_isKey ml_X8_89 rfl rfl (by decide) (Nat.le_of_ble_eq_true rfl) rfl (tk_Ms.mono t (fun x1 S2 t => ?_))
  refine g_if_eq (tgt := 20) dX8_change_5 (by decide) (fun c3 => ?_) (fun c3 => ?_)
  · have t := t.1 c3
    refine g_iconst (v := (-1)) dX8_change_20 (by decide) ?_
    exact g_iret (st := []) dX8_change_21 (fun e => by cases e) ⟨_, rfl, t⟩
  · have t := t.2 c3
    refine g_iload_n dX8_change_8 rfl ?_
    refine g_i2l dX8_change_9 ?_
    refine g_lconst (v := 0) dX8_change_10 (by decide) ?_
    refine g_ldc2 (v := 4) dX8_change_11 kl_X8_208 ?_
    refine s_S3i dX8_change_14 sm_X8_in ml_X8_66 rfl (by decide) (Nat.le_of_ble_eq_true rfl) rfl (tk_Ms.mono t (fun x4 S5 t => ?_))
    refine g_if_ne (tgt := 22) dX8_change_17 (by decide) (fun c6 => ?_) (fun c6 => ?_)
    · have t := t.1 c6
      refine g_aload_n dX8_change_22 rfl ?_
      refine g_getR (n := 25) dX8_change_23 fl_X8_25 rfl (by decide) (by decide) rfl rfl ?_
      refine g_iload_n dX8_change_26 rfl ?_
      refine g_iald (n := 8) dX8_change_27 rfl t.1 ?_
      have t := t.2
      refine g_istore_n (ls' := [.ref 45, .int p1, .int p2, .int (S5 51 p1.toNatClampNeg)]) dX8_change_28 rfl (by decide) rfl ?_
      refine g_iload_n dX8_change_29 rfl ?_
      refine g_iload_n dX8_change_30 rfl ?_
      refine g_icmp_ne (tgt := 37) dX8_change_31 (by decide) (fun c7 => ?_) (fun c7 => ?_)
      · have t := t.1 c7
        refine g_aload_n dX8_change_37 rfl ?_
        refine g_getR (n := 25) dX8_change_38 fl_X8_25 rfl (by decide) (by decide) rfl rfl ?_
        refine g_iload_n dX8_change_41 rfl ?_
        refine g_iload_n dX8_change_42 rfl ?_
        refine g_iast (n := 8) dX8_change_43 rfl t.1 ?_
        have t := t.2
        refine g_iload_n dX8_change_44 rfl ?_
        exact g_iret (st := []) dX8_change_45 (fun e => by cases e) ⟨_, rfl, t⟩
      · have t := t.2 c7
        refine g_bipush (v := (-2)) dX8_change_34 (by decide) ?_
        exact g_iret (st := []) dX8_change_36 (fun e => by cases e) ⟨_, rfl, t⟩
    · have t := t.2 c6
      refine g_iconst (v := (-1)) dX8_change_20 (by decide) ?_
      exact g_iret (st := []) dX8_change_21 (fun e => by cases e) ⟨_, rfl, t⟩
theorem w_X8_next {Q : Int32 → tS → Prop} {S : tS}  (t : ((¬ (S 45 10) = 999 → (tk_okQ mX8_next Q) ((S 45 10) + 1) (tk_up S 45 10 ((S 45 10) + 1))) ∧ ((S 45 10) = 999 → (tk_okQ mX8_next Q) (-3) S))) : tk_Ms mX8_next [.ref 45] S Q := by
  refine tk_Ms.of (ls := [.ref 45]) (by decide) (by first | exact Or.inl rfl | exact Or.inr (Or.inl rfl) | exact Or.inr (Or.inr rfl)) (Nat.le_of_ble_eq_true rfl) rfl ?_
  refine g_aload_n dX8_next_0 rfl ?_
  refine g_getI (n := 25) dX8_next_1 fl_X8_98 rfl (by decide) (by decide) rfl ?_
  refine g_sipush (v := 999) dX8_next_4 (by decide) ?_
  refine g_icmp_ne (tgt := 13) dX8_next_7 (by decide) (fun c1 => ?_) (fun c1 => ?_)
  · have t := t.1 c1
    refine g_aload_n dX8_next_13 rfl ?_
    refine g_dup dX8_next_14 rfl ?_
    refine g_getI (n := 25) dX8_next_15 fl_X8_98 rfl (by decide) (by decide) rfl ?_
    refine g_iconst (v := 1) dX8_next_18 (by decide) ?_
    refine g_iadd dX8_next_19 ?_
    refine g_putI (n := 25) dX8_next_20 fl_X8_98 rfl (by decide) (by decide) rfl rfl rfl ?_
    refine g_aload_n dX8_next_23 rfl ?_
    refine g_getI (n := 25) dX8_next_24 fl_X8_98 rfl (by decide) (by decide) rfl ?_
    exact g_iret (st := []) dX8_next_27 (fun e => by cases e) ⟨_, rfl, t⟩
  · have t := t.2 c1
    refine g_bipush (v := (-3)) dX8_next_10 (by decide) ?_
    exact g_iret (st := []) dX8_next_12 (fun e => by cases e) ⟨_, rfl, t⟩
theorem w_X8_shown {Q : Int32 → tS → Prop} {S : tS} (p1 : Int32) (p2 : Int32) (t : (tk_Ms mX8_isKey [.ref 45, .int p1] S (fun x1 S2 => ((x1 = 0 → (tk_okQ mX8_shown Q) (-1) S2) ∧ (¬ x1 = 0 → (tk_Ms mX8_in [.long ((p2 : Int32).toInt64), .long ((S2 45 10 : Int32).toInt64), .long (999 : Int64)] S2 (fun x4 S5 => ((x4 = 0 → (tk_okQ mX8_shown Q) (-1) S5) ∧ (¬ x4 = 0 → (tk_Ms mX8_shownBy [.ref 45, .int p1, .int p2] S5 (fun x7 S8 => (tk_okQ mX8_shown Q) x7 S8))))))))))) : tk_Ms mX8_shown [.ref 45, .int p1, .int p2] S Q := by
  refine tk_Ms.of (ls := [.ref 45, .int p1, .int p2]) (by decide) (by first | exact Or.inl rfl | exact Or.inr (Or.inl rfl) | exact Or.inr (Or.inr rfl)) (Nat.le_of_ble_eq_true rfl) rfl ?_
  refine g_aload_n dX8_shown_0 rfl ?_
  refine g_iload_n dX8_shown_1 rfl ?_
  refine s_V1i dX8_shown_2 vm_X8_isKey ml_X8_89 rfl rfl (by decide) (Nat.le_of_ble_eq_true rfl) rfl (tk_Ms.mono t (fun x1 S2 t => ?_))
  refine g_if_eq (tgt := 33) dX8_shown_5 (by decide) (fun c3 => ?_) (fun c3 => ?_)
  · have t := t.1 c3
    refine g_iconst (v := (-1)) dX8_shown_33 (by decide) ?_
    exact g_iret (st := []) dX8_shown_34 (fun e => by cases e) ⟨_, rfl, t⟩
  · have t := t.2 c3
    refine g_iload_n dX8_shown_8 rfl ?_
    refine g_i2l dX8_shown_9 ?_
    refine g_aload_n dX8_shown_10 rfl ?_
    refine g_getI (n := 25) dX8_shown_11 fl_X8_98 rfl (by decide) (by decide) rfl ?_
    refine g_i2l dX8_shown_14 ?_
    refine g_ldc2 (v := 999) dX8_shown_15 kl_X8_210 ?_
    refine s_S3i dX8_shown_18 sm_X8_in ml_X8_66 rfl (by decide) (Nat.le_of_ble_eq_true rfl) rfl (tk_Ms.mono t (fun x4 S5 t => ?_))
    refine g_if_eq (tgt := 33) dX8_shown_21 (by decide) (fun c6 => ?_) (fun c6 => ?_)
    · have t := t.1 c6
      refine g_iconst (v := (-1)) dX8_shown_33 (by decide) ?_
      exact g_iret (st := []) dX8_shown_34 (fun e => by cases e) ⟨_, rfl, t⟩
    · have t := t.2 c6
      refine g_aload_n dX8_shown_24 rfl ?_
      refine g_iload_n dX8_shown_25 rfl ?_
      refine g_iload_n dX8_shown_26 rfl ?_
      refine s_V2i dX8_shown_27 vm_X8_shownBy ml_X8_101 rfl rfl (by decide) (Nat.le_of_ble_eq_true rfl) rfl (tk_Ms.mono t (fun x7 S8 t => ?_))
      refine g_goto (tgt := 34) dX8_shown_30 (by decide) ?_
      exact g_iret (st := []) dX8_shown_34 (fun e => by cases e) ⟨_, rfl, t⟩
theorem w_X8_seen {Q : Int32 → tS → Prop} {S : tS} (p1 : Int32) (p2 : Int32) (p3 : Int32) (t : (tk_Ms mX8_isSister [.int p1] S (fun x1 S2 => ((x1 = 0 → (tk_okQ mX8_seen Q) (-1) S2) ∧ (¬ x1 = 0 → (tk_Ms mX8_isPlace [.int p2] S2 (fun x4 S5 => ((x4 = 0 → (tk_okQ mX8_seen Q) (-1) S5) ∧ (¬ x4 = 0 → (tk_Ms mX8_in [.long ((p3 : Int32).toInt64), .long (0 : Int64), .long (1 : Int64)] S5 (fun x7 S8 => ((¬ x7 = 0 → ((¬ p3 = 1 → (tk_Ms mX8_ringOf [.ref 45, .int p1, .int 0] S8 (fun x11 S12 => (tk_Ms mX8_findFars [.ref 45, .int p2, .int x11] S12 (fun _ S14 => (vp_in 0 11 ∧ ((¬ (S14 56 0) = 99 → (vp_in 0 11 ∧ (tk_okQ mX8_seen Q) (2 * (S14 56 0)) S14)) ∧ ((S14 56 0) = 99 → (tk_okQ mX8_seen Q) (-4) S14)))))))) ∧ (p3 = 1 → (tk_Ms mX8_ringOf [.ref 45, .int p1, .int 1] S8 (fun x16 S17 => (tk_Ms mX8_findFars [.ref 45, .int p2, .int x16] S17 (fun _ S19 => (vp_in 0 11 ∧ ((¬ (S19 56 0) = 99 → (vp_in 0 11 ∧ (tk_okQ mX8_seen Q) (2 * (S19 56 0)) S19)) ∧ ((S19 56 0) = 99 → (tk_okQ mX8_seen Q) (-4) S19)))))))))) ∧ (x7 = 0 → (tk_okQ mX8_seen Q) (-1) S8))))))))))))) : tk_Ms mX8_seen [.ref 45, .int p1, .int p2, .int p3] S Q := by
  refine tk_Ms.of (ls := [.ref 45, .int p1, .int p2, .int p3]) (by decide) (by first | exact Or.inl rfl | exact Or.inr (Or.inl rfl) | exact Or.inr (Or.inr rfl)) (Nat.le_of_ble_eq_true rfl) rfl ?_
  refine g_iload_n dX8_seen_0 rfl ?_
  refine s_S1i dX8_seen_1 sm_X8_isSister ml_X8_188 rfl (by decide) (Nat.le_of_ble_eq_true rfl) rfl (tk_Ms.mono t (fun x1 S2 t => ?_))
  refine g_if_eq (tgt := 24) dX8_seen_4 (by decide) (fun c3 => ?_) (fun c3 => ?_)
  · have t := t.1 c3
    refine g_iconst (v := (-1)) dX8_seen_24 (by decide) ?_
    exact g_iret (st := []) dX8_seen_25 (fun e => by cases e) ⟨_, rfl, t⟩
  · have t := t.2 c3
    refine g_iload_n dX8_seen_7 rfl ?_
    refine s_S1i dX8_seen_8 sm_X8_isPlace ml_X8_74 rfl (by decide) (Nat.le_of_ble_eq_true rfl) rfl (tk_Ms.mono t (fun x4 S5 t => ?_))
    refine g_if_eq (tgt := 24) dX8_seen_11 (by decide) (fun c6 => ?_) (fun c6 => ?_)
    · have t := t.1 c6
      refine g_iconst (v := (-1)) dX8_seen_24 (by decide) ?_
      exact g_iret (st := []) dX8_seen_25 (fun e => by cases e) ⟨_, rfl, t⟩
    · have t := t.2 c6
      refine g_iload_n dX8_seen_14 rfl ?_
      refine g_i2l dX8_seen_15 ?_
      refine g_lconst (v := 0) dX8_seen_16 (by decide) ?_
      refine g_lconst (v := 1) dX8_seen_17 (by decide) ?_
      refine s_S3i dX8_seen_18 sm_X8_in ml_X8_66 rfl (by decide) (Nat.le_of_ble_eq_true rfl) rfl (tk_Ms.mono t (fun x7 S8 t => ?_))
      refine g_if_ne (tgt := 26) dX8_seen_21 (by decide) (fun c9 => ?_) (fun c9 => ?_)
      · have t := t.1 c9
        refine g_aload_n dX8_seen_26 rfl ?_
        refine g_iload_n dX8_seen_27 rfl ?_
        refine g_aload_n dX8_seen_28 rfl ?_
        refine g_iload_n dX8_seen_29 rfl ?_
        refine g_iload_n dX8_seen_30 rfl ?_
        refine g_iconst (v := 1) dX8_seen_31 (by decide) ?_
        refine g_icmp_ne (tgt := 39) dX8_seen_32 (by decide) (fun c10 => ?_) (fun c10 => ?_)
        · have t := t.1 c10
          refine g_iconst (v := 0) dX8_seen_39 (by decide) ?_
          refine s_V2i dX8_seen_40 vm_X8_ringOf ml_X8_193 rfl rfl (by decide) (Nat.le_of_ble_eq_true rfl) rfl (tk_Ms.mono t (fun x11 S12 t => ?_))
          refine s_V2v dX8_seen_43 vm_X8_findFars ml_X8_197 rfl rfl (by decide) (Nat.le_of_ble_eq_true rfl) rfl (tk_Ms.mono t (fun _ S14 t => ?_))
          refine g_aload_n dX8_seen_46 rfl ?_
          refine g_getR (n := 25) dX8_seen_47 fl_X8_40 rfl (by decide) (by decide) rfl rfl ?_
          refine g_iconst (v := 0) dX8_seen_50 (by decide) ?_
          refine g_iald (n := 11) dX8_seen_51 rfl t.1 ?_
          have t := t.2
          refine g_bipush (v := 99) dX8_seen_52 (by decide) ?_
          refine g_icmp_ne (tgt := 62) dX8_seen_54 (by decide) (fun c15 => ?_) (fun c15 => ?_)
          · have t := t.1 c15
            refine g_iconst (v := 2) dX8_seen_62 (by decide) ?_
            refine g_aload_n dX8_seen_63 rfl ?_
            refine g_getR (n := 25) dX8_seen_64 fl_X8_40 rfl (by decide) (by decide) rfl rfl ?_
            refine g_iconst (v := 0) dX8_seen_67 (by decide) ?_
            refine g_iald (n := 11) dX8_seen_68 rfl t.1 ?_
            have t := t.2
            refine g_imul dX8_seen_69 ?_
            exact g_iret (st := []) dX8_seen_70 (fun e => by cases e) ⟨_, rfl, t⟩
          · have t := t.2 c15
            refine g_bipush (v := (-4)) dX8_seen_57 (by decide) ?_
            refine g_goto (tgt := 70) dX8_seen_59 (by decide) ?_
            exact g_iret (st := []) dX8_seen_70 (fun e => by cases e) ⟨_, rfl, t⟩
        · have t := t.2 c10
          refine g_iconst (v := 1) dX8_seen_35 (by decide) ?_
          refine g_goto (tgt := 40) dX8_seen_36 (by decide) ?_
          refine s_V2i dX8_seen_40 vm_X8_ringOf ml_X8_193 rfl rfl (by decide) (Nat.le_of_ble_eq_true rfl) rfl (tk_Ms.mono t (fun x16 S17 t => ?_))
          refine s_V2v dX8_seen_43 vm_X8_findFars ml_X8_197 rfl rfl (by decide) (Nat.le_of_ble_eq_true rfl) rfl (tk_Ms.mono t (fun _ S19 t => ?_))
          refine g_aload_n dX8_seen_46 rfl ?_
          refine g_getR (n := 25) dX8_seen_47 fl_X8_40 rfl (by decide) (by decide) rfl rfl ?_
          refine g_iconst (v := 0) dX8_seen_50 (by decide) ?_
          refine g_iald (n := 11) dX8_seen_51 rfl t.1 ?_
          have t := t.2
          refine g_bipush (v := 99) dX8_seen_52 (by decide) ?_
          refine g_icmp_ne (tgt := 62) dX8_seen_54 (by decide) (fun c20 => ?_) (fun c20 => ?_)
          · have t := t.1 c20
            refine g_iconst (v := 2) dX8_seen_62 (by decide) ?_
            refine g_aload_n dX8_seen_63 rfl ?_
            refine g_getR (n := 25) dX8_seen_64 fl_X8_40 rfl (by decide) (by decide) rfl rfl ?_
            refine g_iconst (v := 0) dX8_seen_67 (by decide) ?_
            refine g_iald (n := 11) dX8_seen_68 rfl t.1 ?_
            have t := t.2
            refine g_imul dX8_seen_69 ?_
            exact g_iret (st := []) dX8_seen_70 (fun e => by cases e) ⟨_, rfl, t⟩
          · have t := t.2 c20
            refine g_bipush (v := (-4)) dX8_seen_57 (by decide) ?_
            refine g_goto (tgt := 70) dX8_seen_59 (by decide) ?_
            exact g_iret (st := []) dX8_seen_70 (fun e => by cases e) ⟨_, rfl, t⟩
      · have t := t.2 c9
        refine g_iconst (v := (-1)) dX8_seen_24 (by decide) ?_
        exact g_iret (st := []) dX8_seen_25 (fun e => by cases e) ⟨_, rfl, t⟩
theorem w_X8_reach {Q : Int32 → tS → Prop} {S : tS} (p1 : Int32) (t : (tk_Ms mX8_in [.long ((p1 : Int32).toInt64), .long (0 : Int64), .long (((1 <<< ((S 45 9) &&& 31)) - 1 : Int32).toInt64)] S (fun x1 S2 => ((¬ x1 = 0 → (tk_Ms mX8_findFars [.ref 45, .int 0, .int (p1 ||| 256)] S2 (fun _ S5 => tk_Gs mX8_reach none 34 [.ref 45, .int p1, .int 0, .int 0] [] S5 (tk_okQ mX8_reach Q)))) ∧ (x1 = 0 → (tk_okQ mX8_reach Q) (-1) S2))))) : tk_Ms mX8_reach [.ref 45, .int p1] S Q := by
  refine tk_Ms.of (ls := [.ref 45, .int p1, .null, .null]) (by decide) (by first | exact Or.inl rfl | exact Or.inr (Or.inl rfl) | exact Or.inr (Or.inr rfl)) (Nat.le_of_ble_eq_true rfl) rfl ?_
  refine g_iload_n dX8_reach_0 rfl ?_
  refine g_i2l dX8_reach_1 ?_
  refine g_lconst (v := 0) dX8_reach_2 (by decide) ?_
  refine g_iconst (v := 1) dX8_reach_3 (by decide) ?_
  refine g_aload_n dX8_reach_4 rfl ?_
  refine g_getI (n := 25) dX8_reach_5 fl_X8_70 rfl (by decide) (by decide) rfl ?_
  refine g_ishl dX8_reach_8 ?_
  refine g_iconst (v := 1) dX8_reach_9 (by decide) ?_
  refine g_isub dX8_reach_10 ?_
  refine g_i2l dX8_reach_11 ?_
  refine s_S3i dX8_reach_12 sm_X8_in ml_X8_66 rfl (by decide) (Nat.le_of_ble_eq_true rfl) rfl (tk_Ms.mono t (fun x1 S2 t => ?_))
  refine g_if_ne (tgt := 20) dX8_reach_15 (by decide) (fun c3 => ?_) (fun c3 => ?_)
  · have t := t.1 c3
    refine g_aload_n dX8_reach_20 rfl ?_
    refine g_iconst (v := 0) dX8_reach_21 (by decide) ?_
    refine g_iload_n dX8_reach_22 rfl ?_
    refine g_sipush (v := 256) dX8_reach_23 (by decide) ?_
    refine g_ior dX8_reach_26 ?_
    refine s_V2v dX8_reach_27 vm_X8_findFars ml_X8_197 rfl rfl (by decide) (Nat.le_of_ble_eq_true rfl) rfl (tk_Ms.mono t (fun _ S5 t => ?_))
    refine g_iconst (v := 0) dX8_reach_30 (by decide) ?_
    refine g_istore_n (ls' := [.ref 45, .int p1, .int 0, .null]) dX8_reach_31 rfl (by decide) rfl ?_
    refine g_iconst (v := 0) dX8_reach_32 (by decide) ?_
    refine g_istore_n (ls' := [.ref 45, .int p1, .int 0, .int 0]) dX8_reach_33 rfl (by decide) rfl ?_
    exact t
  · have t := t.2 c3
    refine g_iconst (v := (-1)) dX8_reach_18 (by decide) ?_
    exact g_iret (st := []) dX8_reach_19 (fun e => by cases e) ⟨_, rfl, t⟩
theorem w_X8_reach_34 {Q : Int32 → tS → Prop} {S : tS} (l1 : Int32) (l2 : Int32) (l3 : Int32)  (t : ((11 ≤ l3 → Q l2 S) ∧ (¬ 11 ≤ l3 → (vp_in l3 11 ∧ ((99 ≤ (S 56 l3.toNatClampNeg) → tk_Gs mX8_reach none 34 [.ref 45, .int l1, .int (l2 ||| 0), .int (l3 + 1)] [] S Q) ∧ (¬ 99 ≤ (S 56 l3.toNatClampNeg) → tk_Gs mX8_reach none 34 [.ref 45, .int l1, .int (l2 ||| (1 <<< (l3 &&& 31))), .int (l3 + 1)] [] S Q)))))) : tk_Gs mX8_reach none 34 [.ref 45, .int l1, .int l2, .int l3] [] S Q := by
  show tk_G _ 0 0 _ _ _ _ (tkSH, S, tkRF) _
  refine g_iload_n dX8_reach_34 rfl ?_
  refine g_bipush (v := 11) dX8_reach_35 (by decide) ?_
  refine g_icmp_ge (tgt := 67) dX8_reach_37 (by decide) (fun c1 => ?_) (fun c1 => ?_)
  · have t := t.1 c1
    refine g_iload_n dX8_reach_67 rfl ?_
    exact g_iret (st := []) dX8_reach_68 (fun e => by cases e) ⟨_, rfl, t⟩
  · have t := t.2 c1
    refine g_iload_n dX8_reach_40 rfl ?_
    refine g_aload_n dX8_reach_41 rfl ?_
    refine g_getR (n := 25) dX8_reach_42 fl_X8_40 rfl (by decide) (by decide) rfl rfl ?_
    refine g_iload_n dX8_reach_45 rfl ?_
    refine g_iald (n := 11) dX8_reach_46 rfl t.1 ?_
    have t := t.2
    refine g_bipush (v := 99) dX8_reach_47 (by decide) ?_
    refine g_icmp_ge (tgt := 58) dX8_reach_49 (by decide) (fun c2 => ?_) (fun c2 => ?_)
    · have t := t.1 c2
      refine g_iconst (v := 0) dX8_reach_58 (by decide) ?_
      refine g_ior dX8_reach_59 ?_
      refine g_istore_n (ls' := [.ref 45, .int l1, .int (l2 ||| 0), .int l3]) dX8_reach_60 rfl (by decide) rfl ?_
      refine g_iinc (v := l3 + 1) (ls' := [.ref 45, .int l1, .int (l2 ||| 0), .int (l3 + 1)]) dX8_reach_61 rfl rfl (by decide) rfl rfl ?_
      refine g_goto (tgt := 34) dX8_reach_64 (by decide) ?_
      exact t
    · have t := t.2 c2
      refine g_iconst (v := 1) dX8_reach_52 (by decide) ?_
      refine g_iload_n dX8_reach_53 rfl ?_
      refine g_ishl dX8_reach_54 ?_
      refine g_goto (tgt := 59) dX8_reach_55 (by decide) ?_
      refine g_ior dX8_reach_59 ?_
      refine g_istore_n (ls' := [.ref 45, .int l1, .int (l2 ||| (1 <<< (l3 &&& 31))), .int l3]) dX8_reach_60 rfl (by decide) rfl ?_
      refine g_iinc (v := l3 + 1) (ls' := [.ref 45, .int l1, .int (l2 ||| (1 <<< (l3 &&& 31))), .int (l3 + 1)]) dX8_reach_61 rfl rfl (by decide) rfl rfl ?_
      refine g_goto (tgt := 34) dX8_reach_64 (by decide) ?_
      exact t
theorem w_X8_fits {Q : Int32 → tS → Prop} {S : tS} (p1 : Int32) (p2 : Int32) (p3 : Int32) (t : (tk_Ms mX8_in [.long ((p1 : Int32).toInt64), .long (-1 : Int64), .long (16 : Int64)] S (fun x1 S2 => ((x1 = 0 → (tk_okQ mX8_fits Q) (-1) S2) ∧ (¬ x1 = 0 → (tk_Ms mX8_in [.long ((p2 : Int32).toInt64), .long (-1 : Int64), .long (8 : Int64)] S2 (fun x4 S5 => ((x4 = 0 → (tk_okQ mX8_fits Q) (-1) S5) ∧ (¬ x4 = 0 → (tk_Ms mX8_in [.long ((p3 : Int32).toInt64), .long (-1 : Int64), .long (10 : Int64)] S5 (fun x7 S8 => ((x7 = 0 → (tk_okQ mX8_fits Q) (-1) S8) ∧ (¬ x7 = 0 → ((¬ p3 = 0 → (tk_Ms mX8_findFars [.ref 45, .int 0, .int 511] S8 (fun _ S12 => tk_Gs mX8_fits none 62 [.ref 45, .int p1, .int p2, .int p3, .int 0, .int 1, .null, .null, .null, .null] [] S12 (tk_okQ mX8_fits Q)))) ∧ (p3 = 0 → (tk_okQ mX8_fits Q) (-1) S8))))))))))))))) : tk_Ms mX8_fits [.ref 45, .int p1, .int p2, .int p3] S Q := by
  refine tk_Ms.of (ls := [.ref 45, .int p1, .int p2, .int p3, .null, .null, .null, .null, .null, .null]) (by decide) (by first | exact Or.inl rfl | exact Or.inr (Or.inl rfl) | exact Or.inr (Or.inr rfl)) (Nat.le_of_ble_eq_true rfl) rfl ?_
  refine g_iload_n dX8_fits_0 rfl ?_
  refine g_i2l dX8_fits_1 ?_
  refine g_ldc2 (v := -1) dX8_fits_2 kl_X8_212 ?_
  refine g_ldc2 (v := 16) dX8_fits_5 kl_X8_214 ?_
  refine s_S3i dX8_fits_8 sm_X8_in ml_X8_66 rfl (by decide) (Nat.le_of_ble_eq_true rfl) rfl (tk_Ms.mono t (fun x1 S2 t => ?_))
  refine g_if_eq (tgt := 46) dX8_fits_11 (by decide) (fun c3 => ?_) (fun c3 => ?_)
  · have t := t.1 c3
    refine g_iconst (v := (-1)) dX8_fits_46 (by decide) ?_
    exact g_iret (st := []) dX8_fits_47 (fun e => by cases e) ⟨_, rfl, t⟩
  · have t := t.2 c3
    refine g_iload_n dX8_fits_14 rfl ?_
    refine g_i2l dX8_fits_15 ?_
    refine g_ldc2 (v := -1) dX8_fits_16 kl_X8_212 ?_
    refine g_ldc2 (v := 8) dX8_fits_19 kl_X8_82 ?_
    refine s_S3i dX8_fits_22 sm_X8_in ml_X8_66 rfl (by decide) (Nat.le_of_ble_eq_true rfl) rfl (tk_Ms.mono t (fun x4 S5 t => ?_))
    refine g_if_eq (tgt := 46) dX8_fits_25 (by decide) (fun c6 => ?_) (fun c6 => ?_)
    · have t := t.1 c6
      refine g_iconst (v := (-1)) dX8_fits_46 (by decide) ?_
      exact g_iret (st := []) dX8_fits_47 (fun e => by cases e) ⟨_, rfl, t⟩
    · have t := t.2 c6
      refine g_iload_n dX8_fits_28 rfl ?_
      refine g_i2l dX8_fits_29 ?_
      refine g_ldc2 (v := -1) dX8_fits_30 kl_X8_212 ?_
      refine g_ldc2 (v := 10) dX8_fits_33 kl_X8_64 ?_
      refine s_S3i dX8_fits_36 sm_X8_in ml_X8_66 rfl (by decide) (Nat.le_of_ble_eq_true rfl) rfl (tk_Ms.mono t (fun x7 S8 t => ?_))
      refine g_if_eq (tgt := 46) dX8_fits_39 (by decide) (fun c9 => ?_) (fun c9 => ?_)
      · have t := t.1 c9
        refine g_iconst (v := (-1)) dX8_fits_46 (by decide) ?_
        exact g_iret (st := []) dX8_fits_47 (fun e => by cases e) ⟨_, rfl, t⟩
      · have t := t.2 c9
        refine g_iload_n dX8_fits_42 rfl ?_
        refine g_if_ne (tgt := 48) dX8_fits_43 (by decide) (fun c10 => ?_) (fun c10 => ?_)
        · have t := t.1 c10
          refine g_aload_n dX8_fits_48 rfl ?_
          refine g_iconst (v := 0) dX8_fits_49 (by decide) ?_
          refine g_sipush (v := 511) dX8_fits_50 (by decide) ?_
          refine s_V2v dX8_fits_53 vm_X8_findFars ml_X8_197 rfl rfl (by decide) (Nat.le_of_ble_eq_true rfl) rfl (tk_Ms.mono t (fun _ S12 t => ?_))
          refine g_iconst (v := 0) dX8_fits_56 (by decide) ?_
          refine g_istore (ls' := [.ref 45, .int p1, .int p2, .int p3, .int 0, .null, .null, .null, .null, .null]) dX8_fits_57 rfl (by decide) rfl ?_
          refine g_iconst (v := 1) dX8_fits_59 (by decide) ?_
          refine g_istore (ls' := [.ref 45, .int p1, .int p2, .int p3, .int 0, .int 1, .null, .null, .null, .null]) dX8_fits_60 rfl (by decide) rfl ?_
          exact t
        · have t := t.2 c10
          refine g_iconst (v := (-1)) dX8_fits_46 (by decide) ?_
          exact g_iret (st := []) dX8_fits_47 (fun e => by cases e) ⟨_, rfl, t⟩
theorem w_X8_fits_62 {Q : Int32 → tS → Prop} {S : tS} (l1 : Int32) (l2 : Int32) (l3 : Int32) (l4 : Int32) (l5 : Int32)  (t : ((10 ≤ l5 → Q l4 S) ∧ (¬ 10 ≤ l5 → ((0 ≤ l2 → tk_Gs mX8_fits none 86 [.ref 45, .int l1, .int l2, .int l3, .int l4, .int l5, .int 0, .int 0, .int 0, .null] [] S Q) ∧ (¬ 0 ≤ l2 → tk_Gs mX8_fits none 86 [.ref 45, .int l1, .int l2, .int l3, .int l4, .int l5, .int 0, .int 1, .int 0, .null] [] S Q))))) : tk_Gs mX8_fits none 62 [.ref 45, .int l1, .int l2, .int l3, .int l4, .int l5, .null, .null, .null, .null] [] S Q := by
  show tk_G _ 0 0 _ _ _ _ (tkSH, S, tkRF) _
  refine g_iload dX8_fits_62 rfl ?_
  refine g_bipush (v := 10) dX8_fits_64 (by decide) ?_
  refine g_icmp_ge (tgt := 224) dX8_fits_66 (by decide) (fun c1 => ?_) (fun c1 => ?_)
  · have t := t.1 c1
    refine g_iload dX8_fits_224 rfl ?_
    exact g_iret (st := []) dX8_fits_226 (fun e => by cases e) ⟨_, rfl, t⟩
  · have t := t.2 c1
    refine g_iconst (v := 0) dX8_fits_69 (by decide) ?_
    refine g_istore (ls' := [.ref 45, .int l1, .int l2, .int l3, .int l4, .int l5, .int 0, .null, .null, .null]) dX8_fits_70 rfl (by decide) rfl ?_
    refine g_iload_n dX8_fits_72 rfl ?_
    refine g_if_ge (tgt := 80) dX8_fits_73 (by decide) (fun c2 => ?_) (fun c2 => ?_)
    · have t := t.1 c2
      refine g_iconst (v := 0) dX8_fits_80 (by decide) ?_
      refine g_istore (ls' := [.ref 45, .int l1, .int l2, .int l3, .int l4, .int l5, .int 0, .int 0, .null, .null]) dX8_fits_81 rfl (by decide) rfl ?_
      refine g_iconst (v := 0) dX8_fits_83 (by decide) ?_
      refine g_istore (ls' := [.ref 45, .int l1, .int l2, .int l3, .int l4, .int l5, .int 0, .int 0, .int 0, .null]) dX8_fits_84 rfl (by decide) rfl ?_
      exact t
    · have t := t.2 c2
      refine g_iconst (v := 1) dX8_fits_76 (by decide) ?_
      refine g_goto (tgt := 81) dX8_fits_77 (by decide) ?_
      refine g_istore (ls' := [.ref 45, .int l1, .int l2, .int l3, .int l4, .int l5, .int 0, .int 1, .null, .null]) dX8_fits_81 rfl (by decide) rfl ?_
      refine g_iconst (v := 0) dX8_fits_83 (by decide) ?_
      refine g_istore (ls' := [.ref 45, .int l1, .int l2, .int l3, .int l4, .int l5, .int 0, .int 1, .int 0, .null]) dX8_fits_84 rfl (by decide) rfl ?_
      exact t
theorem w_X8_fits_86 {Q : Int32 → tS → Prop} {S : tS} (l1 : Int32) (l2 : Int32) (l3 : Int32) (l4 : Int32) (l5 : Int32) (l6 : Int32) (l7 : Int32) (l8 : Int32)  (t : (((S 45 3) ≤ l8 → ((l7 = 0 → tk_Gs mX8_fits none 62 [.ref 45, .int l1, .int l2, .int l3, .int (l4 ||| 0), .int (l5 + 1), .null, .null, .null, .null] [] S Q) ∧ (¬ l7 = 0 → ((l1 < 0 → ((l3 < 0 → tk_Gs mX8_fits none 62 [.ref 45, .int l1, .int l2, .int l3, .int (l4 ||| (1 <<< (l5 &&& 31))), .int (l5 + 1), .null, .null, .null, .null] [] S Q) ∧ (¬ l3 < 0 → (vp_in l5 11 ∧ ((¬ (S 56 l5.toNatClampNeg) = l3 → tk_Gs mX8_fits none 62 [.ref 45, .int l1, .int l2, .int l3, .int (l4 ||| 0), .int (l5 + 1), .null, .null, .null, .null] [] S Q) ∧ ((S 56 l5.toNatClampNeg) = l3 → tk_Gs mX8_fits none 62 [.ref 45, .int l1, .int l2, .int l3, .int (l4 ||| (1 <<< (l5 &&& 31))), .int (l5 + 1), .null, .null, .null, .null] [] S Q)))))) ∧ (¬ l1 < 0 → ((¬ l6 = l1 → tk_Gs mX8_fits none 62 [.ref 45, .int l1, .int l2, .int l3, .int (l4 ||| 0), .int (l5 + 1), .null, .null, .null, .null] [] S Q) ∧ (l6 = l1 → ((l3 < 0 → tk_Gs mX8_fits none 62 [.ref 45, .int l1, .int l2, .int l3, .int (l4 ||| (1 <<< (l5 &&& 31))), .int (l5 + 1), .null, .null, .null, .null] [] S Q) ∧ (¬ l3 < 0 → (vp_in l5 11 ∧ ((¬ (S 56 l5.toNatClampNeg) = l3 → tk_Gs mX8_fits none 62 [.ref 45, .int l1, .int l2, .int l3, .int (l4 ||| 0), .int (l5 + 1), .null, .null, .null, .null] [] S Q) ∧ ((S 56 l5.toNatClampNeg) = l3 → tk_Gs mX8_fits none 62 [.ref 45, .int l1, .int l2, .int l3, .int (l4 ||| (1 <<< (l5 &&& 31))), .int (l5 + 1), .null, .null, .null, .null] [] S Q)))))))))))) ∧ (¬ (S 45 3) ≤ l8 → (vp_in l8 17 ∧ (((S 46 l8.toNatClampNeg) = l5 → (((1 : Int32) = 0 → ((¬ l7 = 0 → tk_Gs mX8_fits none 86 [.ref 45, .int l1, .int l2, .int l3, .int l4, .int l5, .int (l6 + 0), .int 1, .int (l8 + 1), .null] [] S Q) ∧ (l7 = 0 → (((1 : Int32) = 0 → tk_Gs mX8_fits none 86 [.ref 45, .int l1, .int l2, .int l3, .int l4, .int l5, .int (l6 + 0), .int 0, .int (l8 + 1), .null] [] S Q) ∧ (¬ (1 : Int32) = 0 → (vp_in l8 17 ∧ ((¬ (S 48 l8.toNatClampNeg) = l2 → tk_Gs mX8_fits none 86 [.ref 45, .int l1, .int l2, .int l3, .int l4, .int l5, .int (l6 + 0), .int 0, .int (l8 + 1), .null] [] S Q) ∧ ((S 48 l8.toNatClampNeg) = l2 → tk_Gs mX8_fits none 86 [.ref 45, .int l1, .int l2, .int l3, .int l4, .int l5, .int (l6 + 0), .int 1, .int (l8 + 1), .null] [] S Q)))))))) ∧ (¬ (1 : Int32) = 0 → ((¬ l7 = 0 → tk_Gs mX8_fits none 86 [.ref 45, .int l1, .int l2, .int l3, .int l4, .int l5, .int (l6 + 1), .int 1, .int (l8 + 1), .null] [] S Q) ∧ (l7 = 0 → (((1 : Int32) = 0 → tk_Gs mX8_fits none 86 [.ref 45, .int l1, .int l2, .int l3, .int l4, .int l5, .int (l6 + 1), .int 0, .int (l8 + 1), .null] [] S Q) ∧ (¬ (1 : Int32) = 0 → (vp_in l8 17 ∧ ((¬ (S 48 l8.toNatClampNeg) = l2 → tk_Gs mX8_fits none 86 [.ref 45, .int l1, .int l2, .int l3, .int l4, .int l5, .int (l6 + 1), .int 0, .int (l8 + 1), .null] [] S Q) ∧ ((S 48 l8.toNatClampNeg) = l2 → tk_Gs mX8_fits none 86 [.ref 45, .int l1, .int l2, .int l3, .int l4, .int l5, .int (l6 + 1), .int 1, .int (l8 + 1), .null] [] S Q)))))))))) ∧ (¬ (S 46 l8.toNatClampNeg) = l5 → (vp_in l8 17 ∧ ((¬ (S 47 l8.toNatClampNeg) = l5 → (((0 : Int32) = 0 → ((¬ l7 = 0 → tk_Gs mX8_fits none 86 [.ref 45, .int l1, .int l2, .int l3, .int l4, .int l5, .int (l6 + 0), .int 1, .int (l8 + 1), .null] [] S Q) ∧ (l7 = 0 → (((0 : Int32) = 0 → tk_Gs mX8_fits none 86 [.ref 45, .int l1, .int l2, .int l3, .int l4, .int l5, .int (l6 + 0), .int 0, .int (l8 + 1), .null] [] S Q) ∧ (¬ (0 : Int32) = 0 → (vp_in l8 17 ∧ ((¬ (S 48 l8.toNatClampNeg) = l2 → tk_Gs mX8_fits none 86 [.ref 45, .int l1, .int l2, .int l3, .int l4, .int l5, .int (l6 + 0), .int 0, .int (l8 + 1), .null] [] S Q) ∧ ((S 48 l8.toNatClampNeg) = l2 → tk_Gs mX8_fits none 86 [.ref 45, .int l1, .int l2, .int l3, .int l4, .int l5, .int (l6 + 0), .int 1, .int (l8 + 1), .null] [] S Q)))))))) ∧ (¬ (0 : Int32) = 0 → ((¬ l7 = 0 → tk_Gs mX8_fits none 86 [.ref 45, .int l1, .int l2, .int l3, .int l4, .int l5, .int (l6 + 1), .int 1, .int (l8 + 1), .null] [] S Q) ∧ (l7 = 0 → (((0 : Int32) = 0 → tk_Gs mX8_fits none 86 [.ref 45, .int l1, .int l2, .int l3, .int l4, .int l5, .int (l6 + 1), .int 0, .int (l8 + 1), .null] [] S Q) ∧ (¬ (0 : Int32) = 0 → (vp_in l8 17 ∧ ((¬ (S 48 l8.toNatClampNeg) = l2 → tk_Gs mX8_fits none 86 [.ref 45, .int l1, .int l2, .int l3, .int l4, .int l5, .int (l6 + 1), .int 0, .int (l8 + 1), .null] [] S Q) ∧ ((S 48 l8.toNatClampNeg) = l2 → tk_Gs mX8_fits none 86 [.ref 45, .int l1, .int l2, .int l3, .int l4, .int l5, .int (l6 + 1), .int 1, .int (l8 + 1), .null] [] S Q)))))))))) ∧ ((S 47 l8.toNatClampNeg) = l5 → (((1 : Int32) = 0 → ((¬ l7 = 0 → tk_Gs mX8_fits none 86 [.ref 45, .int l1, .int l2, .int l3, .int l4, .int l5, .int (l6 + 0), .int 1, .int (l8 + 1), .null] [] S Q) ∧ (l7 = 0 → (((1 : Int32) = 0 → tk_Gs mX8_fits none 86 [.ref 45, .int l1, .int l2, .int l3, .int l4, .int l5, .int (l6 + 0), .int 0, .int (l8 + 1), .null] [] S Q) ∧ (¬ (1 : Int32) = 0 → (vp_in l8 17 ∧ ((¬ (S 48 l8.toNatClampNeg) = l2 → tk_Gs mX8_fits none 86 [.ref 45, .int l1, .int l2, .int l3, .int l4, .int l5, .int (l6 + 0), .int 0, .int (l8 + 1), .null] [] S Q) ∧ ((S 48 l8.toNatClampNeg) = l2 → tk_Gs mX8_fits none 86 [.ref 45, .int l1, .int l2, .int l3, .int l4, .int l5, .int (l6 + 0), .int 1, .int (l8 + 1), .null] [] S Q)))))))) ∧ (¬ (1 : Int32) = 0 → ((¬ l7 = 0 → tk_Gs mX8_fits none 86 [.ref 45, .int l1, .int l2, .int l3, .int l4, .int l5, .int (l6 + 1), .int 1, .int (l8 + 1), .null] [] S Q) ∧ (l7 = 0 → (((1 : Int32) = 0 → tk_Gs mX8_fits none 86 [.ref 45, .int l1, .int l2, .int l3, .int l4, .int l5, .int (l6 + 1), .int 0, .int (l8 + 1), .null] [] S Q) ∧ (¬ (1 : Int32) = 0 → (vp_in l8 17 ∧ ((¬ (S 48 l8.toNatClampNeg) = l2 → tk_Gs mX8_fits none 86 [.ref 45, .int l1, .int l2, .int l3, .int l4, .int l5, .int (l6 + 1), .int 0, .int (l8 + 1), .null] [] S Q) ∧ ((S 48 l8.toNatClampNeg) = l2 → tk_Gs mX8_fits none 86 [.ref 45, .int l1, .int l2, .int l3, .int l4, .int l5, .int (l6 + 1), .int 1, .int (l8 + 1), .null] [] S Q)))))))))))))))))) : tk_Gs mX8_fits none 86 [.ref 45, .int l1, .int l2, .int l3, .int l4, .int l5, .int l6, .int l7, .int l8, .null] [] S Q := by
  show tk_G _ 0 0 _ _ _ _ (tkSH, S, tkRF) _
  refine g_iload dX8_fits_86 rfl ?_
  refine g_aload_n dX8_fits_88 rfl ?_
  refine g_getI (n := 25) dX8_fits_89 fl_X8_84 rfl (by decide) (by decide) rfl ?_
  refine g_icmp_ge (tgt := 175) dX8_fits_92 (by decide) (fun c1 => ?_) (fun c1 => ?_)
  · have t := t.1 c1
    refine g_iload dX8_fits_175 rfl ?_
    refine g_iload dX8_fits_177 rfl ?_
    refine g_if_eq (tgt := 214) dX8_fits_179 (by decide) (fun c2 => ?_) (fun c2 => ?_)
    · have t := t.1 c2
      refine g_iconst (v := 0) dX8_fits_214 (by decide) ?_
      refine g_ior dX8_fits_215 ?_
      refine g_istore (ls' := [.ref 45, .int l1, .int l2, .int l3, .int (l4 ||| 0), .int l5, .int l6, .int l7, .int l8, .null]) dX8_fits_216 rfl (by decide) rfl ?_
      refine g_iinc (v := l5 + 1) (ls' := [.ref 45, .int l1, .int l2, .int l3, .int (l4 ||| 0), .int (l5 + 1), .int l6, .int l7, .int l8, .null]) dX8_fits_218 rfl rfl (by decide) rfl rfl ?_
      refine g_goto (tgt := 62) dX8_fits_221 (by decide) ?_
      refine g_drop (ls' := [.ref 45, .int l1, .int l2, .int l3, .int (l4 ||| 0), .int (l5 + 1), .null, .null, .null, .null]) ⟨Or.inl rfl, Or.inl rfl, Or.inl rfl, Or.inl rfl, Or.inl rfl, Or.inl rfl, Or.inr rfl, Or.inr rfl, Or.inr rfl, Or.inl rfl, trivial⟩ ?_
      exact t
    · have t := t.2 c2
      refine g_iload_n dX8_fits_182 rfl ?_
      refine g_if_lt (tgt := 192) dX8_fits_183 (by decide) (fun c3 => ?_) (fun c3 => ?_)
      · have t := t.1 c3
        refine g_iload_n dX8_fits_192 rfl ?_
        refine g_if_lt (tgt := 207) dX8_fits_193 (by decide) (fun c4 => ?_) (fun c4 => ?_)
        · have t := t.1 c4
          refine g_iconst (v := 1) dX8_fits_207 (by decide) ?_
          refine g_iload dX8_fits_208 rfl ?_
          refine g_ishl dX8_fits_210 ?_
          refine g_goto (tgt := 215) dX8_fits_211 (by decide) ?_
          refine g_ior dX8_fits_215 ?_
          refine g_istore (ls' := [.ref 45, .int l1, .int l2, .int l3, .int (l4 ||| (1 <<< (l5 &&& 31))), .int l5, .int l6, .int l7, .int l8, .null]) dX8_fits_216 rfl (by decide) rfl ?_
          refine g_iinc (v := l5 + 1) (ls' := [.ref 45, .int l1, .int l2, .int l3, .int (l4 ||| (1 <<< (l5 &&& 31))), .int (l5 + 1), .int l6, .int l7, .int l8, .null]) dX8_fits_218 rfl rfl (by decide) rfl rfl ?_
          refine g_goto (tgt := 62) dX8_fits_221 (by decide) ?_
          refine g_drop (ls' := [.ref 45, .int l1, .int l2, .int l3, .int (l4 ||| (1 <<< (l5 &&& 31))), .int (l5 + 1), .null, .null, .null, .null]) ⟨Or.inl rfl, Or.inl rfl, Or.inl rfl, Or.inl rfl, Or.inl rfl, Or.inl rfl, Or.inr rfl, Or.inr rfl, Or.inr rfl, Or.inl rfl, trivial⟩ ?_
          exact t
        · have t := t.2 c4
          refine g_aload_n dX8_fits_196 rfl ?_
          refine g_getR (n := 25) dX8_fits_197 fl_X8_40 rfl (by decide) (by decide) rfl rfl ?_
          refine g_iload dX8_fits_200 rfl ?_
          refine g_iald (n := 11) dX8_fits_202 rfl t.1 ?_
          have t := t.2
          refine g_iload_n dX8_fits_203 rfl ?_
          refine g_icmp_ne (tgt := 214) dX8_fits_204 (by decide) (fun c5 => ?_) (fun c5 => ?_)
          · have t := t.1 c5
            refine g_iconst (v := 0) dX8_fits_214 (by decide) ?_
            refine g_ior dX8_fits_215 ?_
            refine g_istore (ls' := [.ref 45, .int l1, .int l2, .int l3, .int (l4 ||| 0), .int l5, .int l6, .int l7, .int l8, .null]) dX8_fits_216 rfl (by decide) rfl ?_
            refine g_iinc (v := l5 + 1) (ls' := [.ref 45, .int l1, .int l2, .int l3, .int (l4 ||| 0), .int (l5 + 1), .int l6, .int l7, .int l8, .null]) dX8_fits_218 rfl rfl (by decide) rfl rfl ?_
            refine g_goto (tgt := 62) dX8_fits_221 (by decide) ?_
            refine g_drop (ls' := [.ref 45, .int l1, .int l2, .int l3, .int (l4 ||| 0), .int (l5 + 1), .null, .null, .null, .null]) ⟨Or.inl rfl, Or.inl rfl, Or.inl rfl, Or.inl rfl, Or.inl rfl, Or.inl rfl, Or.inr rfl, Or.inr rfl, Or.inr rfl, Or.inl rfl, trivial⟩ ?_
            exact t
          · have t := t.2 c5
            refine g_iconst (v := 1) dX8_fits_207 (by decide) ?_
            refine g_iload dX8_fits_208 rfl ?_
            refine g_ishl dX8_fits_210 ?_
            refine g_goto (tgt := 215) dX8_fits_211 (by decide) ?_
            refine g_ior dX8_fits_215 ?_
            refine g_istore (ls' := [.ref 45, .int l1, .int l2, .int l3, .int (l4 ||| (1 <<< (l5 &&& 31))), .int l5, .int l6, .int l7, .int l8, .null]) dX8_fits_216 rfl (by decide) rfl ?_
            refine g_iinc (v := l5 + 1) (ls' := [.ref 45, .int l1, .int l2, .int l3, .int (l4 ||| (1 <<< (l5 &&& 31))), .int (l5 + 1), .int l6, .int l7, .int l8, .null]) dX8_fits_218 rfl rfl (by decide) rfl rfl ?_
            refine g_goto (tgt := 62) dX8_fits_221 (by decide) ?_
            refine g_drop (ls' := [.ref 45, .int l1, .int l2, .int l3, .int (l4 ||| (1 <<< (l5 &&& 31))), .int (l5 + 1), .null, .null, .null, .null]) ⟨Or.inl rfl, Or.inl rfl, Or.inl rfl, Or.inl rfl, Or.inl rfl, Or.inl rfl, Or.inr rfl, Or.inr rfl, Or.inr rfl, Or.inl rfl, trivial⟩ ?_
            exact t
      · have t := t.2 c3
        refine g_iload dX8_fits_186 rfl ?_
        refine g_iload_n dX8_fits_188 rfl ?_
        refine g_icmp_ne (tgt := 214) dX8_fits_189 (by decide) (fun c6 => ?_) (fun c6 => ?_)
        · have t := t.1 c6
          refine g_iconst (v := 0) dX8_fits_214 (by decide) ?_
          refine g_ior dX8_fits_215 ?_
          refine g_istore (ls' := [.ref 45, .int l1, .int l2, .int l3, .int (l4 ||| 0), .int l5, .int l6, .int l7, .int l8, .null]) dX8_fits_216 rfl (by decide) rfl ?_
          refine g_iinc (v := l5 + 1) (ls' := [.ref 45, .int l1, .int l2, .int l3, .int (l4 ||| 0), .int (l5 + 1), .int l6, .int l7, .int l8, .null]) dX8_fits_218 rfl rfl (by decide) rfl rfl ?_
          refine g_goto (tgt := 62) dX8_fits_221 (by decide) ?_
          refine g_drop (ls' := [.ref 45, .int l1, .int l2, .int l3, .int (l4 ||| 0), .int (l5 + 1), .null, .null, .null, .null]) ⟨Or.inl rfl, Or.inl rfl, Or.inl rfl, Or.inl rfl, Or.inl rfl, Or.inl rfl, Or.inr rfl, Or.inr rfl, Or.inr rfl, Or.inl rfl, trivial⟩ ?_
          exact t
        · have t := t.2 c6
          refine g_iload_n dX8_fits_192 rfl ?_
          refine g_if_lt (tgt := 207) dX8_fits_193 (by decide) (fun c7 => ?_) (fun c7 => ?_)
          · have t := t.1 c7
            refine g_iconst (v := 1) dX8_fits_207 (by decide) ?_
            refine g_iload dX8_fits_208 rfl ?_
            refine g_ishl dX8_fits_210 ?_
            refine g_goto (tgt := 215) dX8_fits_211 (by decide) ?_
            refine g_ior dX8_fits_215 ?_
            refine g_istore (ls' := [.ref 45, .int l1, .int l2, .int l3, .int (l4 ||| (1 <<< (l5 &&& 31))), .int l5, .int l6, .int l7, .int l8, .null]) dX8_fits_216 rfl (by decide) rfl ?_
            refine g_iinc (v := l5 + 1) (ls' := [.ref 45, .int l1, .int l2, .int l3, .int (l4 ||| (1 <<< (l5 &&& 31))), .int (l5 + 1), .int l6, .int l7, .int l8, .null]) dX8_fits_218 rfl rfl (by decide) rfl rfl ?_
            refine g_goto (tgt := 62) dX8_fits_221 (by decide) ?_
            refine g_drop (ls' := [.ref 45, .int l1, .int l2, .int l3, .int (l4 ||| (1 <<< (l5 &&& 31))), .int (l5 + 1), .null, .null, .null, .null]) ⟨Or.inl rfl, Or.inl rfl, Or.inl rfl, Or.inl rfl, Or.inl rfl, Or.inl rfl, Or.inr rfl, Or.inr rfl, Or.inr rfl, Or.inl rfl, trivial⟩ ?_
            exact t
          · have t := t.2 c7
            refine g_aload_n dX8_fits_196 rfl ?_
            refine g_getR (n := 25) dX8_fits_197 fl_X8_40 rfl (by decide) (by decide) rfl rfl ?_
            refine g_iload dX8_fits_200 rfl ?_
            refine g_iald (n := 11) dX8_fits_202 rfl t.1 ?_
            have t := t.2
            refine g_iload_n dX8_fits_203 rfl ?_
            refine g_icmp_ne (tgt := 214) dX8_fits_204 (by decide) (fun c8 => ?_) (fun c8 => ?_)
            · have t := t.1 c8
              refine g_iconst (v := 0) dX8_fits_214 (by decide) ?_
              refine g_ior dX8_fits_215 ?_
              refine g_istore (ls' := [.ref 45, .int l1, .int l2, .int l3, .int (l4 ||| 0), .int l5, .int l6, .int l7, .int l8, .null]) dX8_fits_216 rfl (by decide) rfl ?_
              refine g_iinc (v := l5 + 1) (ls' := [.ref 45, .int l1, .int l2, .int l3, .int (l4 ||| 0), .int (l5 + 1), .int l6, .int l7, .int l8, .null]) dX8_fits_218 rfl rfl (by decide) rfl rfl ?_
              refine g_goto (tgt := 62) dX8_fits_221 (by decide) ?_
              refine g_drop (ls' := [.ref 45, .int l1, .int l2, .int l3, .int (l4 ||| 0), .int (l5 + 1), .null, .null, .null, .null]) ⟨Or.inl rfl, Or.inl rfl, Or.inl rfl, Or.inl rfl, Or.inl rfl, Or.inl rfl, Or.inr rfl, Or.inr rfl, Or.inr rfl, Or.inl rfl, trivial⟩ ?_
              exact t
            · have t := t.2 c8
              refine g_iconst (v := 1) dX8_fits_207 (by decide) ?_
              refine g_iload dX8_fits_208 rfl ?_
              refine g_ishl dX8_fits_210 ?_
              refine g_goto (tgt := 215) dX8_fits_211 (by decide) ?_
              refine g_ior dX8_fits_215 ?_
              refine g_istore (ls' := [.ref 45, .int l1, .int l2, .int l3, .int (l4 ||| (1 <<< (l5 &&& 31))), .int l5, .int l6, .int l7, .int l8, .null]) dX8_fits_216 rfl (by decide) rfl ?_
              refine g_iinc (v := l5 + 1) (ls' := [.ref 45, .int l1, .int l2, .int l3, .int (l4 ||| (1 <<< (l5 &&& 31))), .int (l5 + 1), .int l6, .int l7, .int l8, .null]) dX8_fits_218 rfl rfl (by decide) rfl rfl ?_
              refine g_goto (tgt := 62) dX8_fits_221 (by decide) ?_
              refine g_drop (ls' := [.ref 45, .int l1, .int l2, .int l3, .int (l4 ||| (1 <<< (l5 &&& 31))), .int (l5 + 1), .null, .null, .null, .null]) ⟨Or.inl rfl, Or.inl rfl, Or.inl rfl, Or.inl rfl, Or.inl rfl, Or.inl rfl, Or.inr rfl, Or.inr rfl, Or.inr rfl, Or.inl rfl, trivial⟩ ?_
              exact t
  · have t := t.2 c1
    refine g_aload_n dX8_fits_95 rfl ?_
    refine g_getR (n := 25) dX8_fits_96 fl_X8_7 rfl (by decide) (by decide) rfl rfl ?_
    refine g_iload dX8_fits_99 rfl ?_
    refine g_iald (n := 17) dX8_fits_101 rfl t.1 ?_
    have t := t.2
    refine g_iload dX8_fits_102 rfl ?_
    refine g_icmp_eq (tgt := 119) dX8_fits_104 (by decide) (fun c9 => ?_) (fun c9 => ?_)
    · have t := t.1 c9
      refine g_iconst (v := 1) dX8_fits_119 (by decide) ?_
      refine g_goto (tgt := 124) dX8_fits_120 (by decide) ?_
      refine g_istore (ls' := [.ref 45, .int l1, .int l2, .int l3, .int l4, .int l5, .int l6, .int l7, .int l8, .int 1]) dX8_fits_124 rfl (by decide) rfl ?_
      refine g_iload dX8_fits_126 rfl ?_
      refine g_iload dX8_fits_128 rfl ?_
      refine g_if_eq (tgt := 137) dX8_fits_130 (by decide) (fun c10 => ?_) (fun c10 => ?_)
      · have t := t.1 c10
        refine g_iconst (v := 0) dX8_fits_137 (by decide) ?_
        refine g_iadd dX8_fits_138 ?_
        refine g_istore (ls' := [.ref 45, .int l1, .int l2, .int l3, .int l4, .int l5, .int (l6 + 0), .int l7, .int l8, .int 1]) dX8_fits_139 rfl (by decide) rfl ?_
        refine g_iload dX8_fits_141 rfl ?_
        refine g_if_ne (tgt := 162) dX8_fits_143 (by decide) (fun c11 => ?_) (fun c11 => ?_)
        · have t := t.1 c11
          refine g_iconst (v := 1) dX8_fits_162 (by decide) ?_
          refine g_goto (tgt := 167) dX8_fits_163 (by decide) ?_
          refine g_istore (ls' := [.ref 45, .int l1, .int l2, .int l3, .int l4, .int l5, .int (l6 + 0), .int 1, .int l8, .int 1]) dX8_fits_167 rfl (by decide) rfl ?_
          refine g_iinc (v := l8 + 1) (ls' := [.ref 45, .int l1, .int l2, .int l3, .int l4, .int l5, .int (l6 + 0), .int 1, .int (l8 + 1), .int 1]) dX8_fits_169 rfl rfl (by decide) rfl rfl ?_
          refine g_goto (tgt := 86) dX8_fits_172 (by decide) ?_
          refine g_drop (ls' := [.ref 45, .int l1, .int l2, .int l3, .int l4, .int l5, .int (l6 + 0), .int 1, .int (l8 + 1), .null]) ⟨Or.inl rfl, Or.inl rfl, Or.inl rfl, Or.inl rfl, Or.inl rfl, Or.inl rfl, Or.inl rfl, Or.inl rfl, Or.inl rfl, Or.inr rfl, trivial⟩ ?_
          exact t
        · have t := t.2 c11
          refine g_iload dX8_fits_146 rfl ?_
          refine g_if_eq (tgt := 166) dX8_fits_148 (by decide) (fun c12 => ?_) (fun c12 => ?_)
          · have t := t.1 c12
            refine g_iconst (v := 0) dX8_fits_166 (by decide) ?_
            refine g_istore (ls' := [.ref 45, .int l1, .int l2, .int l3, .int l4, .int l5, .int (l6 + 0), .int 0, .int l8, .int 1]) dX8_fits_167 rfl (by decide) rfl ?_
            refine g_iinc (v := l8 + 1) (ls' := [.ref 45, .int l1, .int l2, .int l3, .int l4, .int l5, .int (l6 + 0), .int 0, .int (l8 + 1), .int 1]) dX8_fits_169 rfl rfl (by decide) rfl rfl ?_
            refine g_goto (tgt := 86) dX8_fits_172 (by decide) ?_
            refine g_drop (ls' := [.ref 45, .int l1, .int l2, .int l3, .int l4, .int l5, .int (l6 + 0), .int 0, .int (l8 + 1), .null]) ⟨Or.inl rfl, Or.inl rfl, Or.inl rfl, Or.inl rfl, Or.inl rfl, Or.inl rfl, Or.inl rfl, Or.inl rfl, Or.inl rfl, Or.inr rfl, trivial⟩ ?_
            exact t
          · have t := t.2 c12
            refine g_aload_n dX8_fits_151 rfl ?_
            refine g_getR (n := 25) dX8_fits_152 fl_X8_16 rfl (by decide) (by decide) rfl rfl ?_
            refine g_iload dX8_fits_155 rfl ?_
            refine g_iald (n := 17) dX8_fits_157 rfl t.1 ?_
            have t := t.2
            refine g_iload_n dX8_fits_158 rfl ?_
            refine g_icmp_ne (tgt := 166) dX8_fits_159 (by decide) (fun c13 => ?_) (fun c13 => ?_)
            · have t := t.1 c13
              refine g_iconst (v := 0) dX8_fits_166 (by decide) ?_
              refine g_istore (ls' := [.ref 45, .int l1, .int l2, .int l3, .int l4, .int l5, .int (l6 + 0), .int 0, .int l8, .int 1]) dX8_fits_167 rfl (by decide) rfl ?_
              refine g_iinc (v := l8 + 1) (ls' := [.ref 45, .int l1, .int l2, .int l3, .int l4, .int l5, .int (l6 + 0), .int 0, .int (l8 + 1), .int 1]) dX8_fits_169 rfl rfl (by decide) rfl rfl ?_
              refine g_goto (tgt := 86) dX8_fits_172 (by decide) ?_
              refine g_drop (ls' := [.ref 45, .int l1, .int l2, .int l3, .int l4, .int l5, .int (l6 + 0), .int 0, .int (l8 + 1), .null]) ⟨Or.inl rfl, Or.inl rfl, Or.inl rfl, Or.inl rfl, Or.inl rfl, Or.inl rfl, Or.inl rfl, Or.inl rfl, Or.inl rfl, Or.inr rfl, trivial⟩ ?_
              exact t
            · have t := t.2 c13
              refine g_iconst (v := 1) dX8_fits_162 (by decide) ?_
              refine g_goto (tgt := 167) dX8_fits_163 (by decide) ?_
              refine g_istore (ls' := [.ref 45, .int l1, .int l2, .int l3, .int l4, .int l5, .int (l6 + 0), .int 1, .int l8, .int 1]) dX8_fits_167 rfl (by decide) rfl ?_
              refine g_iinc (v := l8 + 1) (ls' := [.ref 45, .int l1, .int l2, .int l3, .int l4, .int l5, .int (l6 + 0), .int 1, .int (l8 + 1), .int 1]) dX8_fits_169 rfl rfl (by decide) rfl rfl ?_
              refine g_goto (tgt := 86) dX8_fits_172 (by decide) ?_
              refine g_drop (ls' := [.ref 45, .int l1, .int l2, .int l3, .int l4, .int l5, .int (l6 + 0), .int 1, .int (l8 + 1), .null]) ⟨Or.inl rfl, Or.inl rfl, Or.inl rfl, Or.inl rfl, Or.inl rfl, Or.inl rfl, Or.inl rfl, Or.inl rfl, Or.inl rfl, Or.inr rfl, trivial⟩ ?_
              exact t
      · have t := t.2 c10
        refine g_iconst (v := 1) dX8_fits_133 (by decide) ?_
        refine g_goto (tgt := 138) dX8_fits_134 (by decide) ?_
        refine g_iadd dX8_fits_138 ?_
        refine g_istore (ls' := [.ref 45, .int l1, .int l2, .int l3, .int l4, .int l5, .int (l6 + 1), .int l7, .int l8, .int 1]) dX8_fits_139 rfl (by decide) rfl ?_
        refine g_iload dX8_fits_141 rfl ?_
        refine g_if_ne (tgt := 162) dX8_fits_143 (by decide) (fun c14 => ?_) (fun c14 => ?_)
        · have t := t.1 c14
          refine g_iconst (v := 1) dX8_fits_162 (by decide) ?_
          refine g_goto (tgt := 167) dX8_fits_163 (by decide) ?_
          refine g_istore (ls' := [.ref 45, .int l1, .int l2, .int l3, .int l4, .int l5, .int (l6 + 1), .int 1, .int l8, .int 1]) dX8_fits_167 rfl (by decide) rfl ?_
          refine g_iinc (v := l8 + 1) (ls' := [.ref 45, .int l1, .int l2, .int l3, .int l4, .int l5, .int (l6 + 1), .int 1, .int (l8 + 1), .int 1]) dX8_fits_169 rfl rfl (by decide) rfl rfl ?_
          refine g_goto (tgt := 86) dX8_fits_172 (by decide) ?_
          refine g_drop (ls' := [.ref 45, .int l1, .int l2, .int l3, .int l4, .int l5, .int (l6 + 1), .int 1, .int (l8 + 1), .null]) ⟨Or.inl rfl, Or.inl rfl, Or.inl rfl, Or.inl rfl, Or.inl rfl, Or.inl rfl, Or.inl rfl, Or.inl rfl, Or.inl rfl, Or.inr rfl, trivial⟩ ?_
          exact t
        · have t := t.2 c14
          refine g_iload dX8_fits_146 rfl ?_
          refine g_if_eq (tgt := 166) dX8_fits_148 (by decide) (fun c15 => ?_) (fun c15 => ?_)
          · have t := t.1 c15
            refine g_iconst (v := 0) dX8_fits_166 (by decide) ?_
            refine g_istore (ls' := [.ref 45, .int l1, .int l2, .int l3, .int l4, .int l5, .int (l6 + 1), .int 0, .int l8, .int 1]) dX8_fits_167 rfl (by decide) rfl ?_
            refine g_iinc (v := l8 + 1) (ls' := [.ref 45, .int l1, .int l2, .int l3, .int l4, .int l5, .int (l6 + 1), .int 0, .int (l8 + 1), .int 1]) dX8_fits_169 rfl rfl (by decide) rfl rfl ?_
            refine g_goto (tgt := 86) dX8_fits_172 (by decide) ?_
            refine g_drop (ls' := [.ref 45, .int l1, .int l2, .int l3, .int l4, .int l5, .int (l6 + 1), .int 0, .int (l8 + 1), .null]) ⟨Or.inl rfl, Or.inl rfl, Or.inl rfl, Or.inl rfl, Or.inl rfl, Or.inl rfl, Or.inl rfl, Or.inl rfl, Or.inl rfl, Or.inr rfl, trivial⟩ ?_
            exact t
          · have t := t.2 c15
            refine g_aload_n dX8_fits_151 rfl ?_
            refine g_getR (n := 25) dX8_fits_152 fl_X8_16 rfl (by decide) (by decide) rfl rfl ?_
            refine g_iload dX8_fits_155 rfl ?_
            refine g_iald (n := 17) dX8_fits_157 rfl t.1 ?_
            have t := t.2
            refine g_iload_n dX8_fits_158 rfl ?_
            refine g_icmp_ne (tgt := 166) dX8_fits_159 (by decide) (fun c16 => ?_) (fun c16 => ?_)
            · have t := t.1 c16
              refine g_iconst (v := 0) dX8_fits_166 (by decide) ?_
              refine g_istore (ls' := [.ref 45, .int l1, .int l2, .int l3, .int l4, .int l5, .int (l6 + 1), .int 0, .int l8, .int 1]) dX8_fits_167 rfl (by decide) rfl ?_
              refine g_iinc (v := l8 + 1) (ls' := [.ref 45, .int l1, .int l2, .int l3, .int l4, .int l5, .int (l6 + 1), .int 0, .int (l8 + 1), .int 1]) dX8_fits_169 rfl rfl (by decide) rfl rfl ?_
              refine g_goto (tgt := 86) dX8_fits_172 (by decide) ?_
              refine g_drop (ls' := [.ref 45, .int l1, .int l2, .int l3, .int l4, .int l5, .int (l6 + 1), .int 0, .int (l8 + 1), .null]) ⟨Or.inl rfl, Or.inl rfl, Or.inl rfl, Or.inl rfl, Or.inl rfl, Or.inl rfl, Or.inl rfl, Or.inl rfl, Or.inl rfl, Or.inr rfl, trivial⟩ ?_
              exact t
            · have t := t.2 c16
              refine g_iconst (v := 1) dX8_fits_162 (by decide) ?_
              refine g_goto (tgt := 167) dX8_fits_163 (by decide) ?_
              refine g_istore (ls' := [.ref 45, .int l1, .int l2, .int l3, .int l4, .int l5, .int (l6 + 1), .int 1, .int l8, .int 1]) dX8_fits_167 rfl (by decide) rfl ?_
              refine g_iinc (v := l8 + 1) (ls' := [.ref 45, .int l1, .int l2, .int l3, .int l4, .int l5, .int (l6 + 1), .int 1, .int (l8 + 1), .int 1]) dX8_fits_169 rfl rfl (by decide) rfl rfl ?_
              refine g_goto (tgt := 86) dX8_fits_172 (by decide) ?_
              refine g_drop (ls' := [.ref 45, .int l1, .int l2, .int l3, .int l4, .int l5, .int (l6 + 1), .int 1, .int (l8 + 1), .null]) ⟨Or.inl rfl, Or.inl rfl, Or.inl rfl, Or.inl rfl, Or.inl rfl, Or.inl rfl, Or.inl rfl, Or.inl rfl, Or.inl rfl, Or.inr rfl, trivial⟩ ?_
              exact t
    · have t := t.2 c9
      refine g_aload_n dX8_fits_107 rfl ?_
      refine g_getR (n := 25) dX8_fits_108 fl_X8_13 rfl (by decide) (by decide) rfl rfl ?_
      refine g_iload dX8_fits_111 rfl ?_
      refine g_iald (n := 17) dX8_fits_113 rfl t.1 ?_
      have t := t.2
      refine g_iload dX8_fits_114 rfl ?_
      refine g_icmp_ne (tgt := 123) dX8_fits_116 (by decide) (fun c17 => ?_) (fun c17 => ?_)
      · have t := t.1 c17
        refine g_iconst (v := 0) dX8_fits_123 (by decide) ?_
        refine g_istore (ls' := [.ref 45, .int l1, .int l2, .int l3, .int l4, .int l5, .int l6, .int l7, .int l8, .int 0]) dX8_fits_124 rfl (by decide) rfl ?_
        refine g_iload dX8_fits_126 rfl ?_
        refine g_iload dX8_fits_128 rfl ?_
        refine g_if_eq (tgt := 137) dX8_fits_130 (by decide) (fun c18 => ?_) (fun c18 => ?_)
        · have t := t.1 c18
          refine g_iconst (v := 0) dX8_fits_137 (by decide) ?_
          refine g_iadd dX8_fits_138 ?_
          refine g_istore (ls' := [.ref 45, .int l1, .int l2, .int l3, .int l4, .int l5, .int (l6 + 0), .int l7, .int l8, .int 0]) dX8_fits_139 rfl (by decide) rfl ?_
          refine g_iload dX8_fits_141 rfl ?_
          refine g_if_ne (tgt := 162) dX8_fits_143 (by decide) (fun c19 => ?_) (fun c19 => ?_)
          · have t := t.1 c19
            refine g_iconst (v := 1) dX8_fits_162 (by decide) ?_
            refine g_goto (tgt := 167) dX8_fits_163 (by decide) ?_
            refine g_istore (ls' := [.ref 45, .int l1, .int l2, .int l3, .int l4, .int l5, .int (l6 + 0), .int 1, .int l8, .int 0]) dX8_fits_167 rfl (by decide) rfl ?_
            refine g_iinc (v := l8 + 1) (ls' := [.ref 45, .int l1, .int l2, .int l3, .int l4, .int l5, .int (l6 + 0), .int 1, .int (l8 + 1), .int 0]) dX8_fits_169 rfl rfl (by decide) rfl rfl ?_
            refine g_goto (tgt := 86) dX8_fits_172 (by decide) ?_
            refine g_drop (ls' := [.ref 45, .int l1, .int l2, .int l3, .int l4, .int l5, .int (l6 + 0), .int 1, .int (l8 + 1), .null]) ⟨Or.inl rfl, Or.inl rfl, Or.inl rfl, Or.inl rfl, Or.inl rfl, Or.inl rfl, Or.inl rfl, Or.inl rfl, Or.inl rfl, Or.inr rfl, trivial⟩ ?_
            exact t
          · have t := t.2 c19
            refine g_iload dX8_fits_146 rfl ?_
            refine g_if_eq (tgt := 166) dX8_fits_148 (by decide) (fun c20 => ?_) (fun c20 => ?_)
            · have t := t.1 c20
              refine g_iconst (v := 0) dX8_fits_166 (by decide) ?_
              refine g_istore (ls' := [.ref 45, .int l1, .int l2, .int l3, .int l4, .int l5, .int (l6 + 0), .int 0, .int l8, .int 0]) dX8_fits_167 rfl (by decide) rfl ?_
              refine g_iinc (v := l8 + 1) (ls' := [.ref 45, .int l1, .int l2, .int l3, .int l4, .int l5, .int (l6 + 0), .int 0, .int (l8 + 1), .int 0]) dX8_fits_169 rfl rfl (by decide) rfl rfl ?_
              refine g_goto (tgt := 86) dX8_fits_172 (by decide) ?_
              refine g_drop (ls' := [.ref 45, .int l1, .int l2, .int l3, .int l4, .int l5, .int (l6 + 0), .int 0, .int (l8 + 1), .null]) ⟨Or.inl rfl, Or.inl rfl, Or.inl rfl, Or.inl rfl, Or.inl rfl, Or.inl rfl, Or.inl rfl, Or.inl rfl, Or.inl rfl, Or.inr rfl, trivial⟩ ?_
              exact t
            · have t := t.2 c20
              refine g_aload_n dX8_fits_151 rfl ?_
              refine g_getR (n := 25) dX8_fits_152 fl_X8_16 rfl (by decide) (by decide) rfl rfl ?_
              refine g_iload dX8_fits_155 rfl ?_
              refine g_iald (n := 17) dX8_fits_157 rfl t.1 ?_
              have t := t.2
              refine g_iload_n dX8_fits_158 rfl ?_
              refine g_icmp_ne (tgt := 166) dX8_fits_159 (by decide) (fun c21 => ?_) (fun c21 => ?_)
              · have t := t.1 c21
                refine g_iconst (v := 0) dX8_fits_166 (by decide) ?_
                refine g_istore (ls' := [.ref 45, .int l1, .int l2, .int l3, .int l4, .int l5, .int (l6 + 0), .int 0, .int l8, .int 0]) dX8_fits_167 rfl (by decide) rfl ?_
                refine g_iinc (v := l8 + 1) (ls' := [.ref 45, .int l1, .int l2, .int l3, .int l4, .int l5, .int (l6 + 0), .int 0, .int (l8 + 1), .int 0]) dX8_fits_169 rfl rfl (by decide) rfl rfl ?_
                refine g_goto (tgt := 86) dX8_fits_172 (by decide) ?_
                refine g_drop (ls' := [.ref 45, .int l1, .int l2, .int l3, .int l4, .int l5, .int (l6 + 0), .int 0, .int (l8 + 1), .null]) ⟨Or.inl rfl, Or.inl rfl, Or.inl rfl, Or.inl rfl, Or.inl rfl, Or.inl rfl, Or.inl rfl, Or.inl rfl, Or.inl rfl, Or.inr rfl, trivial⟩ ?_
                exact t
              · have t := t.2 c21
                refine g_iconst (v := 1) dX8_fits_162 (by decide) ?_
                refine g_goto (tgt := 167) dX8_fits_163 (by decide) ?_
                refine g_istore (ls' := [.ref 45, .int l1, .int l2, .int l3, .int l4, .int l5, .int (l6 + 0), .int 1, .int l8, .int 0]) dX8_fits_167 rfl (by decide) rfl ?_
                refine g_iinc (v := l8 + 1) (ls' := [.ref 45, .int l1, .int l2, .int l3, .int l4, .int l5, .int (l6 + 0), .int 1, .int (l8 + 1), .int 0]) dX8_fits_169 rfl rfl (by decide) rfl rfl ?_
                refine g_goto (tgt := 86) dX8_fits_172 (by decide) ?_
                refine g_drop (ls' := [.ref 45, .int l1, .int l2, .int l3, .int l4, .int l5, .int (l6 + 0), .int 1, .int (l8 + 1), .null]) ⟨Or.inl rfl, Or.inl rfl, Or.inl rfl, Or.inl rfl, Or.inl rfl, Or.inl rfl, Or.inl rfl, Or.inl rfl, Or.inl rfl, Or.inr rfl, trivial⟩ ?_
                exact t
        · have t := t.2 c18
          refine g_iconst (v := 1) dX8_fits_133 (by decide) ?_
          refine g_goto (tgt := 138) dX8_fits_134 (by decide) ?_
          refine g_iadd dX8_fits_138 ?_
          refine g_istore (ls' := [.ref 45, .int l1, .int l2, .int l3, .int l4, .int l5, .int (l6 + 1), .int l7, .int l8, .int 0]) dX8_fits_139 rfl (by decide) rfl ?_
          refine g_iload dX8_fits_141 rfl ?_
          refine g_if_ne (tgt := 162) dX8_fits_143 (by decide) (fun c22 => ?_) (fun c22 => ?_)
          · have t := t.1 c22
            refine g_iconst (v := 1) dX8_fits_162 (by decide) ?_
            refine g_goto (tgt := 167) dX8_fits_163 (by decide) ?_
            refine g_istore (ls' := [.ref 45, .int l1, .int l2, .int l3, .int l4, .int l5, .int (l6 + 1), .int 1, .int l8, .int 0]) dX8_fits_167 rfl (by decide) rfl ?_
            refine g_iinc (v := l8 + 1) (ls' := [.ref 45, .int l1, .int l2, .int l3, .int l4, .int l5, .int (l6 + 1), .int 1, .int (l8 + 1), .int 0]) dX8_fits_169 rfl rfl (by decide) rfl rfl ?_
            refine g_goto (tgt := 86) dX8_fits_172 (by decide) ?_
            refine g_drop (ls' := [.ref 45, .int l1, .int l2, .int l3, .int l4, .int l5, .int (l6 + 1), .int 1, .int (l8 + 1), .null]) ⟨Or.inl rfl, Or.inl rfl, Or.inl rfl, Or.inl rfl, Or.inl rfl, Or.inl rfl, Or.inl rfl, Or.inl rfl, Or.inl rfl, Or.inr rfl, trivial⟩ ?_
            exact t
          · have t := t.2 c22
            refine g_iload dX8_fits_146 rfl ?_
            refine g_if_eq (tgt := 166) dX8_fits_148 (by decide) (fun c23 => ?_) (fun c23 => ?_)
            · have t := t.1 c23
              refine g_iconst (v := 0) dX8_fits_166 (by decide) ?_
              refine g_istore (ls' := [.ref 45, .int l1, .int l2, .int l3, .int l4, .int l5, .int (l6 + 1), .int 0, .int l8, .int 0]) dX8_fits_167 rfl (by decide) rfl ?_
              refine g_iinc (v := l8 + 1) (ls' := [.ref 45, .int l1, .int l2, .int l3, .int l4, .int l5, .int (l6 + 1), .int 0, .int (l8 + 1), .int 0]) dX8_fits_169 rfl rfl (by decide) rfl rfl ?_
              refine g_goto (tgt := 86) dX8_fits_172 (by decide) ?_
              refine g_drop (ls' := [.ref 45, .int l1, .int l2, .int l3, .int l4, .int l5, .int (l6 + 1), .int 0, .int (l8 + 1), .null]) ⟨Or.inl rfl, Or.inl rfl, Or.inl rfl, Or.inl rfl, Or.inl rfl, Or.inl rfl, Or.inl rfl, Or.inl rfl, Or.inl rfl, Or.inr rfl, trivial⟩ ?_
              exact t
            · have t := t.2 c23
              refine g_aload_n dX8_fits_151 rfl ?_
              refine g_getR (n := 25) dX8_fits_152 fl_X8_16 rfl (by decide) (by decide) rfl rfl ?_
              refine g_iload dX8_fits_155 rfl ?_
              refine g_iald (n := 17) dX8_fits_157 rfl t.1 ?_
              have t := t.2
              refine g_iload_n dX8_fits_158 rfl ?_
              refine g_icmp_ne (tgt := 166) dX8_fits_159 (by decide) (fun c24 => ?_) (fun c24 => ?_)
              · have t := t.1 c24
                refine g_iconst (v := 0) dX8_fits_166 (by decide) ?_
                refine g_istore (ls' := [.ref 45, .int l1, .int l2, .int l3, .int l4, .int l5, .int (l6 + 1), .int 0, .int l8, .int 0]) dX8_fits_167 rfl (by decide) rfl ?_
                refine g_iinc (v := l8 + 1) (ls' := [.ref 45, .int l1, .int l2, .int l3, .int l4, .int l5, .int (l6 + 1), .int 0, .int (l8 + 1), .int 0]) dX8_fits_169 rfl rfl (by decide) rfl rfl ?_
                refine g_goto (tgt := 86) dX8_fits_172 (by decide) ?_
                refine g_drop (ls' := [.ref 45, .int l1, .int l2, .int l3, .int l4, .int l5, .int (l6 + 1), .int 0, .int (l8 + 1), .null]) ⟨Or.inl rfl, Or.inl rfl, Or.inl rfl, Or.inl rfl, Or.inl rfl, Or.inl rfl, Or.inl rfl, Or.inl rfl, Or.inl rfl, Or.inr rfl, trivial⟩ ?_
                exact t
              · have t := t.2 c24
                refine g_iconst (v := 1) dX8_fits_162 (by decide) ?_
                refine g_goto (tgt := 167) dX8_fits_163 (by decide) ?_
                refine g_istore (ls' := [.ref 45, .int l1, .int l2, .int l3, .int l4, .int l5, .int (l6 + 1), .int 1, .int l8, .int 0]) dX8_fits_167 rfl (by decide) rfl ?_
                refine g_iinc (v := l8 + 1) (ls' := [.ref 45, .int l1, .int l2, .int l3, .int l4, .int l5, .int (l6 + 1), .int 1, .int (l8 + 1), .int 0]) dX8_fits_169 rfl rfl (by decide) rfl rfl ?_
                refine g_goto (tgt := 86) dX8_fits_172 (by decide) ?_
                refine g_drop (ls' := [.ref 45, .int l1, .int l2, .int l3, .int l4, .int l5, .int (l6 + 1), .int 1, .int (l8 + 1), .null]) ⟨Or.inl rfl, Or.inl rfl, Or.inl rfl, Or.inl rfl, Or.inl rfl, Or.inl rfl, Or.inl rfl, Or.inl rfl, Or.inl rfl, Or.inr rfl, trivial⟩ ?_
                exact t
      · have t := t.2 c17
        refine g_iconst (v := 1) dX8_fits_119 (by decide) ?_
        refine g_goto (tgt := 124) dX8_fits_120 (by decide) ?_
        refine g_istore (ls' := [.ref 45, .int l1, .int l2, .int l3, .int l4, .int l5, .int l6, .int l7, .int l8, .int 1]) dX8_fits_124 rfl (by decide) rfl ?_
        refine g_iload dX8_fits_126 rfl ?_
        refine g_iload dX8_fits_128 rfl ?_
        refine g_if_eq (tgt := 137) dX8_fits_130 (by decide) (fun c25 => ?_) (fun c25 => ?_)
        · have t := t.1 c25
          refine g_iconst (v := 0) dX8_fits_137 (by decide) ?_
          refine g_iadd dX8_fits_138 ?_
          refine g_istore (ls' := [.ref 45, .int l1, .int l2, .int l3, .int l4, .int l5, .int (l6 + 0), .int l7, .int l8, .int 1]) dX8_fits_139 rfl (by decide) rfl ?_
          refine g_iload dX8_fits_141 rfl ?_
          refine g_if_ne (tgt := 162) dX8_fits_143 (by decide) (fun c26 => ?_) (fun c26 => ?_)
          · have t := t.1 c26
            refine g_iconst (v := 1) dX8_fits_162 (by decide) ?_
            refine g_goto (tgt := 167) dX8_fits_163 (by decide) ?_
            refine g_istore (ls' := [.ref 45, .int l1, .int l2, .int l3, .int l4, .int l5, .int (l6 + 0), .int 1, .int l8, .int 1]) dX8_fits_167 rfl (by decide) rfl ?_
            refine g_iinc (v := l8 + 1) (ls' := [.ref 45, .int l1, .int l2, .int l3, .int l4, .int l5, .int (l6 + 0), .int 1, .int (l8 + 1), .int 1]) dX8_fits_169 rfl rfl (by decide) rfl rfl ?_
            refine g_goto (tgt := 86) dX8_fits_172 (by decide) ?_
            refine g_drop (ls' := [.ref 45, .int l1, .int l2, .int l3, .int l4, .int l5, .int (l6 + 0), .int 1, .int (l8 + 1), .null]) ⟨Or.inl rfl, Or.inl rfl, Or.inl rfl, Or.inl rfl, Or.inl rfl, Or.inl rfl, Or.inl rfl, Or.inl rfl, Or.inl rfl, Or.inr rfl, trivial⟩ ?_
            exact t
          · have t := t.2 c26
            refine g_iload dX8_fits_146 rfl ?_
            refine g_if_eq (tgt := 166) dX8_fits_148 (by decide) (fun c27 => ?_) (fun c27 => ?_)
            · have t := t.1 c27
              refine g_iconst (v := 0) dX8_fits_166 (by decide) ?_
              refine g_istore (ls' := [.ref 45, .int l1, .int l2, .int l3, .int l4, .int l5, .int (l6 + 0), .int 0, .int l8, .int 1]) dX8_fits_167 rfl (by decide) rfl ?_
              refine g_iinc (v := l8 + 1) (ls' := [.ref 45, .int l1, .int l2, .int l3, .int l4, .int l5, .int (l6 + 0), .int 0, .int (l8 + 1), .int 1]) dX8_fits_169 rfl rfl (by decide) rfl rfl ?_
              refine g_goto (tgt := 86) dX8_fits_172 (by decide) ?_
              refine g_drop (ls' := [.ref 45, .int l1, .int l2, .int l3, .int l4, .int l5, .int (l6 + 0), .int 0, .int (l8 + 1), .null]) ⟨Or.inl rfl, Or.inl rfl, Or.inl rfl, Or.inl rfl, Or.inl rfl, Or.inl rfl, Or.inl rfl, Or.inl rfl, Or.inl rfl, Or.inr rfl, trivial⟩ ?_
              exact t
            · have t := t.2 c27
              refine g_aload_n dX8_fits_151 rfl ?_
              refine g_getR (n := 25) dX8_fits_152 fl_X8_16 rfl (by decide) (by decide) rfl rfl ?_
              refine g_iload dX8_fits_155 rfl ?_
              refine g_iald (n := 17) dX8_fits_157 rfl t.1 ?_
              have t := t.2
              refine g_iload_n dX8_fits_158 rfl ?_
              refine g_icmp_ne (tgt := 166) dX8_fits_159 (by decide) (fun c28 => ?_) (fun c28 => ?_)
              · have t := t.1 c28
                refine g_iconst (v := 0) dX8_fits_166 (by decide) ?_
                refine g_istore (ls' := [.ref 45, .int l1, .int l2, .int l3, .int l4, .int l5, .int (l6 + 0), .int 0, .int l8, .int 1]) dX8_fits_167 rfl (by decide) rfl ?_
                refine g_iinc (v := l8 + 1) (ls' := [.ref 45, .int l1, .int l2, .int l3, .int l4, .int l5, .int (l6 + 0), .int 0, .int (l8 + 1), .int 1]) dX8_fits_169 rfl rfl (by decide) rfl rfl ?_
                refine g_goto (tgt := 86) dX8_fits_172 (by decide) ?_
                refine g_drop (ls' := [.ref 45, .int l1, .int l2, .int l3, .int l4, .int l5, .int (l6 + 0), .int 0, .int (l8 + 1), .null]) ⟨Or.inl rfl, Or.inl rfl, Or.inl rfl, Or.inl rfl, Or.inl rfl, Or.inl rfl, Or.inl rfl, Or.inl rfl, Or.inl rfl, Or.inr rfl, trivial⟩ ?_
                exact t
              · have t := t.2 c28
                refine g_iconst (v := 1) dX8_fits_162 (by decide) ?_
                refine g_goto (tgt := 167) dX8_fits_163 (by decide) ?_
                refine g_istore (ls' := [.ref 45, .int l1, .int l2, .int l3, .int l4, .int l5, .int (l6 + 0), .int 1, .int l8, .int 1]) dX8_fits_167 rfl (by decide) rfl ?_
                refine g_iinc (v := l8 + 1) (ls' := [.ref 45, .int l1, .int l2, .int l3, .int l4, .int l5, .int (l6 + 0), .int 1, .int (l8 + 1), .int 1]) dX8_fits_169 rfl rfl (by decide) rfl rfl ?_
                refine g_goto (tgt := 86) dX8_fits_172 (by decide) ?_
                refine g_drop (ls' := [.ref 45, .int l1, .int l2, .int l3, .int l4, .int l5, .int (l6 + 0), .int 1, .int (l8 + 1), .null]) ⟨Or.inl rfl, Or.inl rfl, Or.inl rfl, Or.inl rfl, Or.inl rfl, Or.inl rfl, Or.inl rfl, Or.inl rfl, Or.inl rfl, Or.inr rfl, trivial⟩ ?_
                exact t
        · have t := t.2 c25
          refine g_iconst (v := 1) dX8_fits_133 (by decide) ?_
          refine g_goto (tgt := 138) dX8_fits_134 (by decide) ?_
          refine g_iadd dX8_fits_138 ?_
          refine g_istore (ls' := [.ref 45, .int l1, .int l2, .int l3, .int l4, .int l5, .int (l6 + 1), .int l7, .int l8, .int 1]) dX8_fits_139 rfl (by decide) rfl ?_
          refine g_iload dX8_fits_141 rfl ?_
          refine g_if_ne (tgt := 162) dX8_fits_143 (by decide) (fun c29 => ?_) (fun c29 => ?_)
          · have t := t.1 c29
            refine g_iconst (v := 1) dX8_fits_162 (by decide) ?_
            refine g_goto (tgt := 167) dX8_fits_163 (by decide) ?_
            refine g_istore (ls' := [.ref 45, .int l1, .int l2, .int l3, .int l4, .int l5, .int (l6 + 1), .int 1, .int l8, .int 1]) dX8_fits_167 rfl (by decide) rfl ?_
            refine g_iinc (v := l8 + 1) (ls' := [.ref 45, .int l1, .int l2, .int l3, .int l4, .int l5, .int (l6 + 1), .int 1, .int (l8 + 1), .int 1]) dX8_fits_169 rfl rfl (by decide) rfl rfl ?_
            refine g_goto (tgt := 86) dX8_fits_172 (by decide) ?_
            refine g_drop (ls' := [.ref 45, .int l1, .int l2, .int l3, .int l4, .int l5, .int (l6 + 1), .int 1, .int (l8 + 1), .null]) ⟨Or.inl rfl, Or.inl rfl, Or.inl rfl, Or.inl rfl, Or.inl rfl, Or.inl rfl, Or.inl rfl, Or.inl rfl, Or.inl rfl, Or.inr rfl, trivial⟩ ?_
            exact t
          · have t := t.2 c29
            refine g_iload dX8_fits_146 rfl ?_
            refine g_if_eq (tgt := 166) dX8_fits_148 (by decide) (fun c30 => ?_) (fun c30 => ?_)
            · have t := t.1 c30
              refine g_iconst (v := 0) dX8_fits_166 (by decide) ?_
              refine g_istore (ls' := [.ref 45, .int l1, .int l2, .int l3, .int l4, .int l5, .int (l6 + 1), .int 0, .int l8, .int 1]) dX8_fits_167 rfl (by decide) rfl ?_
              refine g_iinc (v := l8 + 1) (ls' := [.ref 45, .int l1, .int l2, .int l3, .int l4, .int l5, .int (l6 + 1), .int 0, .int (l8 + 1), .int 1]) dX8_fits_169 rfl rfl (by decide) rfl rfl ?_
              refine g_goto (tgt := 86) dX8_fits_172 (by decide) ?_
              refine g_drop (ls' := [.ref 45, .int l1, .int l2, .int l3, .int l4, .int l5, .int (l6 + 1), .int 0, .int (l8 + 1), .null]) ⟨Or.inl rfl, Or.inl rfl, Or.inl rfl, Or.inl rfl, Or.inl rfl, Or.inl rfl, Or.inl rfl, Or.inl rfl, Or.inl rfl, Or.inr rfl, trivial⟩ ?_
              exact t
            · have t := t.2 c30
              refine g_aload_n dX8_fits_151 rfl ?_
              refine g_getR (n := 25) dX8_fits_152 fl_X8_16 rfl (by decide) (by decide) rfl rfl ?_
              refine g_iload dX8_fits_155 rfl ?_
              refine g_iald (n := 17) dX8_fits_157 rfl t.1 ?_
              have t := t.2
              refine g_iload_n dX8_fits_158 rfl ?_
              refine g_icmp_ne (tgt := 166) dX8_fits_159 (by decide) (fun c31 => ?_) (fun c31 => ?_)
              · have t := t.1 c31
                refine g_iconst (v := 0) dX8_fits_166 (by decide) ?_
                refine g_istore (ls' := [.ref 45, .int l1, .int l2, .int l3, .int l4, .int l5, .int (l6 + 1), .int 0, .int l8, .int 1]) dX8_fits_167 rfl (by decide) rfl ?_
                refine g_iinc (v := l8 + 1) (ls' := [.ref 45, .int l1, .int l2, .int l3, .int l4, .int l5, .int (l6 + 1), .int 0, .int (l8 + 1), .int 1]) dX8_fits_169 rfl rfl (by decide) rfl rfl ?_
                refine g_goto (tgt := 86) dX8_fits_172 (by decide) ?_
                refine g_drop (ls' := [.ref 45, .int l1, .int l2, .int l3, .int l4, .int l5, .int (l6 + 1), .int 0, .int (l8 + 1), .null]) ⟨Or.inl rfl, Or.inl rfl, Or.inl rfl, Or.inl rfl, Or.inl rfl, Or.inl rfl, Or.inl rfl, Or.inl rfl, Or.inl rfl, Or.inr rfl, trivial⟩ ?_
                exact t
              · have t := t.2 c31
                refine g_iconst (v := 1) dX8_fits_162 (by decide) ?_
                refine g_goto (tgt := 167) dX8_fits_163 (by decide) ?_
                refine g_istore (ls' := [.ref 45, .int l1, .int l2, .int l3, .int l4, .int l5, .int (l6 + 1), .int 1, .int l8, .int 1]) dX8_fits_167 rfl (by decide) rfl ?_
                refine g_iinc (v := l8 + 1) (ls' := [.ref 45, .int l1, .int l2, .int l3, .int l4, .int l5, .int (l6 + 1), .int 1, .int (l8 + 1), .int 1]) dX8_fits_169 rfl rfl (by decide) rfl rfl ?_
                refine g_goto (tgt := 86) dX8_fits_172 (by decide) ?_
                refine g_drop (ls' := [.ref 45, .int l1, .int l2, .int l3, .int l4, .int l5, .int (l6 + 1), .int 1, .int (l8 + 1), .null]) ⟨Or.inl rfl, Or.inl rfl, Or.inl rfl, Or.inl rfl, Or.inl rfl, Or.inl rfl, Or.inl rfl, Or.inl rfl, Or.inl rfl, Or.inr rfl, trivial⟩ ?_
                exact t
theorem w_X8_been {Q : Int32 → tS → Prop} {S : tS} (p1 : Int32) (p2 : Int32) (p3 : Int32) (t : (tk_Ms mX8_in [.long ((p1 : Int32).toInt64), .long (0 : Int64), .long (3 : Int64)] S (fun x1 S2 => ((x1 = 0 → (tk_okQ mX8_been Q) (-1) S2) ∧ (¬ x1 = 0 → (tk_Ms mX8_in [.long ((p2 : Int32).toInt64), .long (0 : Int64), .long (30 : Int64)] S2 (fun x4 S5 => ((x4 = 0 → (tk_okQ mX8_been Q) (-1) S5) ∧ (¬ x4 = 0 → (tk_Ms mX8_in [.long ((p3 : Int32).toInt64), .long (0 : Int64), .long (99 : Int64)] S5 (fun x7 S8 => ((¬ x7 = 0 → ((¬ p2 = 0 → tk_Gs mX8_been none 52 [.ref 45, .int p1, .int p2, .int p3, .int 0, .int 1, .null] [] S8 (tk_okQ mX8_been Q)) ∧ (p2 = 0 → tk_Gs mX8_been none 52 [.ref 45, .int p1, .int p2, .int p3, .int 1, .int 1, .null] [] S8 (tk_okQ mX8_been Q)))) ∧ (x7 = 0 → (tk_okQ mX8_been Q) (-1) S8))))))))))))) : tk_Ms mX8_been [.ref 45, .int p1, .int p2, .int p3] S Q := by
  refine tk_Ms.of (ls := [.ref 45, .int p1, .int p2, .int p3, .null, .null, .null]) (by decide) (by first | exact Or.inl rfl | exact Or.inr (Or.inl rfl) | exact Or.inr (Or.inr rfl)) (Nat.le_of_ble_eq_true rfl) rfl ?_
  refine g_iload_n dX8_been_0 rfl ?_
  refine g_i2l dX8_been_1 ?_
  refine g_lconst (v := 0) dX8_been_2 (by decide) ?_
  refine g_ldc2 (v := 3) dX8_been_3 kl_X8_87 ?_
  refine s_S3i dX8_been_6 sm_X8_in ml_X8_66 rfl (by decide) (Nat.le_of_ble_eq_true rfl) rfl (tk_Ms.mono t (fun x1 S2 t => ?_))
  refine g_if_eq (tgt := 36) dX8_been_9 (by decide) (fun c3 => ?_) (fun c3 => ?_)
  · have t := t.1 c3
    refine g_iconst (v := (-1)) dX8_been_36 (by decide) ?_
    exact g_iret (st := []) dX8_been_37 (fun e => by cases e) ⟨_, rfl, t⟩
  · have t := t.2 c3
    refine g_iload_n dX8_been_12 rfl ?_
    refine g_i2l dX8_been_13 ?_
    refine g_lconst (v := 0) dX8_been_14 (by decide) ?_
    refine g_ldc2 (v := 30) dX8_been_15 kl_X8_191 ?_
    refine s_S3i dX8_been_18 sm_X8_in ml_X8_66 rfl (by decide) (Nat.le_of_ble_eq_true rfl) rfl (tk_Ms.mono t (fun x4 S5 t => ?_))
    refine g_if_eq (tgt := 36) dX8_been_21 (by decide) (fun c6 => ?_) (fun c6 => ?_)
    · have t := t.1 c6
      refine g_iconst (v := (-1)) dX8_been_36 (by decide) ?_
      exact g_iret (st := []) dX8_been_37 (fun e => by cases e) ⟨_, rfl, t⟩
    · have t := t.2 c6
      refine g_iload_n dX8_been_24 rfl ?_
      refine g_i2l dX8_been_25 ?_
      refine g_lconst (v := 0) dX8_been_26 (by decide) ?_
      refine g_ldc2 (v := 99) dX8_been_27 kl_X8_216 ?_
      refine s_S3i dX8_been_30 sm_X8_in ml_X8_66 rfl (by decide) (Nat.le_of_ble_eq_true rfl) rfl (tk_Ms.mono t (fun x7 S8 t => ?_))
      refine g_if_ne (tgt := 38) dX8_been_33 (by decide) (fun c9 => ?_) (fun c9 => ?_)
      · have t := t.1 c9
        refine g_iload_n dX8_been_38 rfl ?_
        refine g_if_ne (tgt := 46) dX8_been_39 (by decide) (fun c10 => ?_) (fun c10 => ?_)
        · have t := t.1 c10
          refine g_iconst (v := 0) dX8_been_46 (by decide) ?_
          refine g_istore (ls' := [.ref 45, .int p1, .int p2, .int p3, .int 0, .null, .null]) dX8_been_47 rfl (by decide) rfl ?_
          refine g_iconst (v := 1) dX8_been_49 (by decide) ?_
          refine g_istore (ls' := [.ref 45, .int p1, .int p2, .int p3, .int 0, .int 1, .null]) dX8_been_50 rfl (by decide) rfl ?_
          exact t
        · have t := t.2 c10
          refine g_iconst (v := 1) dX8_been_42 (by decide) ?_
          refine g_goto (tgt := 47) dX8_been_43 (by decide) ?_
          refine g_istore (ls' := [.ref 45, .int p1, .int p2, .int p3, .int 1, .null, .null]) dX8_been_47 rfl (by decide) rfl ?_
          refine g_iconst (v := 1) dX8_been_49 (by decide) ?_
          refine g_istore (ls' := [.ref 45, .int p1, .int p2, .int p3, .int 1, .int 1, .null]) dX8_been_50 rfl (by decide) rfl ?_
          exact t
      · have t := t.2 c9
        refine g_iconst (v := (-1)) dX8_been_36 (by decide) ?_
        exact g_iret (st := []) dX8_been_37 (fun e => by cases e) ⟨_, rfl, t⟩
theorem w_X8_been_52 {Q : Int32 → tS → Prop} {S : tS} (l1 : Int32) (l2 : Int32) (l3 : Int32) (l4 : Int32) (l5 : Int32)  (t : ((30 < l5 → Q l4 S) ∧ (¬ 30 < l5 → tk_Gs mX8_been none 62 [.ref 45, .int l1, .int l2, .int l3, .int l4, .int l5, .int 0] [] S Q))) : tk_Gs mX8_been none 52 [.ref 45, .int l1, .int l2, .int l3, .int l4, .int l5, .null] [] S Q := by
  show tk_G _ 0 0 _ _ _ _ (tkSH, S, tkRF) _
  refine g_iload dX8_been_52 rfl ?_
  refine g_bipush (v := 30) dX8_been_54 (by decide) ?_
  refine g_icmp_gt (tgt := 104) dX8_been_56 (by decide) (fun c1 => ?_) (fun c1 => ?_)
  · have t := t.1 c1
    refine g_iload dX8_been_104 rfl ?_
    exact g_iret (st := []) dX8_been_106 (fun e => by cases e) ⟨_, rfl, t⟩
  · have t := t.2 c1
    refine g_iconst (v := 0) dX8_been_59 (by decide) ?_
    refine g_istore (ls' := [.ref 45, .int l1, .int l2, .int l3, .int l4, .int l5, .int 0]) dX8_been_60 rfl (by decide) rfl ?_
    exact t
theorem w_X8_been_62 {Q : Int32 → tS → Prop} {S : tS} (l1 : Int32) (l2 : Int32) (l3 : Int32) (l4 : Int32) (l5 : Int32) (l6 : Int32)  (t : ((l3 < l6 → tk_Gs mX8_been none 52 [.ref 45, .int l1, .int l2, .int l3, .int l4, .int (l5 + 1), .null] [] S Q) ∧ (¬ l3 < l6 → (tk_Ms mX8_shownOf [.int l1, .int l5, .int (l3 - l6)] S (fun x2 S3 => ((¬ x2 = l2 → tk_Gs mX8_been none 62 [.ref 45, .int l1, .int l2, .int l3, .int (l4 + 0), .int l5, .int (l6 + 1)] [] S3 Q) ∧ (x2 = l2 → tk_Gs mX8_been none 62 [.ref 45, .int l1, .int l2, .int l3, .int (l4 + 1), .int l5, .int (l6 + 1)] [] S3 Q))))))) : tk_Gs mX8_been none 62 [.ref 45, .int l1, .int l2, .int l3, .int l4, .int l5, .int l6] [] S Q := by
  show tk_G _ 0 0 _ _ _ _ (tkSH, S, tkRF) _
  refine g_iload dX8_been_62 rfl ?_
  refine g_iload_n dX8_been_64 rfl ?_
  refine g_icmp_gt (tgt := 98) dX8_been_65 (by decide) (fun c1 => ?_) (fun c1 => ?_)
  · have t := t.1 c1
    refine g_iinc (v := l5 + 1) (ls' := [.ref 45, .int l1, .int l2, .int l3, .int l4, .int (l5 + 1), .int l6]) dX8_been_98 rfl rfl (by decide) rfl rfl ?_
    refine g_goto (tgt := 52) dX8_been_101 (by decide) ?_
    refine g_drop (ls' := [.ref 45, .int l1, .int l2, .int l3, .int l4, .int (l5 + 1), .null]) ⟨Or.inl rfl, Or.inl rfl, Or.inl rfl, Or.inl rfl, Or.inl rfl, Or.inl rfl, Or.inr rfl, trivial⟩ ?_
    exact t
  · have t := t.2 c1
    refine g_iload dX8_been_68 rfl ?_
    refine g_iload_n dX8_been_70 rfl ?_
    refine g_iload dX8_been_71 rfl ?_
    refine g_iload_n dX8_been_73 rfl ?_
    refine g_iload dX8_been_74 rfl ?_
    refine g_isub dX8_been_76 ?_
    refine s_S3i dX8_been_77 sm_X8_shownOf ml_X8_94 rfl (by decide) (Nat.le_of_ble_eq_true rfl) rfl (tk_Ms.mono t (fun x2 S3 t => ?_))
    refine g_iload_n dX8_been_80 rfl ?_
    refine g_icmp_ne (tgt := 88) dX8_been_81 (by decide) (fun c4 => ?_) (fun c4 => ?_)
    · have t := t.1 c4
      refine g_iconst (v := 0) dX8_been_88 (by decide) ?_
      refine g_iadd dX8_been_89 ?_
      refine g_istore (ls' := [.ref 45, .int l1, .int l2, .int l3, .int (l4 + 0), .int l5, .int l6]) dX8_been_90 rfl (by decide) rfl ?_
      refine g_iinc (v := l6 + 1) (ls' := [.ref 45, .int l1, .int l2, .int l3, .int (l4 + 0), .int l5, .int (l6 + 1)]) dX8_been_92 rfl rfl (by decide) rfl rfl ?_
      refine g_goto (tgt := 62) dX8_been_95 (by decide) ?_
      exact t
    · have t := t.2 c4
      refine g_iconst (v := 1) dX8_been_84 (by decide) ?_
      refine g_goto (tgt := 89) dX8_been_85 (by decide) ?_
      refine g_iadd dX8_been_89 ?_
      refine g_istore (ls' := [.ref 45, .int l1, .int l2, .int l3, .int (l4 + 1), .int l5, .int l6]) dX8_been_90 rfl (by decide) rfl ?_
      refine g_iinc (v := l6 + 1) (ls' := [.ref 45, .int l1, .int l2, .int l3, .int (l4 + 1), .int l5, .int (l6 + 1)]) dX8_been_92 rfl rfl (by decide) rfl rfl ?_
      refine g_goto (tgt := 62) dX8_been_95 (by decide) ?_
      exact t
theorem w_X8_gains {Q : Int32 → tS → Prop} {S : tS} (p1 : Int32) (p2 : Int32) (p3 : Int32) (p4 : Int32) (t : ((p4 ≤ p3 → (tk_okQ mX8_gains Q) (10 - p3) S) ∧ (¬ p4 ≤ p3 → (tk_Ms mX8_shownOf [.int p1, .int p2, .int (p4 - p3)] S (fun x2 S3 => ((x2 ≤ 0 → (tk_okQ mX8_gains Q) (10 - p3) S3) ∧ (¬ x2 ≤ 0 → (tk_okQ mX8_gains Q) 0 S3))))))) : tk_Ms mX8_gains [.int p1, .int p2, .int p3, .int p4] S Q := by
  refine tk_Ms.of (ls := [.int p1, .int p2, .int p3, .int p4]) (by decide) (by first | exact Or.inl rfl | exact Or.inr (Or.inl rfl) | exact Or.inr (Or.inr rfl)) (Nat.le_of_ble_eq_true rfl) rfl ?_
  refine g_iload_n dX8_gains_0 rfl ?_
  refine g_iload_n dX8_gains_1 rfl ?_
  refine g_icmp_le (tgt := 20) dX8_gains_2 (by decide) (fun c1 => ?_) (fun c1 => ?_)
  · have t := t.1 c1
    refine g_bipush (v := 10) dX8_gains_20 (by decide) ?_
    refine g_iload_n dX8_gains_22 rfl ?_
    refine g_isub dX8_gains_23 ?_
    exact g_iret (st := []) dX8_gains_24 (fun e => by cases e) ⟨_, rfl, t⟩
  · have t := t.2 c1
    refine g_iload_n dX8_gains_5 rfl ?_
    refine g_iload_n dX8_gains_6 rfl ?_
    refine g_iload_n dX8_gains_7 rfl ?_
    refine g_iload_n dX8_gains_8 rfl ?_
    refine g_isub dX8_gains_9 ?_
    refine s_S3i dX8_gains_10 sm_X8_shownOf ml_X8_94 rfl (by decide) (Nat.le_of_ble_eq_true rfl) rfl (tk_Ms.mono t (fun x2 S3 t => ?_))
    refine g_if_le (tgt := 20) dX8_gains_13 (by decide) (fun c4 => ?_) (fun c4 => ?_)
    · have t := t.1 c4
      refine g_bipush (v := 10) dX8_gains_20 (by decide) ?_
      refine g_iload_n dX8_gains_22 rfl ?_
      refine g_isub dX8_gains_23 ?_
      exact g_iret (st := []) dX8_gains_24 (fun e => by cases e) ⟨_, rfl, t⟩
    · have t := t.2 c4
      refine g_iconst (v := 0) dX8_gains_16 (by decide) ?_
      refine g_goto (tgt := 24) dX8_gains_17 (by decide) ?_
      exact g_iret (st := []) dX8_gains_24 (fun e => by cases e) ⟨_, rfl, t⟩
theorem w_X8_look {Q : Int32 → tS → Prop} {S : tS} (p1 : Int32) (p2 : Int32) (p3 : Int32) (t : (tk_Ms mX8_in [.long ((p1 : Int32).toInt64), .long (0 : Int64), .long (3 : Int64)] S (fun x1 S2 => ((x1 = 0 → (tk_okQ mX8_look Q) (-1) S2) ∧ (¬ x1 = 0 → (tk_Ms mX8_in [.long ((p2 : Int32).toInt64), .long (0 : Int64), .long (30 : Int64)] S2 (fun x4 S5 => ((x4 = 0 → (tk_okQ mX8_look Q) (-1) S5) ∧ (¬ x4 = 0 → (tk_Ms mX8_in [.long ((p3 : Int32).toInt64), .long (0 : Int64), .long (1 : Int64)] S5 (fun x7 S8 => ((¬ x7 = 0 → tk_Gs mX8_look none 46 [.ref 45, .int p1, .int p2, .int p3, .int 0, .int (-4), .int 0, .null, .null, .null, .null] [] S8 (tk_okQ mX8_look Q)) ∧ (x7 = 0 → (tk_okQ mX8_look Q) (-1) S8))))))))))))) : tk_Ms mX8_look [.ref 45, .int p1, .int p2, .int p3] S Q := by
  refine tk_Ms.of (ls := [.ref 45, .int p1, .int p2, .int p3, .null, .null, .null, .null, .null, .null, .null]) (by decide) (by first | exact Or.inl rfl | exact Or.inr (Or.inl rfl) | exact Or.inr (Or.inr rfl)) (Nat.le_of_ble_eq_true rfl) rfl ?_
  refine g_iload_n dX8_look_0 rfl ?_
  refine g_i2l dX8_look_1 ?_
  refine g_lconst (v := 0) dX8_look_2 (by decide) ?_
  refine g_ldc2 (v := 3) dX8_look_3 kl_X8_87 ?_
  refine s_S3i dX8_look_6 sm_X8_in ml_X8_66 rfl (by decide) (Nat.le_of_ble_eq_true rfl) rfl (tk_Ms.mono t (fun x1 S2 t => ?_))
  refine g_if_eq (tgt := 34) dX8_look_9 (by decide) (fun c3 => ?_) (fun c3 => ?_)
  · have t := t.1 c3
    refine g_iconst (v := (-1)) dX8_look_34 (by decide) ?_
    exact g_iret (st := []) dX8_look_35 (fun e => by cases e) ⟨_, rfl, t⟩
  · have t := t.2 c3
    refine g_iload_n dX8_look_12 rfl ?_
    refine g_i2l dX8_look_13 ?_
    refine g_lconst (v := 0) dX8_look_14 (by decide) ?_
    refine g_ldc2 (v := 30) dX8_look_15 kl_X8_191 ?_
    refine s_S3i dX8_look_18 sm_X8_in ml_X8_66 rfl (by decide) (Nat.le_of_ble_eq_true rfl) rfl (tk_Ms.mono t (fun x4 S5 t => ?_))
    refine g_if_eq (tgt := 34) dX8_look_21 (by decide) (fun c6 => ?_) (fun c6 => ?_)
    · have t := t.1 c6
      refine g_iconst (v := (-1)) dX8_look_34 (by decide) ?_
      exact g_iret (st := []) dX8_look_35 (fun e => by cases e) ⟨_, rfl, t⟩
    · have t := t.2 c6
      refine g_iload_n dX8_look_24 rfl ?_
      refine g_i2l dX8_look_25 ?_
      refine g_lconst (v := 0) dX8_look_26 (by decide) ?_
      refine g_lconst (v := 1) dX8_look_27 (by decide) ?_
      refine s_S3i dX8_look_28 sm_X8_in ml_X8_66 rfl (by decide) (Nat.le_of_ble_eq_true rfl) rfl (tk_Ms.mono t (fun x7 S8 t => ?_))
      refine g_if_ne (tgt := 36) dX8_look_31 (by decide) (fun c9 => ?_) (fun c9 => ?_)
      · have t := t.1 c9
        refine g_iconst (v := 0) dX8_look_36 (by decide) ?_
        refine g_istore (ls' := [.ref 45, .int p1, .int p2, .int p3, .int 0, .null, .null, .null, .null, .null, .null]) dX8_look_37 rfl (by decide) rfl ?_
        refine g_bipush (v := (-4)) dX8_look_39 (by decide) ?_
        refine g_istore (ls' := [.ref 45, .int p1, .int p2, .int p3, .int 0, .int (-4), .null, .null, .null, .null, .null]) dX8_look_41 rfl (by decide) rfl ?_
        refine g_iconst (v := 0) dX8_look_43 (by decide) ?_
        refine g_istore (ls' := [.ref 45, .int p1, .int p2, .int p3, .int 0, .int (-4), .int 0, .null, .null, .null, .null]) dX8_look_44 rfl (by decide) rfl ?_
        exact t
      · have t := t.2 c9
        refine g_iconst (v := (-1)) dX8_look_34 (by decide) ?_
        exact g_iret (st := []) dX8_look_35 (fun e => by cases e) ⟨_, rfl, t⟩
theorem w_X8_look_46 {Q : Int32 → tS → Prop} {S : tS} (l1 : Int32) (l2 : Int32) (l3 : Int32) (l4 : Int32) (l5 : Int32) (l6 : Int32)  (t : ((7 ≤ l6 → ((¬ l3 = 0 → Q l5 S) ∧ (l3 = 0 → Q l4 S))) ∧ (¬ 7 ≤ l6 → tk_Gs mX8_look none 56 [.ref 45, .int l1, .int l2, .int l3, .int l4, .int l5, .int l6, .int 0, .null, .null, .null] [] S Q))) : tk_Gs mX8_look none 46 [.ref 45, .int l1, .int l2, .int l3, .int l4, .int l5, .int l6, .null, .null, .null, .null] [] S Q := by
  show tk_G _ 0 0 _ _ _ _ (tkSH, S, tkRF) _
  refine g_iload dX8_look_46 rfl ?_
  refine g_bipush (v := 7) dX8_look_48 (by decide) ?_
  refine g_icmp_ge (tgt := 185) dX8_look_50 (by decide) (fun c1 => ?_) (fun c1 => ?_)
  · have t := t.1 c1
    refine g_iload_n dX8_look_185 rfl ?_
    refine g_if_ne (tgt := 194) dX8_look_186 (by decide) (fun c2 => ?_) (fun c2 => ?_)
    · have t := t.1 c2
      refine g_iload dX8_look_194 rfl ?_
      exact g_iret (st := []) dX8_look_196 (fun e => by cases e) ⟨_, rfl, t⟩
    · have t := t.2 c2
      refine g_iload dX8_look_189 rfl ?_
      refine g_goto (tgt := 196) dX8_look_191 (by decide) ?_
      exact g_iret (st := []) dX8_look_196 (fun e => by cases e) ⟨_, rfl, t⟩
  · have t := t.2 c1
    refine g_iconst (v := 0) dX8_look_53 (by decide) ?_
    refine g_istore (ls' := [.ref 45, .int l1, .int l2, .int l3, .int l4, .int l5, .int l6, .int 0, .null, .null, .null]) dX8_look_54 rfl (by decide) rfl ?_
    exact t
theorem w_X8_look_56 {Q : Int32 → tS → Prop} {S : tS} (l1 : Int32) (l2 : Int32) (l3 : Int32) (l4 : Int32) (l5 : Int32) (l6 : Int32) (l7 : Int32)  (t : ((7 ≤ l7 → tk_Gs mX8_look none 46 [.ref 45, .int l1, .int l2, .int l3, .int l4, .int l5, .int (l6 + 1), .null, .null, .null, .null] [] S Q) ∧ (¬ 7 ≤ l7 → (tk_Ms mX8_gains [.int l1, .int l2, .int l6, .int l7] S (fun x2 S3 => tk_Gs mX8_look none 80 [.ref 45, .int l1, .int l2, .int l3, .int l4, .int l5, .int l6, .int l7, .int x2, .int 1, .int 0] [] S3 Q))))) : tk_Gs mX8_look none 56 [.ref 45, .int l1, .int l2, .int l3, .int l4, .int l5, .int l6, .int l7, .null, .null, .null] [] S Q := by
  show tk_G _ 0 0 _ _ _ _ (tkSH, S, tkRF) _
  refine g_iload dX8_look_56 rfl ?_
  refine g_bipush (v := 7) dX8_look_58 (by decide) ?_
  refine g_icmp_ge (tgt := 179) dX8_look_60 (by decide) (fun c1 => ?_) (fun c1 => ?_)
  · have t := t.1 c1
    refine g_iinc (v := l6 + 1) (ls' := [.ref 45, .int l1, .int l2, .int l3, .int l4, .int l5, .int (l6 + 1), .int l7, .null, .null, .null]) dX8_look_179 rfl rfl (by decide) rfl rfl ?_
    refine g_goto (tgt := 46) dX8_look_182 (by decide) ?_
    refine g_drop (ls' := [.ref 45, .int l1, .int l2, .int l3, .int l4, .int l5, .int (l6 + 1), .null, .null, .null, .null]) ⟨Or.inl rfl, Or.inl rfl, Or.inl rfl, Or.inl rfl, Or.inl rfl, Or.inl rfl, Or.inl rfl, Or.inr rfl, Or.inl rfl, Or.inl rfl, Or.inl rfl, trivial⟩ ?_
    exact t
  · have t := t.2 c1
    refine g_iload_n dX8_look_63 rfl ?_
    refine g_iload_n dX8_look_64 rfl ?_
    refine g_iload dX8_look_65 rfl ?_
    refine g_iload dX8_look_67 rfl ?_
    refine s_S4i dX8_look_69 sm_X8_gains ml_X8_218 rfl (by decide) (Nat.le_of_ble_eq_true rfl) rfl (tk_Ms.mono t (fun x2 S3 t => ?_))
    refine g_istore (ls' := [.ref 45, .int l1, .int l2, .int l3, .int l4, .int l5, .int l6, .int l7, .int x2, .null, .null]) dX8_look_72 rfl (by decide) rfl ?_
    refine g_iconst (v := 1) dX8_look_74 (by decide) ?_
    refine g_istore (ls' := [.ref 45, .int l1, .int l2, .int l3, .int l4, .int l5, .int l6, .int l7, .int x2, .int 1, .null]) dX8_look_75 rfl (by decide) rfl ?_
    refine g_iconst (v := 0) dX8_look_77 (by decide) ?_
    refine g_istore (ls' := [.ref 45, .int l1, .int l2, .int l3, .int l4, .int l5, .int l6, .int l7, .int x2, .int 1, .int 0]) dX8_look_78 rfl (by decide) rfl ?_
    exact t
theorem w_X8_look_80 {Q : Int32 → tS → Prop} {S : tS} (l1 : Int32) (l2 : Int32) (l3 : Int32) (l4 : Int32) (l5 : Int32) (l6 : Int32) (l7 : Int32) (l8 : Int32) (l9 : Int32) (l10 : Int32)  (t : ((7 ≤ l10 → ((l9 = 0 → ((l9 = 0 → tk_Gs mX8_look none 56 [.ref 45, .int l1, .int l2, .int l3, .int (l4 + 0), .int l5, .int l6, .int (l7 + 1), .null, .null, .null] [] S Q) ∧ (¬ l9 = 0 → tk_Gs mX8_look none 56 [.ref 45, .int l1, .int l2, .int l3, .int (l4 + 1), .int l5, .int l6, .int (l7 + 1), .null, .null, .null] [] S Q))) ∧ (¬ l9 = 0 → ((¬ l4 = 0 → ((l9 = 0 → tk_Gs mX8_look none 56 [.ref 45, .int l1, .int l2, .int l3, .int (l4 + 0), .int l5, .int l6, .int (l7 + 1), .null, .null, .null] [] S Q) ∧ (¬ l9 = 0 → tk_Gs mX8_look none 56 [.ref 45, .int l1, .int l2, .int l3, .int (l4 + 1), .int l5, .int l6, .int (l7 + 1), .null, .null, .null] [] S Q))) ∧ (l4 = 0 → ((l9 = 0 → tk_Gs mX8_look none 56 [.ref 45, .int l1, .int l2, .int l3, .int (l4 + 0), .int ((10 * l6) + l7), .int l6, .int (l7 + 1), .null, .null, .null] [] S Q) ∧ (¬ l9 = 0 → tk_Gs mX8_look none 56 [.ref 45, .int l1, .int l2, .int l3, .int (l4 + 1), .int ((10 * l6) + l7), .int l6, .int (l7 + 1), .null, .null, .null] [] S Q))))))) ∧ (¬ 7 ≤ l10 → ((l9 = 0 → tk_Gs mX8_look none 80 [.ref 45, .int l1, .int l2, .int l3, .int l4, .int l5, .int l6, .int l7, .int l8, .int 0, .int (l10 + 1)] [] S Q) ∧ (¬ l9 = 0 → (tk_Ms mX8_gains [.int l1, .int l2, .int l10, .int l7] S (fun x8 S9 => ((l8 < x8 → tk_Gs mX8_look none 80 [.ref 45, .int l1, .int l2, .int l3, .int l4, .int l5, .int l6, .int l7, .int l8, .int 0, .int (l10 + 1)] [] S9 Q) ∧ (¬ l8 < x8 → (tk_Ms mX8_gains [.int l1, .int l2, .int l6, .int l10] S9 (fun x11 S12 => ((x11 < l8 → tk_Gs mX8_look none 80 [.ref 45, .int l1, .int l2, .int l3, .int l4, .int l5, .int l6, .int l7, .int l8, .int 0, .int (l10 + 1)] [] S12 Q) ∧ (¬ x11 < l8 → tk_Gs mX8_look none 80 [.ref 45, .int l1, .int l2, .int l3, .int l4, .int l5, .int l6, .int l7, .int l8, .int 1, .int (l10 + 1)] [] S12 Q))))))))))))) : tk_Gs mX8_look none 80 [.ref 45, .int l1, .int l2, .int l3, .int l4, .int l5, .int l6, .int l7, .int l8, .int l9, .int l10] [] S Q := by
  show tk_G _ 0 0 _ _ _ _ (tkSH, S, tkRF) _
  refine g_iload dX8_look_80 rfl ?_
  refine g_bipush (v := 7) dX8_look_82 (by decide) ?_
  refine g_icmp_ge (tgt := 133) dX8_look_84 (by decide) (fun c1 => ?_) (fun c1 => ?_)
  · have t := t.1 c1
    refine g_iload dX8_look_133 rfl ?_
    refine g_if_eq (tgt := 154) dX8_look_135 (by decide) (fun c2 => ?_) (fun c2 => ?_)
    · have t := t.1 c2
      refine g_iload dX8_look_154 rfl ?_
      refine g_istore (ls' := [.ref 45, .int l1, .int l2, .int l3, .int l4, .int l5, .int l6, .int l7, .int l8, .int l9, .int l10]) dX8_look_156 rfl (by decide) rfl ?_
      refine g_iload dX8_look_158 rfl ?_
      refine g_iload dX8_look_160 rfl ?_
      refine g_if_eq (tgt := 169) dX8_look_162 (by decide) (fun c3 => ?_) (fun c3 => ?_)
      · have t := t.1 c3
        refine g_iconst (v := 0) dX8_look_169 (by decide) ?_
        refine g_iadd dX8_look_170 ?_
        refine g_istore (ls' := [.ref 45, .int l1, .int l2, .int l3, .int (l4 + 0), .int l5, .int l6, .int l7, .int l8, .int l9, .int l10]) dX8_look_171 rfl (by decide) rfl ?_
        refine g_iinc (v := l7 + 1) (ls' := [.ref 45, .int l1, .int l2, .int l3, .int (l4 + 0), .int l5, .int l6, .int (l7 + 1), .int l8, .int l9, .int l10]) dX8_look_173 rfl rfl (by decide) rfl rfl ?_
        refine g_goto (tgt := 56) dX8_look_176 (by decide) ?_
        refine g_drop (ls' := [.ref 45, .int l1, .int l2, .int l3, .int (l4 + 0), .int l5, .int l6, .int (l7 + 1), .null, .null, .null]) ⟨Or.inl rfl, Or.inl rfl, Or.inl rfl, Or.inl rfl, Or.inl rfl, Or.inl rfl, Or.inl rfl, Or.inl rfl, Or.inr rfl, Or.inr rfl, Or.inr rfl, trivial⟩ ?_
        exact t
      · have t := t.2 c3
        refine g_iconst (v := 1) dX8_look_165 (by decide) ?_
        refine g_goto (tgt := 170) dX8_look_166 (by decide) ?_
        refine g_iadd dX8_look_170 ?_
        refine g_istore (ls' := [.ref 45, .int l1, .int l2, .int l3, .int (l4 + 1), .int l5, .int l6, .int l7, .int l8, .int l9, .int l10]) dX8_look_171 rfl (by decide) rfl ?_
        refine g_iinc (v := l7 + 1) (ls' := [.ref 45, .int l1, .int l2, .int l3, .int (l4 + 1), .int l5, .int l6, .int (l7 + 1), .int l8, .int l9, .int l10]) dX8_look_173 rfl rfl (by decide) rfl rfl ?_
        refine g_goto (tgt := 56) dX8_look_176 (by decide) ?_
        refine g_drop (ls' := [.ref 45, .int l1, .int l2, .int l3, .int (l4 + 1), .int l5, .int l6, .int (l7 + 1), .null, .null, .null]) ⟨Or.inl rfl, Or.inl rfl, Or.inl rfl, Or.inl rfl, Or.inl rfl, Or.inl rfl, Or.inl rfl, Or.inl rfl, Or.inr rfl, Or.inr rfl, Or.inr rfl, trivial⟩ ?_
        exact t
    · have t := t.2 c2
      refine g_iload dX8_look_138 rfl ?_
      refine g_if_ne (tgt := 154) dX8_look_140 (by decide) (fun c4 => ?_) (fun c4 => ?_)
      · have t := t.1 c4
        refine g_iload dX8_look_154 rfl ?_
        refine g_istore (ls' := [.ref 45, .int l1, .int l2, .int l3, .int l4, .int l5, .int l6, .int l7, .int l8, .int l9, .int l10]) dX8_look_156 rfl (by decide) rfl ?_
        refine g_iload dX8_look_158 rfl ?_
        refine g_iload dX8_look_160 rfl ?_
        refine g_if_eq (tgt := 169) dX8_look_162 (by decide) (fun c5 => ?_) (fun c5 => ?_)
        · have t := t.1 c5
          refine g_iconst (v := 0) dX8_look_169 (by decide) ?_
          refine g_iadd dX8_look_170 ?_
          refine g_istore (ls' := [.ref 45, .int l1, .int l2, .int l3, .int (l4 + 0), .int l5, .int l6, .int l7, .int l8, .int l9, .int l10]) dX8_look_171 rfl (by decide) rfl ?_
          refine g_iinc (v := l7 + 1) (ls' := [.ref 45, .int l1, .int l2, .int l3, .int (l4 + 0), .int l5, .int l6, .int (l7 + 1), .int l8, .int l9, .int l10]) dX8_look_173 rfl rfl (by decide) rfl rfl ?_
          refine g_goto (tgt := 56) dX8_look_176 (by decide) ?_
          refine g_drop (ls' := [.ref 45, .int l1, .int l2, .int l3, .int (l4 + 0), .int l5, .int l6, .int (l7 + 1), .null, .null, .null]) ⟨Or.inl rfl, Or.inl rfl, Or.inl rfl, Or.inl rfl, Or.inl rfl, Or.inl rfl, Or.inl rfl, Or.inl rfl, Or.inr rfl, Or.inr rfl, Or.inr rfl, trivial⟩ ?_
          exact t
        · have t := t.2 c5
          refine g_iconst (v := 1) dX8_look_165 (by decide) ?_
          refine g_goto (tgt := 170) dX8_look_166 (by decide) ?_
          refine g_iadd dX8_look_170 ?_
          refine g_istore (ls' := [.ref 45, .int l1, .int l2, .int l3, .int (l4 + 1), .int l5, .int l6, .int l7, .int l8, .int l9, .int l10]) dX8_look_171 rfl (by decide) rfl ?_
          refine g_iinc (v := l7 + 1) (ls' := [.ref 45, .int l1, .int l2, .int l3, .int (l4 + 1), .int l5, .int l6, .int (l7 + 1), .int l8, .int l9, .int l10]) dX8_look_173 rfl rfl (by decide) rfl rfl ?_
          refine g_goto (tgt := 56) dX8_look_176 (by decide) ?_
          refine g_drop (ls' := [.ref 45, .int l1, .int l2, .int l3, .int (l4 + 1), .int l5, .int l6, .int (l7 + 1), .null, .null, .null]) ⟨Or.inl rfl, Or.inl rfl, Or.inl rfl, Or.inl rfl, Or.inl rfl, Or.inl rfl, Or.inl rfl, Or.inl rfl, Or.inr rfl, Or.inr rfl, Or.inr rfl, trivial⟩ ?_
          exact t
      · have t := t.2 c4
        refine g_bipush (v := 10) dX8_look_143 (by decide) ?_
        refine g_iload dX8_look_145 rfl ?_
        refine g_imul dX8_look_147 ?_
        refine g_iload dX8_look_148 rfl ?_
        refine g_iadd dX8_look_150 ?_
        refine g_goto (tgt := 156) dX8_look_151 (by decide) ?_
        refine g_istore (ls' := [.ref 45, .int l1, .int l2, .int l3, .int l4, .int ((10 * l6) + l7), .int l6, .int l7, .int l8, .int l9, .int l10]) dX8_look_156 rfl (by decide) rfl ?_
        refine g_iload dX8_look_158 rfl ?_
        refine g_iload dX8_look_160 rfl ?_
        refine g_if_eq (tgt := 169) dX8_look_162 (by decide) (fun c6 => ?_) (fun c6 => ?_)
        · have t := t.1 c6
          refine g_iconst (v := 0) dX8_look_169 (by decide) ?_
          refine g_iadd dX8_look_170 ?_
          refine g_istore (ls' := [.ref 45, .int l1, .int l2, .int l3, .int (l4 + 0), .int ((10 * l6) + l7), .int l6, .int l7, .int l8, .int l9, .int l10]) dX8_look_171 rfl (by decide) rfl ?_
          refine g_iinc (v := l7 + 1) (ls' := [.ref 45, .int l1, .int l2, .int l3, .int (l4 + 0), .int ((10 * l6) + l7), .int l6, .int (l7 + 1), .int l8, .int l9, .int l10]) dX8_look_173 rfl rfl (by decide) rfl rfl ?_
          refine g_goto (tgt := 56) dX8_look_176 (by decide) ?_
          refine g_drop (ls' := [.ref 45, .int l1, .int l2, .int l3, .int (l4 + 0), .int ((10 * l6) + l7), .int l6, .int (l7 + 1), .null, .null, .null]) ⟨Or.inl rfl, Or.inl rfl, Or.inl rfl, Or.inl rfl, Or.inl rfl, Or.inl rfl, Or.inl rfl, Or.inl rfl, Or.inr rfl, Or.inr rfl, Or.inr rfl, trivial⟩ ?_
          exact t
        · have t := t.2 c6
          refine g_iconst (v := 1) dX8_look_165 (by decide) ?_
          refine g_goto (tgt := 170) dX8_look_166 (by decide) ?_
          refine g_iadd dX8_look_170 ?_
          refine g_istore (ls' := [.ref 45, .int l1, .int l2, .int l3, .int (l4 + 1), .int ((10 * l6) + l7), .int l6, .int l7, .int l8, .int l9, .int l10]) dX8_look_171 rfl (by decide) rfl ?_
          refine g_iinc (v := l7 + 1) (ls' := [.ref 45, .int l1, .int l2, .int l3, .int (l4 + 1), .int ((10 * l6) + l7), .int l6, .int (l7 + 1), .int l8, .int l9, .int l10]) dX8_look_173 rfl rfl (by decide) rfl rfl ?_
          refine g_goto (tgt := 56) dX8_look_176 (by decide) ?_
          refine g_drop (ls' := [.ref 45, .int l1, .int l2, .int l3, .int (l4 + 1), .int ((10 * l6) + l7), .int l6, .int (l7 + 1), .null, .null, .null]) ⟨Or.inl rfl, Or.inl rfl, Or.inl rfl, Or.inl rfl, Or.inl rfl, Or.inl rfl, Or.inl rfl, Or.inl rfl, Or.inr rfl, Or.inr rfl, Or.inr rfl, trivial⟩ ?_
          exact t
  · have t := t.2 c1
    refine g_iload dX8_look_87 rfl ?_
    refine g_if_eq (tgt := 124) dX8_look_89 (by decide) (fun c7 => ?_) (fun c7 => ?_)
    · have t := t.1 c7
      refine g_iconst (v := 0) dX8_look_124 (by decide) ?_
      refine g_istore (ls' := [.ref 45, .int l1, .int l2, .int l3, .int l4, .int l5, .int l6, .int l7, .int l8, .int 0, .int l10]) dX8_look_125 rfl (by decide) rfl ?_
      refine g_iinc (v := l10 + 1) (ls' := [.ref 45, .int l1, .int l2, .int l3, .int l4, .int l5, .int l6, .int l7, .int l8, .int 0, .int (l10 + 1)]) dX8_look_127 rfl rfl (by decide) rfl rfl ?_
      refine g_goto (tgt := 80) dX8_look_130 (by decide) ?_
      exact t
    · have t := t.2 c7
      refine g_iload_n dX8_look_92 rfl ?_
      refine g_iload_n dX8_look_93 rfl ?_
      refine g_iload dX8_look_94 rfl ?_
      refine g_iload dX8_look_96 rfl ?_
      refine s_S4i dX8_look_98 sm_X8_gains ml_X8_218 rfl (by decide) (Nat.le_of_ble_eq_true rfl) rfl (tk_Ms.mono t (fun x8 S9 t => ?_))
      refine g_iload dX8_look_101 rfl ?_
      refine g_icmp_gt (tgt := 124) dX8_look_103 (by decide) (fun c10 => ?_) (fun c10 => ?_)
      · have t := t.1 c10
        refine g_iconst (v := 0) dX8_look_124 (by decide) ?_
        refine g_istore (ls' := [.ref 45, .int l1, .int l2, .int l3, .int l4, .int l5, .int l6, .int l7, .int l8, .int 0, .int l10]) dX8_look_125 rfl (by decide) rfl ?_
        refine g_iinc (v := l10 + 1) (ls' := [.ref 45, .int l1, .int l2, .int l3, .int l4, .int l5, .int l6, .int l7, .int l8, .int 0, .int (l10 + 1)]) dX8_look_127 rfl rfl (by decide) rfl rfl ?_
        refine g_goto (tgt := 80) dX8_look_130 (by decide) ?_
        exact t
      · have t := t.2 c10
        refine g_iload_n dX8_look_106 rfl ?_
        refine g_iload_n dX8_look_107 rfl ?_
        refine g_iload dX8_look_108 rfl ?_
        refine g_iload dX8_look_110 rfl ?_
        refine s_S4i dX8_look_112 sm_X8_gains ml_X8_218 rfl (by decide) (Nat.le_of_ble_eq_true rfl) rfl (tk_Ms.mono t (fun x11 S12 t => ?_))
        refine g_iload dX8_look_115 rfl ?_
        refine g_icmp_lt (tgt := 124) dX8_look_117 (by decide) (fun c13 => ?_) (fun c13 => ?_)
        · have t := t.1 c13
          refine g_iconst (v := 0) dX8_look_124 (by decide) ?_
          refine g_istore (ls' := [.ref 45, .int l1, .int l2, .int l3, .int l4, .int l5, .int l6, .int l7, .int l8, .int 0, .int l10]) dX8_look_125 rfl (by decide) rfl ?_
          refine g_iinc (v := l10 + 1) (ls' := [.ref 45, .int l1, .int l2, .int l3, .int l4, .int l5, .int l6, .int l7, .int l8, .int 0, .int (l10 + 1)]) dX8_look_127 rfl rfl (by decide) rfl rfl ?_
          refine g_goto (tgt := 80) dX8_look_130 (by decide) ?_
          exact t
        · have t := t.2 c13
          refine g_iconst (v := 1) dX8_look_120 (by decide) ?_
          refine g_goto (tgt := 125) dX8_look_121 (by decide) ?_
          refine g_istore (ls' := [.ref 45, .int l1, .int l2, .int l3, .int l4, .int l5, .int l6, .int l7, .int l8, .int 1, .int l10]) dX8_look_125 rfl (by decide) rfl ?_
          refine g_iinc (v := l10 + 1) (ls' := [.ref 45, .int l1, .int l2, .int l3, .int l4, .int l5, .int l6, .int l7, .int l8, .int 1, .int (l10 + 1)]) dX8_look_127 rfl rfl (by decide) rfl rfl ?_
          refine g_goto (tgt := 80) dX8_look_130 (by decide) ?_
          exact t
theorem w_X8_carried {Q : Int32 → tS → Prop} {S : tS} (p1 : Int32) (p2 : Int32) (p3 : Int32) (t : ((48 ≤ p1 → ((88 ≤ p1 → ((p3 = 0 → tk_Gs mX8_carried none 386 [.ref 45, .int p1, .int p2, .int p3, .null, .null] [.ref 45] S (tk_okQ mX8_carried Q)) ∧ (¬ p3 = 0 → ((¬ p1 = 88 → tk_Gs mX8_carried none 386 [.ref 45, .int p1, .int p2, .int p3, .null, .null] [.ref 45] S (tk_okQ mX8_carried Q)) ∧ (p1 = 88 → tk_Gs mX8_carried none 390 [.ref 45, .int p1, .int p2, .int p3, .null, .null] [.int p2, .ref 45] S (tk_okQ mX8_carried Q)))))) ∧ (¬ 88 ≤ p1 → ((p3 = 0 → tk_Gs mX8_carried none 180 [.ref 45, .int p1, .int p2, .int p3, .int (p1 - p1 / 8 * 8), .int ((p1 / 8) - 6)] [.int (p1 - p1 / 8 * 8), .ref 49] S (tk_okQ mX8_carried Q)) ∧ (¬ p3 = 0 → ((¬ ((p1 / 8) - 6) = 0 → tk_Gs mX8_carried none 180 [.ref 45, .int p1, .int p2, .int p3, .int (p1 - p1 / 8 * 8), .int ((p1 / 8) - 6)] [.int (p1 - p1 / 8 * 8), .ref 49] S (tk_okQ mX8_carried Q)) ∧ (((p1 / 8) - 6) = 0 → tk_Gs mX8_carried none 187 [.ref 45, .int p1, .int p2, .int p3, .int (p1 - p1 / 8 * 8), .int ((p1 / 8) - 6)] [.int p2, .int (p1 - p1 / 8 * 8), .ref 49] S (tk_okQ mX8_carried Q)))))))) ∧ (¬ 48 ≤ p1 → ((p3 = 0 → tk_Gs mX8_carried none 37 [.ref 45, .int p1, .int p2, .int p3, .int (p1 - p1 / 16 * 16), .int (p1 / 16)] [.int (p1 - p1 / 16 * 16), .ref 46] S (tk_okQ mX8_carried Q)) ∧ (¬ p3 = 0 → ((¬ (p1 / 16) = 0 → tk_Gs mX8_carried none 37 [.ref 45, .int p1, .int p2, .int p3, .int (p1 - p1 / 16 * 16), .int (p1 / 16)] [.int (p1 - p1 / 16 * 16), .ref 46] S (tk_okQ mX8_carried Q)) ∧ ((p1 / 16) = 0 → tk_Gs mX8_carried none 44 [.ref 45, .int p1, .int p2, .int p3, .int (p1 - p1 / 16 * 16), .int (p1 / 16)] [.int p2, .int (p1 - p1 / 16 * 16), .ref 46] S (tk_okQ mX8_carried Q)))))))) : tk_Ms mX8_carried [.ref 45, .int p1, .int p2, .int p3] S Q := by
  refine tk_Ms.of (ls := [.ref 45, .int p1, .int p2, .int p3, .null, .null]) (by decide) (by first | exact Or.inl rfl | exact Or.inr (Or.inl rfl) | exact Or.inr (Or.inr rfl)) (Nat.le_of_ble_eq_true rfl) rfl ?_
  refine g_iload_n dX8_carried_0 rfl ?_
  refine g_bipush (v := 48) dX8_carried_1 (by decide) ?_
  refine g_icmp_ge (tgt := 140) dX8_carried_3 (by decide) (fun c1 => ?_) (fun c1 => ?_)
  · have t := t.1 c1
    refine g_iload_n dX8_carried_140 rfl ?_
    refine g_bipush (v := 88) dX8_carried_141 (by decide) ?_
    refine g_icmp_ge (tgt := 371) dX8_carried_143 (by decide) (fun c2 => ?_) (fun c2 => ?_)
    · have t := t.1 c2
      refine g_aload_n dX8_carried_371 rfl ?_
      refine g_iload_n dX8_carried_372 rfl ?_
      refine g_if_eq (tgt := 386) dX8_carried_373 (by decide) (fun c3 => ?_) (fun c3 => ?_)
      · have t := t.1 c3
        exact t
      · have t := t.2 c3
        refine g_iload_n dX8_carried_376 rfl ?_
        refine g_bipush (v := 88) dX8_carried_377 (by decide) ?_
        refine g_icmp_ne (tgt := 386) dX8_carried_379 (by decide) (fun c4 => ?_) (fun c4 => ?_)
        · have t := t.1 c4
          exact t
        · have t := t.2 c4
          refine g_iload_n dX8_carried_382 rfl ?_
          refine g_goto (tgt := 390) dX8_carried_383 (by decide) ?_
          exact t
    · have t := t.2 c2
      refine g_iload_n dX8_carried_146 rfl ?_
      refine g_bipush (v := 8) dX8_carried_147 (by decide) ?_
      refine g_irem dX8_carried_149 (by decide) ?_
      refine g_istore (ls' := [.ref 45, .int p1, .int p2, .int p3, .int (p1 - p1 / 8 * 8), .null]) dX8_carried_150 rfl (by decide) rfl ?_
      refine g_iload_n dX8_carried_152 rfl ?_
      refine g_bipush (v := 8) dX8_carried_153 (by decide) ?_
      refine g_idiv dX8_carried_155 (by decide) ?_
      refine g_bipush (v := 6) dX8_carried_156 (by decide) ?_
      refine g_isub dX8_carried_158 ?_
      refine g_istore (ls' := [.ref 45, .int p1, .int p2, .int p3, .int (p1 - p1 / 8 * 8), .int ((p1 / 8) - 6)]) dX8_carried_159 rfl (by decide) rfl ?_
      refine g_aload_n dX8_carried_161 rfl ?_
      refine g_getR (n := 25) dX8_carried_162 fl_X8_19 rfl (by decide) (by decide) rfl rfl ?_
      refine g_iload dX8_carried_165 rfl ?_
      refine g_iload_n dX8_carried_167 rfl ?_
      refine g_if_eq (tgt := 180) dX8_carried_168 (by decide) (fun c5 => ?_) (fun c5 => ?_)
      · have t := t.1 c5
        exact t
      · have t := t.2 c5
        refine g_iload dX8_carried_171 rfl ?_
        refine g_if_ne (tgt := 180) dX8_carried_173 (by decide) (fun c6 => ?_) (fun c6 => ?_)
        · have t := t.1 c6
          exact t
        · have t := t.2 c6
          refine g_iload_n dX8_carried_176 rfl ?_
          refine g_goto (tgt := 187) dX8_carried_177 (by decide) ?_
          exact t
  · have t := t.2 c1
    refine g_iload_n dX8_carried_6 rfl ?_
    refine g_bipush (v := 16) dX8_carried_7 (by decide) ?_
    refine g_irem dX8_carried_9 (by decide) ?_
    refine g_istore (ls' := [.ref 45, .int p1, .int p2, .int p3, .int (p1 - p1 / 16 * 16), .null]) dX8_carried_10 rfl (by decide) rfl ?_
    refine g_iload_n dX8_carried_12 rfl ?_
    refine g_bipush (v := 16) dX8_carried_13 (by decide) ?_
    refine g_idiv dX8_carried_15 (by decide) ?_
    refine g_istore (ls' := [.ref 45, .int p1, .int p2, .int p3, .int (p1 - p1 / 16 * 16), .int (p1 / 16)]) dX8_carried_16 rfl (by decide) rfl ?_
    refine g_aload_n dX8_carried_18 rfl ?_
    refine g_getR (n := 25) dX8_carried_19 fl_X8_7 rfl (by decide) (by decide) rfl rfl ?_
    refine g_iload dX8_carried_22 rfl ?_
    refine g_iload_n dX8_carried_24 rfl ?_
    refine g_if_eq (tgt := 37) dX8_carried_25 (by decide) (fun c7 => ?_) (fun c7 => ?_)
    · have t := t.1 c7
      exact t
    · have t := t.2 c7
      refine g_iload dX8_carried_28 rfl ?_
      refine g_if_ne (tgt := 37) dX8_carried_30 (by decide) (fun c8 => ?_) (fun c8 => ?_)
      · have t := t.1 c8
        exact t
      · have t := t.2 c8
        refine g_iload_n dX8_carried_33 rfl ?_
        refine g_goto (tgt := 44) dX8_carried_34 (by decide) ?_
        exact t
theorem w_X8_carried_37 {Q : Int32 → tS → Prop} {S : tS} (l1 : Int32) (l2 : Int32) (l3 : Int32) (l4 : Int32) (l5 : Int32) (v0 : Int32) (t : (vp_in l4 17 ∧ tk_Gs mX8_carried none 44 [.ref 45, .int l1, .int l2, .int l3, .int l4, .int l5] [.int (S 46 l4.toNatClampNeg), .int v0, .ref 46] S Q)) : tk_Gs mX8_carried none 37 [.ref 45, .int l1, .int l2, .int l3, .int l4, .int l5] [.int v0, .ref 46] S Q := by
  show tk_G _ 0 0 _ _ _ _ (tkSH, S, tkRF) _
  refine g_aload_n dX8_carried_37 rfl ?_
  refine g_getR (n := 25) dX8_carried_38 fl_X8_7 rfl (by decide) (by decide) rfl rfl ?_
  refine g_iload dX8_carried_41 rfl ?_
  refine g_iald (n := 17) dX8_carried_43 rfl t.1 ?_
  have t := t.2
  exact t
theorem w_X8_carried_44 {Q : Int32 → tS → Prop} {S : tS} (l1 : Int32) (l2 : Int32) (l3 : Int32) (l4 : Int32) (l5 : Int32) (v0 : Int32) (v1 : Int32) (t : (vp_in v1 17 ∧ ((l3 = 0 → tk_Gs mX8_carried none 65 [.ref 45, .int l1, .int l2, .int l3, .int l4, .int l5] [.int l4, .ref 47] (tk_up S 46 v1.toNatClampNeg v0) Q) ∧ (¬ l3 = 0 → ((¬ l5 = 1 → tk_Gs mX8_carried none 65 [.ref 45, .int l1, .int l2, .int l3, .int l4, .int l5] [.int l4, .ref 47] (tk_up S 46 v1.toNatClampNeg v0) Q) ∧ (l5 = 1 → tk_Gs mX8_carried none 72 [.ref 45, .int l1, .int l2, .int l3, .int l4, .int l5] [.int l2, .int l4, .ref 47] (tk_up S 46 v1.toNatClampNeg v0) Q)))))) : tk_Gs mX8_carried none 44 [.ref 45, .int l1, .int l2, .int l3, .int l4, .int l5] [.int v0, .int v1, .ref 46] S Q := by
  show tk_G _ 0 0 _ _ _ _ (tkSH, S, tkRF) _
  refine g_iast (n := 17) dX8_carried_44 rfl t.1 ?_
  have t := t.2
  refine g_aload_n dX8_carried_45 rfl ?_
  refine g_getR (n := 25) dX8_carried_46 fl_X8_13 rfl (by decide) (by decide) rfl rfl ?_
  refine g_iload dX8_carried_49 rfl ?_
  refine g_iload_n dX8_carried_51 rfl ?_
  refine g_if_eq (tgt := 65) dX8_carried_52 (by decide) (fun c1 => ?_) (fun c1 => ?_)
  · have t := t.1 c1
    exact t
  · have t := t.2 c1
    refine g_iload dX8_carried_55 rfl ?_
    refine g_iconst (v := 1) dX8_carried_57 (by decide) ?_
    refine g_icmp_ne (tgt := 65) dX8_carried_58 (by decide) (fun c2 => ?_) (fun c2 => ?_)
    · have t := t.1 c2
      exact t
    · have t := t.2 c2
      refine g_iload_n dX8_carried_61 rfl ?_
      refine g_goto (tgt := 72) dX8_carried_62 (by decide) ?_
      exact t
theorem w_X8_carried_65 {Q : Int32 → tS → Prop} {S : tS} (l1 : Int32) (l2 : Int32) (l3 : Int32) (l4 : Int32) (l5 : Int32) (v0 : Int32) (t : (vp_in l4 17 ∧ tk_Gs mX8_carried none 72 [.ref 45, .int l1, .int l2, .int l3, .int l4, .int l5] [.int (S 47 l4.toNatClampNeg), .int v0, .ref 47] S Q)) : tk_Gs mX8_carried none 65 [.ref 45, .int l1, .int l2, .int l3, .int l4, .int l5] [.int v0, .ref 47] S Q := by
  show tk_G _ 0 0 _ _ _ _ (tkSH, S, tkRF) _
  refine g_aload_n dX8_carried_65 rfl ?_
  refine g_getR (n := 25) dX8_carried_66 fl_X8_13 rfl (by decide) (by decide) rfl rfl ?_
  refine g_iload dX8_carried_69 rfl ?_
  refine g_iald (n := 17) dX8_carried_71 rfl t.1 ?_
  have t := t.2
  exact t
theorem w_X8_carried_72 {Q : Int32 → tS → Prop} {S : tS} (l1 : Int32) (l2 : Int32) (l3 : Int32) (l4 : Int32) (l5 : Int32) (v0 : Int32) (v1 : Int32) (t : (vp_in v1 17 ∧ ((l3 = 0 → tk_Gs mX8_carried none 93 [.ref 45, .int l1, .int l2, .int l3, .int l4, .int l5] [.int l4, .ref 48] (tk_up S 47 v1.toNatClampNeg v0) Q) ∧ (¬ l3 = 0 → ((¬ l5 = 2 → tk_Gs mX8_carried none 93 [.ref 45, .int l1, .int l2, .int l3, .int l4, .int l5] [.int l4, .ref 48] (tk_up S 47 v1.toNatClampNeg v0) Q) ∧ (l5 = 2 → tk_Gs mX8_carried none 100 [.ref 45, .int l1, .int l2, .int l3, .int l4, .int l5] [.int l2, .int l4, .ref 48] (tk_up S 47 v1.toNatClampNeg v0) Q)))))) : tk_Gs mX8_carried none 72 [.ref 45, .int l1, .int l2, .int l3, .int l4, .int l5] [.int v0, .int v1, .ref 47] S Q := by
  show tk_G _ 0 0 _ _ _ _ (tkSH, S, tkRF) _
  refine g_iast (n := 17) dX8_carried_72 rfl t.1 ?_
  have t := t.2
  refine g_aload_n dX8_carried_73 rfl ?_
  refine g_getR (n := 25) dX8_carried_74 fl_X8_16 rfl (by decide) (by decide) rfl rfl ?_
  refine g_iload dX8_carried_77 rfl ?_
  refine g_iload_n dX8_carried_79 rfl ?_
  refine g_if_eq (tgt := 93) dX8_carried_80 (by decide) (fun c1 => ?_) (fun c1 => ?_)
  · have t := t.1 c1
    exact t
  · have t := t.2 c1
    refine g_iload dX8_carried_83 rfl ?_
    refine g_iconst (v := 2) dX8_carried_85 (by decide) ?_
    refine g_icmp_ne (tgt := 93) dX8_carried_86 (by decide) (fun c2 => ?_) (fun c2 => ?_)
    · have t := t.1 c2
      exact t
    · have t := t.2 c2
      refine g_iload_n dX8_carried_89 rfl ?_
      refine g_goto (tgt := 100) dX8_carried_90 (by decide) ?_
      exact t
theorem w_X8_carried_93 {Q : Int32 → tS → Prop} {S : tS} (l1 : Int32) (l2 : Int32) (l3 : Int32) (l4 : Int32) (l5 : Int32) (v0 : Int32) (t : (vp_in l4 17 ∧ tk_Gs mX8_carried none 100 [.ref 45, .int l1, .int l2, .int l3, .int l4, .int l5] [.int (S 48 l4.toNatClampNeg), .int v0, .ref 48] S Q)) : tk_Gs mX8_carried none 93 [.ref 45, .int l1, .int l2, .int l3, .int l4, .int l5] [.int v0, .ref 48] S Q := by
  show tk_G _ 0 0 _ _ _ _ (tkSH, S, tkRF) _
  refine g_aload_n dX8_carried_93 rfl ?_
  refine g_getR (n := 25) dX8_carried_94 fl_X8_16 rfl (by decide) (by decide) rfl rfl ?_
  refine g_iload dX8_carried_97 rfl ?_
  refine g_iald (n := 17) dX8_carried_99 rfl t.1 ?_
  have t := t.2
  exact t
theorem w_X8_carried_100 {Q : Int32 → tS → Prop} {S : tS} (l1 : Int32) (l2 : Int32) (l3 : Int32) (l4 : Int32) (l5 : Int32) (v0 : Int32) (v1 : Int32) (t : (vp_in v1 17 ∧ ((¬ l5 = 0 → ((¬ l5 = 1 → (vp_in l4 17 ∧ tk_Gs mX8_carried none 139 [.ref 45, .int l1, .int l2, .int l3, .int l4, .int l5] [.int ((tk_up S 48 v1.toNatClampNeg v0) 48 l4.toNatClampNeg)] (tk_up S 48 v1.toNatClampNeg v0) Q)) ∧ (l5 = 1 → (vp_in l4 17 ∧ tk_Gs mX8_carried none 139 [.ref 45, .int l1, .int l2, .int l3, .int l4, .int l5] [.int (S 47 l4.toNatClampNeg)] (tk_up S 48 v1.toNatClampNeg v0) Q)))) ∧ (l5 = 0 → (vp_in l4 17 ∧ tk_Gs mX8_carried none 139 [.ref 45, .int l1, .int l2, .int l3, .int l4, .int l5] [.int (S 46 l4.toNatClampNeg)] (tk_up S 48 v1.toNatClampNeg v0) Q))))) : tk_Gs mX8_carried none 100 [.ref 45, .int l1, .int l2, .int l3, .int l4, .int l5] [.int v0, .int v1, .ref 48] S Q := by
  show tk_G _ 0 0 _ _ _ _ (tkSH, S, tkRF) _
  refine g_iast (n := 17) dX8_carried_100 rfl t.1 ?_
  have t := t.2
  refine g_iload dX8_carried_101 rfl ?_
  refine g_if_ne (tgt := 116) dX8_carried_103 (by decide) (fun c1 => ?_) (fun c1 => ?_)
  · have t := t.1 c1
    refine g_iload dX8_carried_116 rfl ?_
    refine g_iconst (v := 1) dX8_carried_118 (by decide) ?_
    refine g_icmp_ne (tgt := 132) dX8_carried_119 (by decide) (fun c2 => ?_) (fun c2 => ?_)
    · have t := t.1 c2
      refine g_aload_n dX8_carried_132 rfl ?_
      refine g_getR (n := 25) dX8_carried_133 fl_X8_16 rfl (by decide) (by decide) rfl rfl ?_
      refine g_iload dX8_carried_136 rfl ?_
      refine g_iald (n := 17) dX8_carried_138 rfl t.1 ?_
      have t := t.2
      exact t
    · have t := t.2 c2
      refine g_aload_n dX8_carried_122 rfl ?_
      refine g_getR (n := 25) dX8_carried_123 fl_X8_13 rfl (by decide) (by decide) rfl rfl ?_
      refine g_iload dX8_carried_126 rfl ?_
      refine g_iald (n := 17) dX8_carried_128 rfl t.1 ?_
      have t := t.2
      refine g_goto (tgt := 139) dX8_carried_129 (by decide) ?_
      exact t
  · have t := t.2 c1
    refine g_aload_n dX8_carried_106 rfl ?_
    refine g_getR (n := 25) dX8_carried_107 fl_X8_7 rfl (by decide) (by decide) rfl rfl ?_
    refine g_iload dX8_carried_110 rfl ?_
    refine g_iald (n := 17) dX8_carried_112 rfl t.1 ?_
    have t := t.2
    refine g_goto (tgt := 139) dX8_carried_113 (by decide) ?_
    exact t
theorem w_X8_carried_139 {Q : Int32 → tS → Prop} {S : tS} (l1 : Int32) (l2 : Int32) (l3 : Int32) (l4 : Int32) (l5 : Int32) (v0 : Int32) (t : Q v0 S) : tk_Gs mX8_carried none 139 [.ref 45, .int l1, .int l2, .int l3, .int l4, .int l5] [.int v0] S Q := by
  show tk_G _ 0 0 _ _ _ _ (tkSH, S, tkRF) _
  exact g_iret (st := []) dX8_carried_139 (fun e => by cases e) ⟨_, rfl, t⟩
theorem w_X8_carried_180 {Q : Int32 → tS → Prop} {S : tS} (l1 : Int32) (l2 : Int32) (l3 : Int32) (l4 : Int32) (l5 : Int32) (v0 : Int32) (t : (vp_in l4 8 ∧ tk_Gs mX8_carried none 187 [.ref 45, .int l1, .int l2, .int l3, .int l4, .int l5] [.int (S 49 l4.toNatClampNeg), .int v0, .ref 49] S Q)) : tk_Gs mX8_carried none 180 [.ref 45, .int l1, .int l2, .int l3, .int l4, .int l5] [.int v0, .ref 49] S Q := by
  show tk_G _ 0 0 _ _ _ _ (tkSH, S, tkRF) _
  refine g_aload_n dX8_carried_180 rfl ?_
  refine g_getR (n := 25) dX8_carried_181 fl_X8_19 rfl (by decide) (by decide) rfl rfl ?_
  refine g_iload dX8_carried_184 rfl ?_
  refine g_iald (n := 8) dX8_carried_186 rfl t.1 ?_
  have t := t.2
  exact t
theorem w_X8_carried_187 {Q : Int32 → tS → Prop} {S : tS} (l1 : Int32) (l2 : Int32) (l3 : Int32) (l4 : Int32) (l5 : Int32) (v0 : Int32) (v1 : Int32) (t : (vp_in v1 8 ∧ ((l3 = 0 → tk_Gs mX8_carried none 208 [.ref 45, .int l1, .int l2, .int l3, .int l4, .int l5] [.int l4, .ref 50] (tk_up S 49 v1.toNatClampNeg v0) Q) ∧ (¬ l3 = 0 → ((¬ l5 = 1 → tk_Gs mX8_carried none 208 [.ref 45, .int l1, .int l2, .int l3, .int l4, .int l5] [.int l4, .ref 50] (tk_up S 49 v1.toNatClampNeg v0) Q) ∧ (l5 = 1 → tk_Gs mX8_carried none 215 [.ref 45, .int l1, .int l2, .int l3, .int l4, .int l5] [.int l2, .int l4, .ref 50] (tk_up S 49 v1.toNatClampNeg v0) Q)))))) : tk_Gs mX8_carried none 187 [.ref 45, .int l1, .int l2, .int l3, .int l4, .int l5] [.int v0, .int v1, .ref 49] S Q := by
  show tk_G _ 0 0 _ _ _ _ (tkSH, S, tkRF) _
  refine g_iast (n := 8) dX8_carried_187 rfl t.1 ?_
  have t := t.2
  refine g_aload_n dX8_carried_188 rfl ?_
  refine g_getR (n := 25) dX8_carried_189 fl_X8_22 rfl (by decide) (by decide) rfl rfl ?_
  refine g_iload dX8_carried_192 rfl ?_
  refine g_iload_n dX8_carried_194 rfl ?_
  refine g_if_eq (tgt := 208) dX8_carried_195 (by decide) (fun c1 => ?_) (fun c1 => ?_)
  · have t := t.1 c1
    exact t
  · have t := t.2 c1
    refine g_iload dX8_carried_198 rfl ?_
    refine g_iconst (v := 1) dX8_carried_200 (by decide) ?_
    refine g_icmp_ne (tgt := 208) dX8_carried_201 (by decide) (fun c2 => ?_) (fun c2 => ?_)
    · have t := t.1 c2
      exact t
    · have t := t.2 c2
      refine g_iload_n dX8_carried_204 rfl ?_
      refine g_goto (tgt := 215) dX8_carried_205 (by decide) ?_
      exact t
theorem w_X8_carried_208 {Q : Int32 → tS → Prop} {S : tS} (l1 : Int32) (l2 : Int32) (l3 : Int32) (l4 : Int32) (l5 : Int32) (v0 : Int32) (t : (vp_in l4 8 ∧ tk_Gs mX8_carried none 215 [.ref 45, .int l1, .int l2, .int l3, .int l4, .int l5] [.int (S 50 l4.toNatClampNeg), .int v0, .ref 50] S Q)) : tk_Gs mX8_carried none 208 [.ref 45, .int l1, .int l2, .int l3, .int l4, .int l5] [.int v0, .ref 50] S Q := by
  show tk_G _ 0 0 _ _ _ _ (tkSH, S, tkRF) _
  refine g_aload_n dX8_carried_208 rfl ?_
  refine g_getR (n := 25) dX8_carried_209 fl_X8_22 rfl (by decide) (by decide) rfl rfl ?_
  refine g_iload dX8_carried_212 rfl ?_
  refine g_iald (n := 8) dX8_carried_214 rfl t.1 ?_
  have t := t.2
  exact t
theorem w_X8_carried_215 {Q : Int32 → tS → Prop} {S : tS} (l1 : Int32) (l2 : Int32) (l3 : Int32) (l4 : Int32) (l5 : Int32) (v0 : Int32) (v1 : Int32) (t : (vp_in v1 8 ∧ ((l3 = 0 → tk_Gs mX8_carried none 236 [.ref 45, .int l1, .int l2, .int l3, .int l4, .int l5] [.int l4, .ref 51] (tk_up S 50 v1.toNatClampNeg v0) Q) ∧ (¬ l3 = 0 → ((¬ l5 = 2 → tk_Gs mX8_carried none 236 [.ref 45, .int l1, .int l2, .int l3, .int l4, .int l5] [.int l4, .ref 51] (tk_up S 50 v1.toNatClampNeg v0) Q) ∧ (l5 = 2 → tk_Gs mX8_carried none 243 [.ref 45, .int l1, .int l2, .int l3, .int l4, .int l5] [.int l2, .int l4, .ref 51] (tk_up S 50 v1.toNatClampNeg v0) Q)))))) : tk_Gs mX8_carried none 215 [.ref 45, .int l1, .int l2, .int l3, .int l4, .int l5] [.int v0, .int v1, .ref 50] S Q := by
  show tk_G _ 0 0 _ _ _ _ (tkSH, S, tkRF) _
  refine g_iast (n := 8) dX8_carried_215 rfl t.1 ?_
  have t := t.2
  refine g_aload_n dX8_carried_216 rfl ?_
  refine g_getR (n := 25) dX8_carried_217 fl_X8_25 rfl (by decide) (by decide) rfl rfl ?_
  refine g_iload dX8_carried_220 rfl ?_
  refine g_iload_n dX8_carried_222 rfl ?_
  refine g_if_eq (tgt := 236) dX8_carried_223 (by decide) (fun c1 => ?_) (fun c1 => ?_)
  · have t := t.1 c1
    exact t
  · have t := t.2 c1
    refine g_iload dX8_carried_226 rfl ?_
    refine g_iconst (v := 2) dX8_carried_228 (by decide) ?_
    refine g_icmp_ne (tgt := 236) dX8_carried_229 (by decide) (fun c2 => ?_) (fun c2 => ?_)
    · have t := t.1 c2
      exact t
    · have t := t.2 c2
      refine g_iload_n dX8_carried_232 rfl ?_
      refine g_goto (tgt := 243) dX8_carried_233 (by decide) ?_
      exact t
theorem w_X8_carried_236 {Q : Int32 → tS → Prop} {S : tS} (l1 : Int32) (l2 : Int32) (l3 : Int32) (l4 : Int32) (l5 : Int32) (v0 : Int32) (t : (vp_in l4 8 ∧ tk_Gs mX8_carried none 243 [.ref 45, .int l1, .int l2, .int l3, .int l4, .int l5] [.int (S 51 l4.toNatClampNeg), .int v0, .ref 51] S Q)) : tk_Gs mX8_carried none 236 [.ref 45, .int l1, .int l2, .int l3, .int l4, .int l5] [.int v0, .ref 51] S Q := by
  show tk_G _ 0 0 _ _ _ _ (tkSH, S, tkRF) _
  refine g_aload_n dX8_carried_236 rfl ?_
  refine g_getR (n := 25) dX8_carried_237 fl_X8_25 rfl (by decide) (by decide) rfl rfl ?_
  refine g_iload dX8_carried_240 rfl ?_
  refine g_iald (n := 8) dX8_carried_242 rfl t.1 ?_
  have t := t.2
  exact t
theorem w_X8_carried_243 {Q : Int32 → tS → Prop} {S : tS} (l1 : Int32) (l2 : Int32) (l3 : Int32) (l4 : Int32) (l5 : Int32) (v0 : Int32) (v1 : Int32) (t : (vp_in v1 8 ∧ ((l3 = 0 → tk_Gs mX8_carried none 264 [.ref 45, .int l1, .int l2, .int l3, .int l4, .int l5] [.int l4, .ref 52] (tk_up S 51 v1.toNatClampNeg v0) Q) ∧ (¬ l3 = 0 → ((¬ l5 = 3 → tk_Gs mX8_carried none 264 [.ref 45, .int l1, .int l2, .int l3, .int l4, .int l5] [.int l4, .ref 52] (tk_up S 51 v1.toNatClampNeg v0) Q) ∧ (l5 = 3 → tk_Gs mX8_carried none 271 [.ref 45, .int l1, .int l2, .int l3, .int l4, .int l5] [.int l2, .int l4, .ref 52] (tk_up S 51 v1.toNatClampNeg v0) Q)))))) : tk_Gs mX8_carried none 243 [.ref 45, .int l1, .int l2, .int l3, .int l4, .int l5] [.int v0, .int v1, .ref 51] S Q := by
  show tk_G _ 0 0 _ _ _ _ (tkSH, S, tkRF) _
  refine g_iast (n := 8) dX8_carried_243 rfl t.1 ?_
  have t := t.2
  refine g_aload_n dX8_carried_244 rfl ?_
  refine g_getR (n := 25) dX8_carried_245 fl_X8_28 rfl (by decide) (by decide) rfl rfl ?_
  refine g_iload dX8_carried_248 rfl ?_
  refine g_iload_n dX8_carried_250 rfl ?_
  refine g_if_eq (tgt := 264) dX8_carried_251 (by decide) (fun c1 => ?_) (fun c1 => ?_)
  · have t := t.1 c1
    exact t
  · have t := t.2 c1
    refine g_iload dX8_carried_254 rfl ?_
    refine g_iconst (v := 3) dX8_carried_256 (by decide) ?_
    refine g_icmp_ne (tgt := 264) dX8_carried_257 (by decide) (fun c2 => ?_) (fun c2 => ?_)
    · have t := t.1 c2
      exact t
    · have t := t.2 c2
      refine g_iload_n dX8_carried_260 rfl ?_
      refine g_goto (tgt := 271) dX8_carried_261 (by decide) ?_
      exact t
theorem w_X8_carried_264 {Q : Int32 → tS → Prop} {S : tS} (l1 : Int32) (l2 : Int32) (l3 : Int32) (l4 : Int32) (l5 : Int32) (v0 : Int32) (t : (vp_in l4 8 ∧ tk_Gs mX8_carried none 271 [.ref 45, .int l1, .int l2, .int l3, .int l4, .int l5] [.int (S 52 l4.toNatClampNeg), .int v0, .ref 52] S Q)) : tk_Gs mX8_carried none 264 [.ref 45, .int l1, .int l2, .int l3, .int l4, .int l5] [.int v0, .ref 52] S Q := by
  show tk_G _ 0 0 _ _ _ _ (tkSH, S, tkRF) _
  refine g_aload_n dX8_carried_264 rfl ?_
  refine g_getR (n := 25) dX8_carried_265 fl_X8_28 rfl (by decide) (by decide) rfl rfl ?_
  refine g_iload dX8_carried_268 rfl ?_
  refine g_iald (n := 8) dX8_carried_270 rfl t.1 ?_
  have t := t.2
  exact t
theorem w_X8_carried_271 {Q : Int32 → tS → Prop} {S : tS} (l1 : Int32) (l2 : Int32) (l3 : Int32) (l4 : Int32) (l5 : Int32) (v0 : Int32) (v1 : Int32) (t : (vp_in v1 8 ∧ ((l3 = 0 → tk_Gs mX8_carried none 292 [.ref 45, .int l1, .int l2, .int l3, .int l4, .int l5] [.int l4, .ref 53] (tk_up S 52 v1.toNatClampNeg v0) Q) ∧ (¬ l3 = 0 → ((¬ l5 = 4 → tk_Gs mX8_carried none 292 [.ref 45, .int l1, .int l2, .int l3, .int l4, .int l5] [.int l4, .ref 53] (tk_up S 52 v1.toNatClampNeg v0) Q) ∧ (l5 = 4 → tk_Gs mX8_carried none 299 [.ref 45, .int l1, .int l2, .int l3, .int l4, .int l5] [.int l2, .int l4, .ref 53] (tk_up S 52 v1.toNatClampNeg v0) Q)))))) : tk_Gs mX8_carried none 271 [.ref 45, .int l1, .int l2, .int l3, .int l4, .int l5] [.int v0, .int v1, .ref 52] S Q := by
  show tk_G _ 0 0 _ _ _ _ (tkSH, S, tkRF) _
  refine g_iast (n := 8) dX8_carried_271 rfl t.1 ?_
  have t := t.2
  refine g_aload_n dX8_carried_272 rfl ?_
  refine g_getR (n := 25) dX8_carried_273 fl_X8_31 rfl (by decide) (by decide) rfl rfl ?_
  refine g_iload dX8_carried_276 rfl ?_
  refine g_iload_n dX8_carried_278 rfl ?_
  refine g_if_eq (tgt := 292) dX8_carried_279 (by decide) (fun c1 => ?_) (fun c1 => ?_)
  · have t := t.1 c1
    exact t
  · have t := t.2 c1
    refine g_iload dX8_carried_282 rfl ?_
    refine g_iconst (v := 4) dX8_carried_284 (by decide) ?_
    refine g_icmp_ne (tgt := 292) dX8_carried_285 (by decide) (fun c2 => ?_) (fun c2 => ?_)
    · have t := t.1 c2
      exact t
    · have t := t.2 c2
      refine g_iload_n dX8_carried_288 rfl ?_
      refine g_goto (tgt := 299) dX8_carried_289 (by decide) ?_
      exact t
theorem w_X8_carried_292 {Q : Int32 → tS → Prop} {S : tS} (l1 : Int32) (l2 : Int32) (l3 : Int32) (l4 : Int32) (l5 : Int32) (v0 : Int32) (t : (vp_in l4 8 ∧ tk_Gs mX8_carried none 299 [.ref 45, .int l1, .int l2, .int l3, .int l4, .int l5] [.int (S 53 l4.toNatClampNeg), .int v0, .ref 53] S Q)) : tk_Gs mX8_carried none 292 [.ref 45, .int l1, .int l2, .int l3, .int l4, .int l5] [.int v0, .ref 53] S Q := by
  show tk_G _ 0 0 _ _ _ _ (tkSH, S, tkRF) _
  refine g_aload_n dX8_carried_292 rfl ?_
  refine g_getR (n := 25) dX8_carried_293 fl_X8_31 rfl (by decide) (by decide) rfl rfl ?_
  refine g_iload dX8_carried_296 rfl ?_
  refine g_iald (n := 8) dX8_carried_298 rfl t.1 ?_
  have t := t.2
  exact t
theorem w_X8_carried_299 {Q : Int32 → tS → Prop} {S : tS} (l1 : Int32) (l2 : Int32) (l3 : Int32) (l4 : Int32) (l5 : Int32) (v0 : Int32) (v1 : Int32) (t : (vp_in v1 8 ∧ ((¬ l5 = 0 → ((¬ l5 = 1 → ((¬ l5 = 2 → ((¬ l5 = 3 → (vp_in l4 8 ∧ tk_Gs mX8_carried none 370 [.ref 45, .int l1, .int l2, .int l3, .int l4, .int l5] [.int ((tk_up S 53 v1.toNatClampNeg v0) 53 l4.toNatClampNeg)] (tk_up S 53 v1.toNatClampNeg v0) Q)) ∧ (l5 = 3 → (vp_in l4 8 ∧ tk_Gs mX8_carried none 370 [.ref 45, .int l1, .int l2, .int l3, .int l4, .int l5] [.int (S 52 l4.toNatClampNeg)] (tk_up S 53 v1.toNatClampNeg v0) Q)))) ∧ (l5 = 2 → (vp_in l4 8 ∧ tk_Gs mX8_carried none 370 [.ref 45, .int l1, .int l2, .int l3, .int l4, .int l5] [.int (S 51 l4.toNatClampNeg)] (tk_up S 53 v1.toNatClampNeg v0) Q)))) ∧ (l5 = 1 → (vp_in l4 8 ∧ tk_Gs mX8_carried none 370 [.ref 45, .int l1, .int l2, .int l3, .int l4, .int l5] [.int (S 50 l4.toNatClampNeg)] (tk_up S 53 v1.toNatClampNeg v0) Q)))) ∧ (l5 = 0 → (vp_in l4 8 ∧ tk_Gs mX8_carried none 370 [.ref 45, .int l1, .int l2, .int l3, .int l4, .int l5] [.int (S 49 l4.toNatClampNeg)] (tk_up S 53 v1.toNatClampNeg v0) Q))))) : tk_Gs mX8_carried none 299 [.ref 45, .int l1, .int l2, .int l3, .int l4, .int l5] [.int v0, .int v1, .ref 53] S Q := by
  show tk_G _ 0 0 _ _ _ _ (tkSH, S, tkRF) _
  refine g_iast (n := 8) dX8_carried_299 rfl t.1 ?_
  have t := t.2
  refine g_iload dX8_carried_300 rfl ?_
  refine g_if_ne (tgt := 315) dX8_carried_302 (by decide) (fun c1 => ?_) (fun c1 => ?_)
  · have t := t.1 c1
    refine g_iload dX8_carried_315 rfl ?_
    refine g_iconst (v := 1) dX8_carried_317 (by decide) ?_
    refine g_icmp_ne (tgt := 331) dX8_carried_318 (by decide) (fun c2 => ?_) (fun c2 => ?_)
    · have t := t.1 c2
      refine g_iload dX8_carried_331 rfl ?_
      refine g_iconst (v := 2) dX8_carried_333 (by decide) ?_
      refine g_icmp_ne (tgt := 347) dX8_carried_334 (by decide) (fun c3 => ?_) (fun c3 => ?_)
      · have t := t.1 c3
        refine g_iload dX8_carried_347 rfl ?_
        refine g_iconst (v := 3) dX8_carried_349 (by decide) ?_
        refine g_icmp_ne (tgt := 363) dX8_carried_350 (by decide) (fun c4 => ?_) (fun c4 => ?_)
        · have t := t.1 c4
          refine g_aload_n dX8_carried_363 rfl ?_
          refine g_getR (n := 25) dX8_carried_364 fl_X8_31 rfl (by decide) (by decide) rfl rfl ?_
          refine g_iload dX8_carried_367 rfl ?_
          refine g_iald (n := 8) dX8_carried_369 rfl t.1 ?_
          have t := t.2
          exact t
        · have t := t.2 c4
          refine g_aload_n dX8_carried_353 rfl ?_
          refine g_getR (n := 25) dX8_carried_354 fl_X8_28 rfl (by decide) (by decide) rfl rfl ?_
          refine g_iload dX8_carried_357 rfl ?_
          refine g_iald (n := 8) dX8_carried_359 rfl t.1 ?_
          have t := t.2
          refine g_goto (tgt := 370) dX8_carried_360 (by decide) ?_
          exact t
      · have t := t.2 c3
        refine g_aload_n dX8_carried_337 rfl ?_
        refine g_getR (n := 25) dX8_carried_338 fl_X8_25 rfl (by decide) (by decide) rfl rfl ?_
        refine g_iload dX8_carried_341 rfl ?_
        refine g_iald (n := 8) dX8_carried_343 rfl t.1 ?_
        have t := t.2
        refine g_goto (tgt := 370) dX8_carried_344 (by decide) ?_
        exact t
    · have t := t.2 c2
      refine g_aload_n dX8_carried_321 rfl ?_
      refine g_getR (n := 25) dX8_carried_322 fl_X8_22 rfl (by decide) (by decide) rfl rfl ?_
      refine g_iload dX8_carried_325 rfl ?_
      refine g_iald (n := 8) dX8_carried_327 rfl t.1 ?_
      have t := t.2
      refine g_goto (tgt := 370) dX8_carried_328 (by decide) ?_
      exact t
  · have t := t.2 c1
    refine g_aload_n dX8_carried_305 rfl ?_
    refine g_getR (n := 25) dX8_carried_306 fl_X8_19 rfl (by decide) (by decide) rfl rfl ?_
    refine g_iload dX8_carried_309 rfl ?_
    refine g_iald (n := 8) dX8_carried_311 rfl t.1 ?_
    have t := t.2
    refine g_goto (tgt := 370) dX8_carried_312 (by decide) ?_
    exact t
theorem w_X8_carried_370 {Q : Int32 → tS → Prop} {S : tS} (l1 : Int32) (l2 : Int32) (l3 : Int32) (l4 : Int32) (l5 : Int32) (v0 : Int32) (t : Q v0 S) : tk_Gs mX8_carried none 370 [.ref 45, .int l1, .int l2, .int l3, .int l4, .int l5] [.int v0] S Q := by
  show tk_G _ 0 0 _ _ _ _ (tkSH, S, tkRF) _
  exact g_iret (st := []) dX8_carried_370 (fun e => by cases e) ⟨_, rfl, t⟩
theorem w_X8_carried_386 {Q : Int32 → tS → Prop} {S : tS} (l1 : Int32) (l2 : Int32) (l3 : Int32)  (t : tk_Gs mX8_carried none 390 [.ref 45, .int l1, .int l2, .int l3, .null, .null] [.int (S 45 3), .ref 45] S Q) : tk_Gs mX8_carried none 386 [.ref 45, .int l1, .int l2, .int l3, .null, .null] [.ref 45] S Q := by
  show tk_G _ 0 0 _ _ _ _ (tkSH, S, tkRF) _
  refine g_aload_n dX8_carried_386 rfl ?_
  refine g_getI (n := 25) dX8_carried_387 fl_X8_84 rfl (by decide) (by decide) rfl ?_
  exact t
theorem w_X8_carried_390 {Q : Int32 → tS → Prop} {S : tS} (l1 : Int32) (l2 : Int32) (l3 : Int32) (v0 : Int32) (t : ((l3 = 0 → tk_Gs mX8_carried none 408 [.ref 45, .int l1, .int l2, .int l3, .null, .null] [.ref 45] (tk_up S 45 3 v0) Q) ∧ (¬ l3 = 0 → ((¬ l1 = 89 → tk_Gs mX8_carried none 408 [.ref 45, .int l1, .int l2, .int l3, .null, .null] [.ref 45] (tk_up S 45 3 v0) Q) ∧ (l1 = 89 → tk_Gs mX8_carried none 412 [.ref 45, .int l1, .int l2, .int l3, .null, .null] [.int l2, .ref 45] (tk_up S 45 3 v0) Q))))) : tk_Gs mX8_carried none 390 [.ref 45, .int l1, .int l2, .int l3, .null, .null] [.int v0, .ref 45] S Q := by
  show tk_G _ 0 0 _ _ _ _ (tkSH, S, tkRF) _
  refine g_putI (n := 25) dX8_carried_390 fl_X8_84 rfl (by decide) (by decide) rfl rfl rfl ?_
  refine g_aload_n dX8_carried_393 rfl ?_
  refine g_iload_n dX8_carried_394 rfl ?_
  refine g_if_eq (tgt := 408) dX8_carried_395 (by decide) (fun c1 => ?_) (fun c1 => ?_)
  · have t := t.1 c1
    exact t
  · have t := t.2 c1
    refine g_iload_n dX8_carried_398 rfl ?_
    refine g_bipush (v := 89) dX8_carried_399 (by decide) ?_
    refine g_icmp_ne (tgt := 408) dX8_carried_401 (by decide) (fun c2 => ?_) (fun c2 => ?_)
    · have t := t.1 c2
      exact t
    · have t := t.2 c2
      refine g_iload_n dX8_carried_404 rfl ?_
      refine g_goto (tgt := 412) dX8_carried_405 (by decide) ?_
      exact t
theorem w_X8_carried_408 {Q : Int32 → tS → Prop} {S : tS} (l1 : Int32) (l2 : Int32) (l3 : Int32)  (t : tk_Gs mX8_carried none 412 [.ref 45, .int l1, .int l2, .int l3, .null, .null] [.int (S 45 9), .ref 45] S Q) : tk_Gs mX8_carried none 408 [.ref 45, .int l1, .int l2, .int l3, .null, .null] [.ref 45] S Q := by
  show tk_G _ 0 0 _ _ _ _ (tkSH, S, tkRF) _
  refine g_aload_n dX8_carried_408 rfl ?_
  refine g_getI (n := 25) dX8_carried_409 fl_X8_70 rfl (by decide) (by decide) rfl ?_
  exact t
theorem w_X8_carried_412 {Q : Int32 → tS → Prop} {S : tS} (l1 : Int32) (l2 : Int32) (l3 : Int32) (v0 : Int32) (t : ((l3 = 0 → tk_Gs mX8_carried none 430 [.ref 45, .int l1, .int l2, .int l3, .null, .null] [.ref 45] (tk_up S 45 9 v0) Q) ∧ (¬ l3 = 0 → ((¬ l1 = 90 → tk_Gs mX8_carried none 430 [.ref 45, .int l1, .int l2, .int l3, .null, .null] [.ref 45] (tk_up S 45 9 v0) Q) ∧ (l1 = 90 → tk_Gs mX8_carried none 434 [.ref 45, .int l1, .int l2, .int l3, .null, .null] [.int l2, .ref 45] (tk_up S 45 9 v0) Q))))) : tk_Gs mX8_carried none 412 [.ref 45, .int l1, .int l2, .int l3, .null, .null] [.int v0, .ref 45] S Q := by
  show tk_G _ 0 0 _ _ _ _ (tkSH, S, tkRF) _
  refine g_putI (n := 25) dX8_carried_412 fl_X8_70 rfl (by decide) (by decide) rfl rfl rfl ?_
  refine g_aload_n dX8_carried_415 rfl ?_
  refine g_iload_n dX8_carried_416 rfl ?_
  refine g_if_eq (tgt := 430) dX8_carried_417 (by decide) (fun c1 => ?_) (fun c1 => ?_)
  · have t := t.1 c1
    exact t
  · have t := t.2 c1
    refine g_iload_n dX8_carried_420 rfl ?_
    refine g_bipush (v := 90) dX8_carried_421 (by decide) ?_
    refine g_icmp_ne (tgt := 430) dX8_carried_423 (by decide) (fun c2 => ?_) (fun c2 => ?_)
    · have t := t.1 c2
      exact t
    · have t := t.2 c2
      refine g_iload_n dX8_carried_426 rfl ?_
      refine g_goto (tgt := 434) dX8_carried_427 (by decide) ?_
      exact t
theorem w_X8_carried_430 {Q : Int32 → tS → Prop} {S : tS} (l1 : Int32) (l2 : Int32) (l3 : Int32)  (t : tk_Gs mX8_carried none 434 [.ref 45, .int l1, .int l2, .int l3, .null, .null] [.int (S 45 10), .ref 45] S Q) : tk_Gs mX8_carried none 430 [.ref 45, .int l1, .int l2, .int l3, .null, .null] [.ref 45] S Q := by
  show tk_G _ 0 0 _ _ _ _ (tkSH, S, tkRF) _
  refine g_aload_n dX8_carried_430 rfl ?_
  refine g_getI (n := 25) dX8_carried_431 fl_X8_98 rfl (by decide) (by decide) rfl ?_
  exact t
theorem w_X8_carried_434 {Q : Int32 → tS → Prop} {S : tS} (l1 : Int32) (l2 : Int32) (l3 : Int32) (v0 : Int32) (t : ((¬ l1 = 88 → ((¬ l1 = 89 → tk_Gs mX8_carried none 467 [.ref 45, .int l1, .int l2, .int l3, .null, .null] [.int v0] (tk_up S 45 10 v0) Q) ∧ (l1 = 89 → tk_Gs mX8_carried none 467 [.ref 45, .int l1, .int l2, .int l3, .null, .null] [.int (S 45 9)] (tk_up S 45 10 v0) Q))) ∧ (l1 = 88 → tk_Gs mX8_carried none 467 [.ref 45, .int l1, .int l2, .int l3, .null, .null] [.int (S 45 3)] (tk_up S 45 10 v0) Q))) : tk_Gs mX8_carried none 434 [.ref 45, .int l1, .int l2, .int l3, .null, .null] [.int v0, .ref 45] S Q := by
  show tk_G _ 0 0 _ _ _ _ (tkSH, S, tkRF) _
  refine g_putI (n := 25) dX8_carried_434 fl_X8_98 rfl (by decide) (by decide) rfl rfl rfl ?_
  refine g_iload_n dX8_carried_437 rfl ?_
  refine g_bipush (v := 88) dX8_carried_438 (by decide) ?_
  refine g_icmp_ne (tgt := 450) dX8_carried_440 (by decide) (fun c1 => ?_) (fun c1 => ?_)
  · have t := t.1 c1
    refine g_iload_n dX8_carried_450 rfl ?_
    refine g_bipush (v := 89) dX8_carried_451 (by decide) ?_
    refine g_icmp_ne (tgt := 463) dX8_carried_453 (by decide) (fun c2 => ?_) (fun c2 => ?_)
    · have t := t.1 c2
      refine g_aload_n dX8_carried_463 rfl ?_
      refine g_getI (n := 25) dX8_carried_464 fl_X8_98 rfl (by decide) (by decide) rfl ?_
      exact t
    · have t := t.2 c2
      refine g_aload_n dX8_carried_456 rfl ?_
      refine g_getI (n := 25) dX8_carried_457 fl_X8_70 rfl (by decide) (by decide) rfl ?_
      refine g_goto (tgt := 467) dX8_carried_460 (by decide) ?_
      exact t
  · have t := t.2 c1
    refine g_aload_n dX8_carried_443 rfl ?_
    refine g_getI (n := 25) dX8_carried_444 fl_X8_84 rfl (by decide) (by decide) rfl ?_
    refine g_goto (tgt := 467) dX8_carried_447 (by decide) ?_
    exact t
theorem w_X8_carried_467 {Q : Int32 → tS → Prop} {S : tS} (l1 : Int32) (l2 : Int32) (l3 : Int32) (v0 : Int32) (t : Q v0 S) : tk_Gs mX8_carried none 467 [.ref 45, .int l1, .int l2, .int l3, .null, .null] [.int v0] S Q := by
  show tk_G _ 0 0 _ _ _ _ (tkSH, S, tkRF) _
  exact g_iret (st := []) dX8_carried_467 (fun e => by cases e) ⟨_, rfl, t⟩
theorem w_X8_image {Q : Int32 → tS → Prop} {S : tS}  (t : tk_Gs mX8_image none 2 [.ref 45, .int 0] [] S (tk_okQ mX8_image Q)) : tk_Ms mX8_image [.ref 45] S Q := by
  refine tk_Ms.of (ls := [.ref 45, .null]) (by decide) (by first | exact Or.inl rfl | exact Or.inr (Or.inl rfl) | exact Or.inr (Or.inr rfl)) (Nat.le_of_ble_eq_true rfl) rfl ?_
  refine g_iconst (v := 0) dX8_image_0 (by decide) ?_
  refine g_istore_n (ls' := [.ref 45, .int 0]) dX8_image_1 rfl (by decide) rfl ?_
  exact t
theorem w_X8_image_2 {Q : Int32 → tS → Prop} {S : tS} (l1 : Int32)  (t : ((90 < l1 → Q 1 (tk_up S 45 17 1)) ∧ (¬ 90 < l1 → (tk_Ms mX8_carried [.ref 45, .int l1, .int 0, .int 0] S (fun x2 S3 => (vp_in l1 91 ∧ tk_Gs mX8_image none 2 [.ref 45, .int (l1 + 1)] [] (tk_up S3 57 l1.toNatClampNeg x2) Q)))))) : tk_Gs mX8_image none 2 [.ref 45, .int l1] [] S Q := by
  show tk_G _ 0 0 _ _ _ _ (tkSH, S, tkRF) _
  refine g_iload_n dX8_image_2 rfl ?_
  refine g_bipush (v := 90) dX8_image_3 (by decide) ?_
  refine g_icmp_gt (tgt := 27) dX8_image_5 (by decide) (fun c1 => ?_) (fun c1 => ?_)
  · have t := t.1 c1
    refine g_aload_n dX8_image_27 rfl ?_
    refine g_iconst (v := 1) dX8_image_28 (by decide) ?_
    refine g_putI (n := 25) dX8_image_29 fl_X8_226 rfl (by decide) (by decide) rfl rfl rfl ?_
    refine g_iconst (v := 1) dX8_image_32 (by decide) ?_
    exact g_iret (st := []) dX8_image_33 (fun e => by cases e) ⟨_, rfl, t⟩
  · have t := t.2 c1
    refine g_aload_n dX8_image_8 rfl ?_
    refine g_getR (n := 25) dX8_image_9 fl_X8_43 rfl (by decide) (by decide) rfl rfl ?_
    refine g_iload_n dX8_image_12 rfl ?_
    refine g_aload_n dX8_image_13 rfl ?_
    refine g_iload_n dX8_image_14 rfl ?_
    refine g_iconst (v := 0) dX8_image_15 (by decide) ?_
    refine g_iconst (v := 0) dX8_image_16 (by decide) ?_
    refine s_V3i dX8_image_17 vm_X8_carried ml_X8_222 rfl rfl (by decide) (Nat.le_of_ble_eq_true rfl) rfl (tk_Ms.mono t (fun x2 S3 t => ?_))
    refine g_iast (n := 91) dX8_image_20 rfl t.1 ?_
    have t := t.2
    refine g_iinc (v := l1 + 1) (ls' := [.ref 45, .int (l1 + 1)]) dX8_image_21 rfl rfl (by decide) rfl rfl ?_
    refine g_goto (tgt := 2) dX8_image_24 (by decide) ?_
    exact t
theorem w_X8_restore {Q : Int32 → tS → Prop} {S : tS}  (t : ((¬ (S 45 17) = 0 → tk_Gs mX8_restore none 12 [.ref 45, .int 0] [] S (tk_okQ mX8_restore Q)) ∧ ((S 45 17) = 0 → (tk_okQ mX8_restore Q) (-4) S))) : tk_Ms mX8_restore [.ref 45] S Q := by
  refine tk_Ms.of (ls := [.ref 45, .null]) (by decide) (by first | exact Or.inl rfl | exact Or.inr (Or.inl rfl) | exact Or.inr (Or.inr rfl)) (Nat.le_of_ble_eq_true rfl) rfl ?_
  refine g_aload_n dX8_restore_0 rfl ?_
  refine g_getI (n := 25) dX8_restore_1 fl_X8_226 rfl (by decide) (by decide) rfl ?_
  refine g_if_ne (tgt := 10) dX8_restore_4 (by decide) (fun c1 => ?_) (fun c1 => ?_)
  · have t := t.1 c1
    refine g_iconst (v := 0) dX8_restore_10 (by decide) ?_
    refine g_istore_n (ls' := [.ref 45, .int 0]) dX8_restore_11 rfl (by decide) rfl ?_
    exact t
  · have t := t.2 c1
    refine g_bipush (v := (-4)) dX8_restore_7 (by decide) ?_
    exact g_iret (st := []) dX8_restore_9 (fun e => by cases e) ⟨_, rfl, t⟩
theorem w_X8_restore_12 {Q : Int32 → tS → Prop} {S : tS} (l1 : Int32)  (t : ((90 < l1 → Q 1 S) ∧ (¬ 90 < l1 → (vp_in l1 91 ∧ (tk_Ms mX8_carried [.ref 45, .int l1, .int (S 57 l1.toNatClampNeg), .int 1] S (fun x2 S3 => tk_Gs mX8_restore none 12 [.ref 45, .int (l1 + 1)] [] S3 Q)))))) : tk_Gs mX8_restore none 12 [.ref 45, .int l1] [] S Q := by
  show tk_G _ 0 0 _ _ _ _ (tkSH, S, tkRF) _
  refine g_iload_n dX8_restore_12 rfl ?_
  refine g_bipush (v := 90) dX8_restore_13 (by decide) ?_
  refine g_icmp_gt (tgt := 37) dX8_restore_15 (by decide) (fun c1 => ?_) (fun c1 => ?_)
  · have t := t.1 c1
    refine g_iconst (v := 1) dX8_restore_37 (by decide) ?_
    exact g_iret (st := []) dX8_restore_38 (fun e => by cases e) ⟨_, rfl, t⟩
  · have t := t.2 c1
    refine g_aload_n dX8_restore_18 rfl ?_
    refine g_iload_n dX8_restore_19 rfl ?_
    refine g_aload_n dX8_restore_20 rfl ?_
    refine g_getR (n := 25) dX8_restore_21 fl_X8_43 rfl (by decide) (by decide) rfl rfl ?_
    refine g_iload_n dX8_restore_24 rfl ?_
    refine g_iald (n := 91) dX8_restore_25 rfl t.1 ?_
    have t := t.2
    refine g_iconst (v := 1) dX8_restore_26 (by decide) ?_
    refine s_V3i dX8_restore_27 vm_X8_carried ml_X8_222 rfl rfl (by decide) (Nat.le_of_ble_eq_true rfl) rfl (tk_Ms.mono t (fun x2 S3 t => ?_))
    refine g_pop dX8_restore_30 rfl ?_
    refine g_iinc (v := l1 + 1) (ls' := [.ref 45, .int (l1 + 1)]) dX8_restore_31 rfl rfl (by decide) rfl rfl ?_
    refine g_goto (tgt := 12) dX8_restore_34 (by decide) ?_
    exact t
theorem w_X8_isSheet {Q : Int32 → tS → Prop} {S : tS} (p1 : Int32) (p2 : Int32) (t : (tk_Ms mX8_in [.long ((p1 : Int32).toInt64), .long (0 : Int64), .long (3 : Int64)] S (fun x1 S2 => ((x1 = 0 → (tk_okQ mX8_isSheet Q) 0 S2) ∧ (¬ x1 = 0 → (tk_Ms mX8_in [.long ((p2 : Int32).toInt64), .long (0 : Int64), .long (2 : Int64)] S2 (fun x4 S5 => ((x4 = 0 → (tk_okQ mX8_isSheet Q) 0 S5) ∧ (¬ x4 = 0 → (tk_okQ mX8_isSheet Q) 1 S5))))))))) : tk_Ms mX8_isSheet [.int p1, .int p2] S Q := by
  refine tk_Ms.of (ls := [.int p1, .int p2]) (by decide) (by first | exact Or.inl rfl | exact Or.inr (Or.inl rfl) | exact Or.inr (Or.inr rfl)) (Nat.le_of_ble_eq_true rfl) rfl ?_
  refine g_iload_n dX8_isSheet_0 rfl ?_
  refine g_i2l dX8_isSheet_1 ?_
  refine g_lconst (v := 0) dX8_isSheet_2 (by decide) ?_
  refine g_ldc2 (v := 3) dX8_isSheet_3 kl_X8_87 ?_
  refine s_S3i dX8_isSheet_6 sm_X8_in ml_X8_66 rfl (by decide) (Nat.le_of_ble_eq_true rfl) rfl (tk_Ms.mono t (fun x1 S2 t => ?_))
  refine g_if_eq (tgt := 28) dX8_isSheet_9 (by decide) (fun c3 => ?_) (fun c3 => ?_)
  · have t := t.1 c3
    refine g_iconst (v := 0) dX8_isSheet_28 (by decide) ?_
    exact g_iret (st := []) dX8_isSheet_29 (fun e => by cases e) ⟨_, rfl, t⟩
  · have t := t.2 c3
    refine g_iload_n dX8_isSheet_12 rfl ?_
    refine g_i2l dX8_isSheet_13 ?_
    refine g_lconst (v := 0) dX8_isSheet_14 (by decide) ?_
    refine g_ldc2 (v := 2) dX8_isSheet_15 kl_X8_92 ?_
    refine s_S3i dX8_isSheet_18 sm_X8_in ml_X8_66 rfl (by decide) (Nat.le_of_ble_eq_true rfl) rfl (tk_Ms.mono t (fun x4 S5 t => ?_))
    refine g_if_eq (tgt := 28) dX8_isSheet_21 (by decide) (fun c6 => ?_) (fun c6 => ?_)
    · have t := t.1 c6
      refine g_iconst (v := 0) dX8_isSheet_28 (by decide) ?_
      exact g_iret (st := []) dX8_isSheet_29 (fun e => by cases e) ⟨_, rfl, t⟩
    · have t := t.2 c6
      refine g_iconst (v := 1) dX8_isSheet_24 (by decide) ?_
      refine g_goto (tgt := 29) dX8_isSheet_25 (by decide) ?_
      exact g_iret (st := []) dX8_isSheet_29 (fun e => by cases e) ⟨_, rfl, t⟩
theorem w_X8_asLane {Q : Int32 → tS → Prop} {S : tS} (p1 : Int32) (p2 : Int32) (t : ((¬ p1 = 0 → ((¬ p1 = 1 → (tk_okQ mX8_asLane Q) p2 S) ∧ (p1 = 1 → (tk_okQ mX8_asLane Q) ((p2 <<< (16 &&& 31)) >>> (16 &&& 31)) S))) ∧ (p1 = 0 → (tk_okQ mX8_asLane Q) ((p2 <<< (24 &&& 31)) >>> (24 &&& 31)) S))) : tk_Ms mX8_asLane [.int p1, .int p2] S Q := by
  refine tk_Ms.of (ls := [.int p1, .int p2]) (by decide) (by first | exact Or.inl rfl | exact Or.inr (Or.inl rfl) | exact Or.inr (Or.inr rfl)) (Nat.le_of_ble_eq_true rfl) rfl ?_
  refine g_iload_n dX8_asLane_0 rfl ?_
  refine g_if_ne (tgt := 14) dX8_asLane_1 (by decide) (fun c1 => ?_) (fun c1 => ?_)
  · have t := t.1 c1
    refine g_iload_n dX8_asLane_14 rfl ?_
    refine g_iconst (v := 1) dX8_asLane_15 (by decide) ?_
    refine g_icmp_ne (tgt := 29) dX8_asLane_16 (by decide) (fun c2 => ?_) (fun c2 => ?_)
    · have t := t.1 c2
      refine g_iload_n dX8_asLane_29 rfl ?_
      exact g_iret (st := []) dX8_asLane_30 (fun e => by cases e) ⟨_, rfl, t⟩
    · have t := t.2 c2
      refine g_iload_n dX8_asLane_19 rfl ?_
      refine g_bipush (v := 16) dX8_asLane_20 (by decide) ?_
      refine g_ishl dX8_asLane_22 ?_
      refine g_bipush (v := 16) dX8_asLane_23 (by decide) ?_
      refine g_ishr dX8_asLane_25 ?_
      refine g_goto (tgt := 30) dX8_asLane_26 (by decide) ?_
      exact g_iret (st := []) dX8_asLane_30 (fun e => by cases e) ⟨_, rfl, t⟩
  · have t := t.2 c1
    refine g_iload_n dX8_asLane_4 rfl ?_
    refine g_bipush (v := 24) dX8_asLane_5 (by decide) ?_
    refine g_ishl dX8_asLane_7 ?_
    refine g_bipush (v := 24) dX8_asLane_8 (by decide) ?_
    refine g_ishr dX8_asLane_10 ?_
    refine g_goto (tgt := 30) dX8_asLane_11 (by decide) ?_
    exact g_iret (st := []) dX8_asLane_30 (fun e => by cases e) ⟨_, rfl, t⟩
theorem w_X8_sheet {Q : Int32 → tS → Prop} {S : tS} (p1 : Int32) (p2 : Int32) (p3 : Int32) (t : (tk_Ms mX8_isSheet [.int p1, .int p2] S (fun x1 S2 => ((x1 = 0 → (tk_okQ mX8_sheet Q) (-1) S2) ∧ (¬ x1 = 0 → ((p3 ≤ 24 → ((0 ≤ p3 → (vp_in p1 4 ∧ (vp_in p1 4 ∧ tk_Gs mX8_sheet none 40 [.ref 45, .int p1, .int p2, .int p3, .int 0] [] (tk_up (tk_up S2 58 p1.toNatClampNeg p2) 59 p1.toNatClampNeg p3) (tk_okQ mX8_sheet Q)))) ∧ (¬ 0 ≤ p3 → (tk_okQ mX8_sheet Q) (-14) S2))) ∧ (¬ p3 ≤ 24 → (tk_okQ mX8_sheet Q) (-1) S2))))))) : tk_Ms mX8_sheet [.ref 45, .int p1, .int p2, .int p3] S Q := by
  refine tk_Ms.of (ls := [.ref 45, .int p1, .int p2, .int p3, .null]) (by decide) (by first | exact Or.inl rfl | exact Or.inr (Or.inl rfl) | exact Or.inr (Or.inr rfl)) (Nat.le_of_ble_eq_true rfl) rfl ?_
  refine g_iload_n dX8_sheet_0 rfl ?_
  refine g_iload_n dX8_sheet_1 rfl ?_
  refine s_S2i dX8_sheet_2 sm_X8_isSheet ml_X8_230 rfl (by decide) (Nat.le_of_ble_eq_true rfl) rfl (tk_Ms.mono t (fun x1 S2 t => ?_))
  refine g_if_eq (tgt := 14) dX8_sheet_5 (by decide) (fun c3 => ?_) (fun c3 => ?_)
  · have t := t.1 c3
    refine g_iconst (v := (-1)) dX8_sheet_14 (by decide) ?_
    exact g_iret (st := []) dX8_sheet_15 (fun e => by cases e) ⟨_, rfl, t⟩
  · have t := t.2 c3
    refine g_iload_n dX8_sheet_8 rfl ?_
    refine g_bipush (v := 24) dX8_sheet_9 (by decide) ?_
    refine g_icmp_le (tgt := 16) dX8_sheet_11 (by decide) (fun c4 => ?_) (fun c4 => ?_)
    · have t := t.1 c4
      refine g_iload_n dX8_sheet_16 rfl ?_
      refine g_if_ge (tgt := 23) dX8_sheet_17 (by decide) (fun c5 => ?_) (fun c5 => ?_)
      · have t := t.1 c5
        refine g_aload_n dX8_sheet_23 rfl ?_
        refine g_getR (n := 25) dX8_sheet_24 fl_X8_46 rfl (by decide) (by decide) rfl rfl ?_
        refine g_iload_n dX8_sheet_27 rfl ?_
        refine g_iload_n dX8_sheet_28 rfl ?_
        refine g_iast (n := 4) dX8_sheet_29 rfl t.1 ?_
        have t := t.2
        refine g_aload_n dX8_sheet_30 rfl ?_
        refine g_getR (n := 25) dX8_sheet_31 fl_X8_49 rfl (by decide) (by decide) rfl rfl ?_
        refine g_iload_n dX8_sheet_34 rfl ?_
        refine g_iload_n dX8_sheet_35 rfl ?_
        refine g_iast (n := 4) dX8_sheet_36 rfl t.1 ?_
        have t := t.2
        refine g_iconst (v := 0) dX8_sheet_37 (by decide) ?_
        refine g_istore (ls' := [.ref 45, .int p1, .int p2, .int p3, .int 0]) dX8_sheet_38 rfl (by decide) rfl ?_
        exact t
      · have t := t.2 c5
        refine g_bipush (v := (-14)) dX8_sheet_20 (by decide) ?_
        exact g_iret (st := []) dX8_sheet_22 (fun e => by cases e) ⟨_, rfl, t⟩
    · have t := t.2 c4
      refine g_iconst (v := (-1)) dX8_sheet_14 (by decide) ?_
      exact g_iret (st := []) dX8_sheet_15 (fun e => by cases e) ⟨_, rfl, t⟩
theorem w_X8_sheet_40 {Q : Int32 → tS → Prop} {S : tS} (l1 : Int32) (l2 : Int32) (l3 : Int32) (l4 : Int32)  (t : ((24 ≤ l4 → Q l3 S) ∧ (¬ 24 ≤ l4 → (vp_in ((24 * l1) + l4) 96 ∧ tk_Gs mX8_sheet none 40 [.ref 45, .int l1, .int l2, .int l3, .int (l4 + 1)] [] (tk_up S 60 ((24 * l1) + l4).toNatClampNeg 0) Q)))) : tk_Gs mX8_sheet none 40 [.ref 45, .int l1, .int l2, .int l3, .int l4] [] S Q := by
  show tk_G _ 0 0 _ _ _ _ (tkSH, S, tkRF) _
  refine g_iload dX8_sheet_40 rfl ?_
  refine g_bipush (v := 24) dX8_sheet_42 (by decide) ?_
  refine g_icmp_ge (tgt := 66) dX8_sheet_44 (by decide) (fun c1 => ?_) (fun c1 => ?_)
  · have t := t.1 c1
    refine g_iload_n dX8_sheet_66 rfl ?_
    exact g_iret (st := []) dX8_sheet_67 (fun e => by cases e) ⟨_, rfl, t⟩
  · have t := t.2 c1
    refine g_aload_n dX8_sheet_47 rfl ?_
    refine g_getR (n := 25) dX8_sheet_48 fl_X8_52 rfl (by decide) (by decide) rfl rfl ?_
    refine g_bipush (v := 24) dX8_sheet_51 (by decide) ?_
    refine g_iload_n dX8_sheet_53 rfl ?_
    refine g_imul dX8_sheet_54 ?_
    refine g_iload dX8_sheet_55 rfl ?_
    refine g_iadd dX8_sheet_57 ?_
    refine g_iconst (v := 0) dX8_sheet_58 (by decide) ?_
    refine g_iast (n := 96) dX8_sheet_59 rfl t.1 ?_
    have t := t.2
    refine g_iinc (v := l4 + 1) (ls' := [.ref 45, .int l1, .int l2, .int l3, .int (l4 + 1)]) dX8_sheet_60 rfl rfl (by decide) rfl rfl ?_
    refine g_goto (tgt := 40) dX8_sheet_63 (by decide) ?_
    exact t
theorem w_X8_drop {Q : Int32 → tS → Prop} {S : tS} (p1 : Int32) (t : (tk_Ms mX8_in [.long ((p1 : Int32).toInt64), .long (0 : Int64), .long (3 : Int64)] S (fun x1 S2 => ((¬ x1 = 0 → (vp_in p1 4 ∧ ((0 ≤ (S2 58 p1.toNatClampNeg) → (vp_in p1 4 ∧ (vp_in p1 4 ∧ (tk_okQ mX8_drop Q) (S2 59 p1.toNatClampNeg) (tk_up S2 58 p1.toNatClampNeg (-1))))) ∧ (¬ 0 ≤ (S2 58 p1.toNatClampNeg) → (tk_okQ mX8_drop Q) (-11) S2)))) ∧ (x1 = 0 → (tk_okQ mX8_drop Q) (-1) S2))))) : tk_Ms mX8_drop [.ref 45, .int p1] S Q := by
  refine tk_Ms.of (ls := [.ref 45, .int p1]) (by decide) (by first | exact Or.inl rfl | exact Or.inr (Or.inl rfl) | exact Or.inr (Or.inr rfl)) (Nat.le_of_ble_eq_true rfl) rfl ?_
  refine g_iload_n dX8_drop_0 rfl ?_
  refine g_i2l dX8_drop_1 ?_
  refine g_lconst (v := 0) dX8_drop_2 (by decide) ?_
  refine g_ldc2 (v := 3) dX8_drop_3 kl_X8_87 ?_
  refine s_S3i dX8_drop_6 sm_X8_in ml_X8_66 rfl (by decide) (Nat.le_of_ble_eq_true rfl) rfl (tk_Ms.mono t (fun x1 S2 t => ?_))
  refine g_if_ne (tgt := 14) dX8_drop_9 (by decide) (fun c3 => ?_) (fun c3 => ?_)
  · have t := t.1 c3
    refine g_aload_n dX8_drop_14 rfl ?_
    refine g_getR (n := 25) dX8_drop_15 fl_X8_46 rfl (by decide) (by decide) rfl rfl ?_
    refine g_iload_n dX8_drop_18 rfl ?_
    refine g_iald (n := 4) dX8_drop_19 rfl t.1 ?_
    have t := t.2
    refine g_if_ge (tgt := 26) dX8_drop_20 (by decide) (fun c4 => ?_) (fun c4 => ?_)
    · have t := t.1 c4
      refine g_aload_n dX8_drop_26 rfl ?_
      refine g_getR (n := 25) dX8_drop_27 fl_X8_46 rfl (by decide) (by decide) rfl rfl ?_
      refine g_iload_n dX8_drop_30 rfl ?_
      refine g_iconst (v := (-1)) dX8_drop_31 (by decide) ?_
      refine g_iast (n := 4) dX8_drop_32 rfl t.1 ?_
      have t := t.2
      refine g_aload_n dX8_drop_33 rfl ?_
      refine g_getR (n := 25) dX8_drop_34 fl_X8_49 rfl (by decide) (by decide) rfl rfl ?_
      refine g_iload_n dX8_drop_37 rfl ?_
      refine g_iald (n := 4) dX8_drop_38 rfl t.1 ?_
      have t := t.2
      exact g_iret (st := []) dX8_drop_39 (fun e => by cases e) ⟨_, rfl, t⟩
    · have t := t.2 c4
      refine g_bipush (v := (-11)) dX8_drop_23 (by decide) ?_
      exact g_iret (st := []) dX8_drop_25 (fun e => by cases e) ⟨_, rfl, t⟩
  · have t := t.2 c3
    refine g_iconst (v := (-1)) dX8_drop_12 (by decide) ?_
    exact g_iret (st := []) dX8_drop_13 (fun e => by cases e) ⟨_, rfl, t⟩
theorem w_X8_lacksRow {Q : Int32 → tS → Prop} {S : tS} (p1 : Int32) (p2 : Int32) (p3 : Int32) (p4 : Int32) (t : (vp_in p1 4 ∧ (((S 58 p1.toNatClampNeg) = p2 → (vp_in p1 4 ∧ (tk_Ms mX8_in [.long ((p3 : Int32).toInt64), .long (0 : Int64), .long (((S 59 p1.toNatClampNeg) - p4 : Int32).toInt64)] S (fun x2 S3 => ((x2 = 0 → (tk_okQ mX8_lacksRow Q) (-13) S3) ∧ (¬ x2 = 0 → (tk_okQ mX8_lacksRow Q) 0 S3)))))) ∧ (¬ (S 58 p1.toNatClampNeg) = p2 → (vp_in p1 4 ∧ ((0 ≤ (S 58 p1.toNatClampNeg) → (tk_okQ mX8_lacksRow Q) (-12) S) ∧ (¬ 0 ≤ (S 58 p1.toNatClampNeg) → (tk_okQ mX8_lacksRow Q) (-11) S))))))) : tk_Ms mX8_lacksRow [.ref 45, .int p1, .int p2, .int p3, .int p4] S Q := by
  refine tk_Ms.of (ls := [.ref 45, .int p1, .int p2, .int p3, .int p4]) (by decide) (by first | exact Or.inl rfl | exact Or.inr (Or.inl rfl) | exact Or.inr (Or.inr rfl)) (Nat.le_of_ble_eq_true rfl) rfl ?_
  refine g_aload_n dX8_lacksRow_0 rfl ?_
  refine g_getR (n := 25) dX8_lacksRow_1 fl_X8_46 rfl (by decide) (by decide) rfl rfl ?_
  refine g_iload_n dX8_lacksRow_4 rfl ?_
  refine g_iald (n := 4) dX8_lacksRow_5 rfl t.1 ?_
  have t := t.2
  refine g_iload_n dX8_lacksRow_6 rfl ?_
  refine g_icmp_eq (tgt := 27) dX8_lacksRow_7 (by decide) (fun c1 => ?_) (fun c1 => ?_)
  · have t := t.1 c1
    refine g_iload_n dX8_lacksRow_27 rfl ?_
    refine g_i2l dX8_lacksRow_28 ?_
    refine g_lconst (v := 0) dX8_lacksRow_29 (by decide) ?_
    refine g_aload_n dX8_lacksRow_30 rfl ?_
    refine g_getR (n := 25) dX8_lacksRow_31 fl_X8_49 rfl (by decide) (by decide) rfl rfl ?_
    refine g_iload_n dX8_lacksRow_34 rfl ?_
    refine g_iald (n := 4) dX8_lacksRow_35 rfl t.1 ?_
    have t := t.2
    refine g_iload dX8_lacksRow_36 rfl ?_
    refine g_isub dX8_lacksRow_38 ?_
    refine g_i2l dX8_lacksRow_39 ?_
    refine s_S3i dX8_lacksRow_40 sm_X8_in ml_X8_66 rfl (by decide) (Nat.le_of_ble_eq_true rfl) rfl (tk_Ms.mono t (fun x2 S3 t => ?_))
    refine g_if_eq (tgt := 50) dX8_lacksRow_43 (by decide) (fun c4 => ?_) (fun c4 => ?_)
    · have t := t.1 c4
      refine g_bipush (v := (-13)) dX8_lacksRow_50 (by decide) ?_
      exact g_iret (st := []) dX8_lacksRow_52 (fun e => by cases e) ⟨_, rfl, t⟩
    · have t := t.2 c4
      refine g_iconst (v := 0) dX8_lacksRow_46 (by decide) ?_
      refine g_goto (tgt := 52) dX8_lacksRow_47 (by decide) ?_
      exact g_iret (st := []) dX8_lacksRow_52 (fun e => by cases e) ⟨_, rfl, t⟩
  · have t := t.2 c1
    refine g_aload_n dX8_lacksRow_10 rfl ?_
    refine g_getR (n := 25) dX8_lacksRow_11 fl_X8_46 rfl (by decide) (by decide) rfl rfl ?_
    refine g_iload_n dX8_lacksRow_14 rfl ?_
    refine g_iald (n := 4) dX8_lacksRow_15 rfl t.1 ?_
    have t := t.2
    refine g_if_ge (tgt := 24) dX8_lacksRow_16 (by decide) (fun c5 => ?_) (fun c5 => ?_)
    · have t := t.1 c5
      refine g_bipush (v := (-12)) dX8_lacksRow_24 (by decide) ?_
      exact g_iret (st := []) dX8_lacksRow_26 (fun e => by cases e) ⟨_, rfl, t⟩
    · have t := t.2 c5
      refine g_bipush (v := (-11)) dX8_lacksRow_19 (by decide) ?_
      refine g_goto (tgt := 26) dX8_lacksRow_21 (by decide) ?_
      exact g_iret (st := []) dX8_lacksRow_26 (fun e => by cases e) ⟨_, rfl, t⟩
theorem w_X8_item {Q : Int32 → tS → Prop} {S : tS} (p1 : Int32) (p2 : Int32) (p3 : Int32) (p4 : Int32) (t : (tk_Ms mX8_isSheet [.int p1, .int p2] S (fun x1 S2 => ((¬ x1 = 0 → (tk_Ms mX8_lacksRow [.ref 45, .int p1, .int p2, .int p3, .int 1] S2 (fun x4 S5 => ((0 ≤ x4 → (tk_Ms mX8_asLane [.int p2, .int p4] S5 (fun x7 S8 => (vp_in ((24 * p1) + p3) 96 ∧ (tk_okQ mX8_item Q) 1 (tk_up S8 60 ((24 * p1) + p3).toNatClampNeg x7))))) ∧ (¬ 0 ≤ x4 → (tk_okQ mX8_item Q) x4 S5))))) ∧ (x1 = 0 → (tk_okQ mX8_item Q) (-1) S2))))) : tk_Ms mX8_item [.ref 45, .int p1, .int p2, .int p3, .int p4] S Q := by
  refine tk_Ms.of (ls := [.ref 45, .int p1, .int p2, .int p3, .int p4, .null]) (by decide) (by first | exact Or.inl rfl | exact Or.inr (Or.inl rfl) | exact Or.inr (Or.inr rfl)) (Nat.le_of_ble_eq_true rfl) rfl ?_
  refine g_iload_n dX8_item_0 rfl ?_
  refine g_iload_n dX8_item_1 rfl ?_
  refine s_S2i dX8_item_2 sm_X8_isSheet ml_X8_230 rfl (by decide) (Nat.le_of_ble_eq_true rfl) rfl (tk_Ms.mono t (fun x1 S2 t => ?_))
  refine g_if_ne (tgt := 10) dX8_item_5 (by decide) (fun c3 => ?_) (fun c3 => ?_)
  · have t := t.1 c3
    refine g_aload_n dX8_item_10 rfl ?_
    refine g_iload_n dX8_item_11 rfl ?_
    refine g_iload_n dX8_item_12 rfl ?_
    refine g_iload_n dX8_item_13 rfl ?_
    refine g_iconst (v := 1) dX8_item_14 (by decide) ?_
    refine s_V4i dX8_item_15 vm_X8_lacksRow ml_X8_233 rfl rfl (by decide) (Nat.le_of_ble_eq_true rfl) rfl (tk_Ms.mono t (fun x4 S5 t => ?_))
    refine g_istore (ls' := [.ref 45, .int p1, .int p2, .int p3, .int p4, .int x4]) dX8_item_18 rfl (by decide) rfl ?_
    refine g_iload dX8_item_20 rfl ?_
    refine g_if_ge (tgt := 28) dX8_item_22 (by decide) (fun c6 => ?_) (fun c6 => ?_)
    · have t := t.1 c6
      refine g_aload_n dX8_item_28 rfl ?_
      refine g_getR (n := 25) dX8_item_29 fl_X8_52 rfl (by decide) (by decide) rfl rfl ?_
      refine g_bipush (v := 24) dX8_item_32 (by decide) ?_
      refine g_iload_n dX8_item_34 rfl ?_
      refine g_imul dX8_item_35 ?_
      refine g_iload_n dX8_item_36 rfl ?_
      refine g_iadd dX8_item_37 ?_
      refine g_iload_n dX8_item_38 rfl ?_
      refine g_iload dX8_item_39 rfl ?_
      refine s_S2i dX8_item_41 sm_X8_asLane ml_X8_236 rfl (by decide) (Nat.le_of_ble_eq_true rfl) rfl (tk_Ms.mono t (fun x7 S8 t => ?_))
      refine g_iast (n := 96) dX8_item_44 rfl t.1 ?_
      have t := t.2
      refine g_iconst (v := 1) dX8_item_45 (by decide) ?_
      exact g_iret (st := []) dX8_item_46 (fun e => by cases e) ⟨_, rfl, t⟩
    · have t := t.2 c6
      refine g_iload dX8_item_25 rfl ?_
      exact g_iret (st := []) dX8_item_27 (fun e => by cases e) ⟨_, rfl, t⟩
  · have t := t.2 c3
    refine g_iconst (v := (-1)) dX8_item_8 (by decide) ?_
    exact g_iret (st := []) dX8_item_9 (fun e => by cases e) ⟨_, rfl, t⟩
theorem w_X8_nextOrder {Q : Int32 → tS → Prop} {S : tS} (p1 : Int32) (t : tk_Gs mX8_nextOrder none 4 [.ref 45, .int p1, .int (p1 - 2), .null, .null, .null, .null] [] S (tk_okQ mX8_nextOrder Q)) : tk_Ms mX8_nextOrder [.ref 45, .int p1] S Q := by
  refine tk_Ms.of (ls := [.ref 45, .int p1, .null, .null, .null, .null, .null]) (by decide) (by first | exact Or.inl rfl | exact Or.inr (Or.inl rfl) | exact Or.inr (Or.inr rfl)) (Nat.le_of_ble_eq_true rfl) rfl ?_
  refine g_iload_n dX8_nextOrder_0 rfl ?_
  refine g_iconst (v := 2) dX8_nextOrder_1 (by decide) ?_
  refine g_isub dX8_nextOrder_2 ?_
  refine g_istore_n (ls' := [.ref 45, .int p1, .int (p1 - 2), .null, .null, .null, .null]) dX8_nextOrder_3 rfl (by decide) rfl ?_
  exact t
theorem w_X8_nextOrder_4 {Q : Int32 → tS → Prop} {S : tS} (l1 : Int32) (l2 : Int32)  (t : ((l2 < 0 → ((0 ≤ l2 → tk_Gs mX8_nextOrder none 41 [.ref 45, .int l1, .int l2, .int (l1 - 1), .null, .null, .null] [] S Q) ∧ (¬ 0 ≤ l2 → Q 0 S))) ∧ (¬ l2 < 0 → (vp_in l2 6 ∧ (vp_in (l2 + 1) 6 ∧ (((S 61 l2.toNatClampNeg) ≤ (S 61 (l2 + 1).toNatClampNeg) → ((0 ≤ l2 → tk_Gs mX8_nextOrder none 41 [.ref 45, .int l1, .int l2, .int (l1 - 1), .null, .null, .null] [] S Q) ∧ (¬ 0 ≤ l2 → Q 0 S))) ∧ (¬ (S 61 l2.toNatClampNeg) ≤ (S 61 (l2 + 1).toNatClampNeg) → tk_Gs mX8_nextOrder none 4 [.ref 45, .int l1, .int (l2 + (-1)), .null, .null, .null, .null] [] S Q))))))) : tk_Gs mX8_nextOrder none 4 [.ref 45, .int l1, .int l2, .null, .null, .null, .null] [] S Q := by
  show tk_G _ 0 0 _ _ _ _ (tkSH, S, tkRF) _
  refine g_iload_n dX8_nextOrder_4 rfl ?_
  refine g_if_lt (tgt := 31) dX8_nextOrder_5 (by decide) (fun c1 => ?_) (fun c1 => ?_)
  · have t := t.1 c1
    refine g_iload_n dX8_nextOrder_31 rfl ?_
    refine g_if_ge (tgt := 37) dX8_nextOrder_32 (by decide) (fun c2 => ?_) (fun c2 => ?_)
    · have t := t.1 c2
      refine g_iload_n dX8_nextOrder_37 rfl ?_
      refine g_iconst (v := 1) dX8_nextOrder_38 (by decide) ?_
      refine g_isub dX8_nextOrder_39 ?_
      refine g_istore_n (ls' := [.ref 45, .int l1, .int l2, .int (l1 - 1), .null, .null, .null]) dX8_nextOrder_40 rfl (by decide) rfl ?_
      exact t
    · have t := t.2 c2
      refine g_iconst (v := 0) dX8_nextOrder_35 (by decide) ?_
      exact g_iret (st := []) dX8_nextOrder_36 (fun e => by cases e) ⟨_, rfl, t⟩
  · have t := t.2 c1
    refine g_aload_n dX8_nextOrder_8 rfl ?_
    refine g_getR (n := 25) dX8_nextOrder_9 fl_X8_55 rfl (by decide) (by decide) rfl rfl ?_
    refine g_iload_n dX8_nextOrder_12 rfl ?_
    refine g_iald (n := 6) dX8_nextOrder_13 rfl t.1 ?_
    have t := t.2
    refine g_aload_n dX8_nextOrder_14 rfl ?_
    refine g_getR (n := 25) dX8_nextOrder_15 fl_X8_55 rfl (by decide) (by decide) rfl rfl ?_
    refine g_iload_n dX8_nextOrder_18 rfl ?_
    refine g_iconst (v := 1) dX8_nextOrder_19 (by decide) ?_
    refine g_iadd dX8_nextOrder_20 ?_
    refine g_iald (n := 6) dX8_nextOrder_21 rfl t.1 ?_
    have t := t.2
    refine g_icmp_le (tgt := 31) dX8_nextOrder_22 (by decide) (fun c3 => ?_) (fun c3 => ?_)
    · have t := t.1 c3
      refine g_iload_n dX8_nextOrder_31 rfl ?_
      refine g_if_ge (tgt := 37) dX8_nextOrder_32 (by decide) (fun c4 => ?_) (fun c4 => ?_)
      · have t := t.1 c4
        refine g_iload_n dX8_nextOrder_37 rfl ?_
        refine g_iconst (v := 1) dX8_nextOrder_38 (by decide) ?_
        refine g_isub dX8_nextOrder_39 ?_
        refine g_istore_n (ls' := [.ref 45, .int l1, .int l2, .int (l1 - 1), .null, .null, .null]) dX8_nextOrder_40 rfl (by decide) rfl ?_
        exact t
      · have t := t.2 c4
        refine g_iconst (v := 0) dX8_nextOrder_35 (by decide) ?_
        exact g_iret (st := []) dX8_nextOrder_36 (fun e => by cases e) ⟨_, rfl, t⟩
    · have t := t.2 c3
      refine g_iinc (v := l2 + (-1)) (ls' := [.ref 45, .int l1, .int (l2 + (-1)), .null, .null, .null, .null]) dX8_nextOrder_25 rfl rfl (by decide) rfl rfl ?_
      refine g_goto (tgt := 4) dX8_nextOrder_28 (by decide) ?_
      exact t
theorem w_X8_nextOrder_41 {Q : Int32 → tS → Prop} {S : tS} (l1 : Int32) (l2 : Int32) (l3 : Int32)  (t : (vp_in l3 6 ∧ (vp_in l2 6 ∧ (((S 61 l2.toNatClampNeg) ≤ (S 61 l3.toNatClampNeg) → (vp_in l2 6 ∧ (vp_in l3 6 ∧ (vp_in l2 6 ∧ (vp_in l3 6 ∧ tk_Gs mX8_nextOrder none 100 [.ref 45, .int l1, .int l2, .int l3, .int (S 61 l2.toNatClampNeg), .int (l1 - 1), .int (l2 + 1)] [] (tk_up (tk_up S 61 l2.toNatClampNeg (S 61 l3.toNatClampNeg)) 61 l3.toNatClampNeg (S 61 l2.toNatClampNeg)) Q))))) ∧ (¬ (S 61 l2.toNatClampNeg) ≤ (S 61 l3.toNatClampNeg) → tk_Gs mX8_nextOrder none 41 [.ref 45, .int l1, .int l2, .int (l3 + (-1)), .null, .null, .null] [] S Q))))) : tk_Gs mX8_nextOrder none 41 [.ref 45, .int l1, .int l2, .int l3, .null, .null, .null] [] S Q := by
  show tk_G _ 0 0 _ _ _ _ (tkSH, S, tkRF) _
  refine g_aload_n dX8_nextOrder_41 rfl ?_
  refine g_getR (n := 25) dX8_nextOrder_42 fl_X8_55 rfl (by decide) (by decide) rfl rfl ?_
  refine g_iload_n dX8_nextOrder_45 rfl ?_
  refine g_iald (n := 6) dX8_nextOrder_46 rfl t.1 ?_
  have t := t.2
  refine g_aload_n dX8_nextOrder_47 rfl ?_
  refine g_getR (n := 25) dX8_nextOrder_48 fl_X8_55 rfl (by decide) (by decide) rfl rfl ?_
  refine g_iload_n dX8_nextOrder_51 rfl ?_
  refine g_iald (n := 6) dX8_nextOrder_52 rfl t.1 ?_
  have t := t.2
  refine g_icmp_ge (tgt := 62) dX8_nextOrder_53 (by decide) (fun c1 => ?_) (fun c1 => ?_)
  · have t := t.1 c1
    refine g_aload_n dX8_nextOrder_62 rfl ?_
    refine g_getR (n := 25) dX8_nextOrder_63 fl_X8_55 rfl (by decide) (by decide) rfl rfl ?_
    refine g_iload_n dX8_nextOrder_66 rfl ?_
    refine g_iald (n := 6) dX8_nextOrder_67 rfl t.1 ?_
    have t := t.2
    refine g_istore (ls' := [.ref 45, .int l1, .int l2, .int l3, .int (S 61 l2.toNatClampNeg), .null, .null]) dX8_nextOrder_68 rfl (by decide) rfl ?_
    refine g_aload_n dX8_nextOrder_70 rfl ?_
    refine g_getR (n := 25) dX8_nextOrder_71 fl_X8_55 rfl (by decide) (by decide) rfl rfl ?_
    refine g_iload_n dX8_nextOrder_74 rfl ?_
    refine g_aload_n dX8_nextOrder_75 rfl ?_
    refine g_getR (n := 25) dX8_nextOrder_76 fl_X8_55 rfl (by decide) (by decide) rfl rfl ?_
    refine g_iload_n dX8_nextOrder_79 rfl ?_
    refine g_iald (n := 6) dX8_nextOrder_80 rfl t.1 ?_
    have t := t.2
    refine g_iast (n := 6) dX8_nextOrder_81 rfl t.1 ?_
    have t := t.2
    refine g_aload_n dX8_nextOrder_82 rfl ?_
    refine g_getR (n := 25) dX8_nextOrder_83 fl_X8_55 rfl (by decide) (by decide) rfl rfl ?_
    refine g_iload_n dX8_nextOrder_86 rfl ?_
    refine g_iload dX8_nextOrder_87 rfl ?_
    refine g_iast (n := 6) dX8_nextOrder_89 rfl t.1 ?_
    have t := t.2
    refine g_iload_n dX8_nextOrder_90 rfl ?_
    refine g_iconst (v := 1) dX8_nextOrder_91 (by decide) ?_
    refine g_isub dX8_nextOrder_92 ?_
    refine g_istore (ls' := [.ref 45, .int l1, .int l2, .int l3, .int (S 61 l2.toNatClampNeg), .int (l1 - 1), .null]) dX8_nextOrder_93 rfl (by decide) rfl ?_
    refine g_iload_n dX8_nextOrder_95 rfl ?_
    refine g_iconst (v := 1) dX8_nextOrder_96 (by decide) ?_
    refine g_iadd dX8_nextOrder_97 ?_
    refine g_istore (ls' := [.ref 45, .int l1, .int l2, .int l3, .int (S 61 l2.toNatClampNeg), .int (l1 - 1), .int (l2 + 1)]) dX8_nextOrder_98 rfl (by decide) rfl ?_
    exact t
  · have t := t.2 c1
    refine g_iinc (v := l3 + (-1)) (ls' := [.ref 45, .int l1, .int l2, .int (l3 + (-1)), .null, .null, .null]) dX8_nextOrder_56 rfl rfl (by decide) rfl rfl ?_
    refine g_goto (tgt := 41) dX8_nextOrder_59 (by decide) ?_
    exact t
theorem w_X8_nextOrder_100 {Q : Int32 → tS → Prop} {S : tS} (l1 : Int32) (l2 : Int32) (l3 : Int32) (l4 : Int32) (l5 : Int32) (l6 : Int32)  (t : ((l5 ≤ l6 → Q 1 S) ∧ (¬ l5 ≤ l6 → (vp_in l6 6 ∧ (vp_in l5 6 ∧ (vp_in l6 6 ∧ (vp_in l5 6 ∧ tk_Gs mX8_nextOrder none 100 [.ref 45, .int l1, .int l2, .int l3, .int (S 61 l6.toNatClampNeg), .int (l5 + (-1)), .int (l6 + 1)] [] (tk_up (tk_up S 61 l6.toNatClampNeg (S 61 l5.toNatClampNeg)) 61 l5.toNatClampNeg (S 61 l6.toNatClampNeg)) Q))))))) : tk_Gs mX8_nextOrder none 100 [.ref 45, .int l1, .int l2, .int l3, .int l4, .int l5, .int l6] [] S Q := by
  show tk_G _ 0 0 _ _ _ _ (tkSH, S, tkRF) _
  refine g_iload dX8_nextOrder_100 rfl ?_
  refine g_iload dX8_nextOrder_102 rfl ?_
  refine g_icmp_ge (tgt := 148) dX8_nextOrder_104 (by decide) (fun c1 => ?_) (fun c1 => ?_)
  · have t := t.1 c1
    refine g_iconst (v := 1) dX8_nextOrder_148 (by decide) ?_
    exact g_iret (st := []) dX8_nextOrder_149 (fun e => by cases e) ⟨_, rfl, t⟩
  · have t := t.2 c1
    refine g_aload_n dX8_nextOrder_107 rfl ?_
    refine g_getR (n := 25) dX8_nextOrder_108 fl_X8_55 rfl (by decide) (by decide) rfl rfl ?_
    refine g_iload dX8_nextOrder_111 rfl ?_
    refine g_iald (n := 6) dX8_nextOrder_113 rfl t.1 ?_
    have t := t.2
    refine g_istore (ls' := [.ref 45, .int l1, .int l2, .int l3, .int (S 61 l6.toNatClampNeg), .int l5, .int l6]) dX8_nextOrder_114 rfl (by decide) rfl ?_
    refine g_aload_n dX8_nextOrder_116 rfl ?_
    refine g_getR (n := 25) dX8_nextOrder_117 fl_X8_55 rfl (by decide) (by decide) rfl rfl ?_
    refine g_iload dX8_nextOrder_120 rfl ?_
    refine g_aload_n dX8_nextOrder_122 rfl ?_
    refine g_getR (n := 25) dX8_nextOrder_123 fl_X8_55 rfl (by decide) (by decide) rfl rfl ?_
    refine g_iload dX8_nextOrder_126 rfl ?_
    refine g_iald (n := 6) dX8_nextOrder_128 rfl t.1 ?_
    have t := t.2
    refine g_iast (n := 6) dX8_nextOrder_129 rfl t.1 ?_
    have t := t.2
    refine g_aload_n dX8_nextOrder_130 rfl ?_
    refine g_getR (n := 25) dX8_nextOrder_131 fl_X8_55 rfl (by decide) (by decide) rfl rfl ?_
    refine g_iload dX8_nextOrder_134 rfl ?_
    refine g_iload dX8_nextOrder_136 rfl ?_
    refine g_iast (n := 6) dX8_nextOrder_138 rfl t.1 ?_
    have t := t.2
    refine g_iinc (v := l5 + (-1)) (ls' := [.ref 45, .int l1, .int l2, .int l3, .int (S 61 l6.toNatClampNeg), .int (l5 + (-1)), .int l6]) dX8_nextOrder_139 rfl rfl (by decide) rfl rfl ?_
    refine g_iinc (v := l6 + 1) (ls' := [.ref 45, .int l1, .int l2, .int l3, .int (S 61 l6.toNatClampNeg), .int (l5 + (-1)), .int (l6 + 1)]) dX8_nextOrder_142 rfl rfl (by decide) rfl rfl ?_
    refine g_goto (tgt := 100) dX8_nextOrder_145 (by decide) ?_
    exact t
theorem w_X8_areTold {Q : Int32 → tS → Prop} {S : tS} (p1 : Int32) (p2 : Int32) (t : tk_Gs mX8_areTold none 8 [.ref 45, .int p1, .int p2, .int 0, .int 1, .int 0, .null] [] S (tk_okQ mX8_areTold Q)) : tk_Ms mX8_areTold [.ref 45, .int p1, .int p2] S Q := by
  refine tk_Ms.of (ls := [.ref 45, .int p1, .int p2, .null, .null, .null, .null]) (by decide) (by first | exact Or.inl rfl | exact Or.inr (Or.inl rfl) | exact Or.inr (Or.inr rfl)) (Nat.le_of_ble_eq_true rfl) rfl ?_
  refine g_iconst (v := 0) dX8_areTold_0 (by decide) ?_
  refine g_istore_n (ls' := [.ref 45, .int p1, .int p2, .int 0, .null, .null, .null]) dX8_areTold_1 rfl (by decide) rfl ?_
  refine g_iconst (v := 1) dX8_areTold_2 (by decide) ?_
  refine g_istore (ls' := [.ref 45, .int p1, .int p2, .int 0, .int 1, .null, .null]) dX8_areTold_3 rfl (by decide) rfl ?_
  refine g_iconst (v := 0) dX8_areTold_5 (by decide) ?_
  refine g_istore (ls' := [.ref 45, .int p1, .int p2, .int 0, .int 1, .int 0, .null]) dX8_areTold_6 rfl (by decide) rfl ?_
  exact t
theorem w_X8_areTold_8 {Q : Int32 → tS → Prop} {S : tS} (l1 : Int32) (l2 : Int32) (l3 : Int32) (l4 : Int32) (l5 : Int32)  (t : ((l2 ≤ l5 → Q l4 S) ∧ (¬ l2 ≤ l5 → ((l4 = 0 → Q l4 S) ∧ (¬ l4 = 0 → (vp_in (l1 + (2 * l5)) 96 ∧ (tk_Ms mX8_isKey [.ref 45, .int (S 60 (l1 + (2 * l5)).toNatClampNeg)] S (fun x3 S4 => ((x3 = 0 → (((0 : Int32) = 0 → tk_Gs mX8_areTold none 8 [.ref 45, .int l1, .int l2, .int (l3 ||| 0), .int 0, .int (l5 + 1), .null] [] S4 Q) ∧ (¬ (0 : Int32) = 0 → tk_Gs mX8_areTold none 8 [.ref 45, .int l1, .int l2, .int (l3 ||| (1 <<< ((S 60 (l1 + (2 * l5)).toNatClampNeg) &&& 31))), .int 0, .int (l5 + 1), .null] [] S4 Q))) ∧ (¬ x3 = 0 → (tk_Ms mX8_has [.int l3, .int (S 60 (l1 + (2 * l5)).toNatClampNeg)] S4 (fun x7 S8 => ((¬ x7 = 0 → (((0 : Int32) = 0 → tk_Gs mX8_areTold none 8 [.ref 45, .int l1, .int l2, .int (l3 ||| 0), .int 0, .int (l5 + 1), .null] [] S8 Q) ∧ (¬ (0 : Int32) = 0 → tk_Gs mX8_areTold none 8 [.ref 45, .int l1, .int l2, .int (l3 ||| (1 <<< ((S 60 (l1 + (2 * l5)).toNatClampNeg) &&& 31))), .int 0, .int (l5 + 1), .null] [] S8 Q))) ∧ (x7 = 0 → (vp_in ((l1 + (2 * l5)) + 1) 96 ∧ (tk_Ms mX8_in [.long ((S8 60 ((l1 + (2 * l5)) + 1).toNatClampNeg : Int32).toInt64), .long ((S8 45 10 : Int32).toInt64), .long (999 : Int64)] S8 (fun x11 S12 => ((x11 = 0 → (((0 : Int32) = 0 → tk_Gs mX8_areTold none 8 [.ref 45, .int l1, .int l2, .int (l3 ||| 0), .int 0, .int (l5 + 1), .null] [] S12 Q) ∧ (¬ (0 : Int32) = 0 → tk_Gs mX8_areTold none 8 [.ref 45, .int l1, .int l2, .int (l3 ||| (1 <<< ((S 60 (l1 + (2 * l5)).toNatClampNeg) &&& 31))), .int 0, .int (l5 + 1), .null] [] S12 Q))) ∧ (¬ x11 = 0 → (((1 : Int32) = 0 → tk_Gs mX8_areTold none 8 [.ref 45, .int l1, .int l2, .int (l3 ||| 0), .int 1, .int (l5 + 1), .null] [] S12 Q) ∧ (¬ (1 : Int32) = 0 → tk_Gs mX8_areTold none 8 [.ref 45, .int l1, .int l2, .int (l3 ||| (1 <<< ((S 60 (l1 + (2 * l5)).toNatClampNeg) &&& 31))), .int 1, .int (l5 + 1), .null] [] S12 Q))))))))))))))))))))) : tk_Gs mX8_areTold none 8 [.ref 45, .int l1, .int l2, .int l3, .int l4, .int l5, .null] [] S Q := by
  show tk_G _ 0 0 _ _ _ _ (tkSH, S, tkRF) _
  refine g_iload dX8_areTold_8 rfl ?_
  refine g_iload_n dX8_areTold_10 rfl ?_
  refine g_icmp_ge (tgt := 107) dX8_areTold_11 (by decide) (fun c1 => ?_) (fun c1 => ?_)
  · have t := t.1 c1
    refine g_iload dX8_areTold_107 rfl ?_
    exact g_iret (st := []) dX8_areTold_109 (fun e => by cases e) ⟨_, rfl, t⟩
  · have t := t.2 c1
    refine g_iload dX8_areTold_14 rfl ?_
    refine g_if_eq (tgt := 107) dX8_areTold_16 (by decide) (fun c2 => ?_) (fun c2 => ?_)
    · have t := t.1 c2
      refine g_iload dX8_areTold_107 rfl ?_
      exact g_iret (st := []) dX8_areTold_109 (fun e => by cases e) ⟨_, rfl, t⟩
    · have t := t.2 c2
      refine g_aload_n dX8_areTold_19 rfl ?_
      refine g_getR (n := 25) dX8_areTold_20 fl_X8_52 rfl (by decide) (by decide) rfl rfl ?_
      refine g_iload_n dX8_areTold_23 rfl ?_
      refine g_iconst (v := 2) dX8_areTold_24 (by decide) ?_
      refine g_iload dX8_areTold_25 rfl ?_
      refine g_imul dX8_areTold_27 ?_
      refine g_iadd dX8_areTold_28 ?_
      refine g_iald (n := 96) dX8_areTold_29 rfl t.1 ?_
      have t := t.2
      refine g_istore (ls' := [.ref 45, .int l1, .int l2, .int l3, .int l4, .int l5, .int (S 60 (l1 + (2 * l5)).toNatClampNeg)]) dX8_areTold_30 rfl (by decide) rfl ?_
      refine g_aload_n dX8_areTold_32 rfl ?_
      refine g_iload dX8_areTold_33 rfl ?_
      refine s_V1i dX8_areTold_35 vm_X8_isKey ml_X8_89 rfl rfl (by decide) (Nat.le_of_ble_eq_true rfl) rfl (tk_Ms.mono t (fun x3 S4 t => ?_))
      refine g_if_eq (tgt := 82) dX8_areTold_38 (by decide) (fun c5 => ?_) (fun c5 => ?_)
      · have t := t.1 c5
        refine g_iconst (v := 0) dX8_areTold_82 (by decide) ?_
        refine g_istore (ls' := [.ref 45, .int l1, .int l2, .int l3, .int 0, .int l5, .int (S 60 (l1 + (2 * l5)).toNatClampNeg)]) dX8_areTold_83 rfl (by decide) rfl ?_
        refine g_iload_n dX8_areTold_85 rfl ?_
        refine g_iload dX8_areTold_86 rfl ?_
        refine g_if_eq (tgt := 98) dX8_areTold_88 (by decide) (fun c6 => ?_) (fun c6 => ?_)
        · have t := t.1 c6
          refine g_iconst (v := 0) dX8_areTold_98 (by decide) ?_
          refine g_ior dX8_areTold_99 ?_
          refine g_istore_n (ls' := [.ref 45, .int l1, .int l2, .int (l3 ||| 0), .int 0, .int l5, .int (S 60 (l1 + (2 * l5)).toNatClampNeg)]) dX8_areTold_100 rfl (by decide) rfl ?_
          refine g_iinc (v := l5 + 1) (ls' := [.ref 45, .int l1, .int l2, .int (l3 ||| 0), .int 0, .int (l5 + 1), .int (S 60 (l1 + (2 * l5)).toNatClampNeg)]) dX8_areTold_101 rfl rfl (by decide) rfl rfl ?_
          refine g_goto (tgt := 8) dX8_areTold_104 (by decide) ?_
          refine g_drop (ls' := [.ref 45, .int l1, .int l2, .int (l3 ||| 0), .int 0, .int (l5 + 1), .null]) ⟨Or.inl rfl, Or.inl rfl, Or.inl rfl, Or.inl rfl, Or.inl rfl, Or.inl rfl, Or.inr rfl, trivial⟩ ?_
          exact t
        · have t := t.2 c6
          refine g_iconst (v := 1) dX8_areTold_91 (by decide) ?_
          refine g_iload dX8_areTold_92 rfl ?_
          refine g_ishl dX8_areTold_94 ?_
          refine g_goto (tgt := 99) dX8_areTold_95 (by decide) ?_
          refine g_ior dX8_areTold_99 ?_
          refine g_istore_n (ls' := [.ref 45, .int l1, .int l2, .int (l3 ||| (1 <<< ((S 60 (l1 + (2 * l5)).toNatClampNeg) &&& 31))), .int 0, .int l5, .int (S 60 (l1 + (2 * l5)).toNatClampNeg)]) dX8_areTold_100 rfl (by decide) rfl ?_
          refine g_iinc (v := l5 + 1) (ls' := [.ref 45, .int l1, .int l2, .int (l3 ||| (1 <<< ((S 60 (l1 + (2 * l5)).toNatClampNeg) &&& 31))), .int 0, .int (l5 + 1), .int (S 60 (l1 + (2 * l5)).toNatClampNeg)]) dX8_areTold_101 rfl rfl (by decide) rfl rfl ?_
          refine g_goto (tgt := 8) dX8_areTold_104 (by decide) ?_
          refine g_drop (ls' := [.ref 45, .int l1, .int l2, .int (l3 ||| (1 <<< ((S 60 (l1 + (2 * l5)).toNatClampNeg) &&& 31))), .int 0, .int (l5 + 1), .null]) ⟨Or.inl rfl, Or.inl rfl, Or.inl rfl, Or.inl rfl, Or.inl rfl, Or.inl rfl, Or.inr rfl, trivial⟩ ?_
          exact t
      · have t := t.2 c5
        refine g_iload_n dX8_areTold_41 rfl ?_
        refine g_iload dX8_areTold_42 rfl ?_
        refine s_S2i dX8_areTold_44 sm_X8_has ml_X8_185 rfl (by decide) (Nat.le_of_ble_eq_true rfl) rfl (tk_Ms.mono t (fun x7 S8 t => ?_))
        refine g_if_ne (tgt := 82) dX8_areTold_47 (by decide) (fun c9 => ?_) (fun c9 => ?_)
        · have t := t.1 c9
          refine g_iconst (v := 0) dX8_areTold_82 (by decide) ?_
          refine g_istore (ls' := [.ref 45, .int l1, .int l2, .int l3, .int 0, .int l5, .int (S 60 (l1 + (2 * l5)).toNatClampNeg)]) dX8_areTold_83 rfl (by decide) rfl ?_
          refine g_iload_n dX8_areTold_85 rfl ?_
          refine g_iload dX8_areTold_86 rfl ?_
          refine g_if_eq (tgt := 98) dX8_areTold_88 (by decide) (fun c10 => ?_) (fun c10 => ?_)
          · have t := t.1 c10
            refine g_iconst (v := 0) dX8_areTold_98 (by decide) ?_
            refine g_ior dX8_areTold_99 ?_
            refine g_istore_n (ls' := [.ref 45, .int l1, .int l2, .int (l3 ||| 0), .int 0, .int l5, .int (S 60 (l1 + (2 * l5)).toNatClampNeg)]) dX8_areTold_100 rfl (by decide) rfl ?_
            refine g_iinc (v := l5 + 1) (ls' := [.ref 45, .int l1, .int l2, .int (l3 ||| 0), .int 0, .int (l5 + 1), .int (S 60 (l1 + (2 * l5)).toNatClampNeg)]) dX8_areTold_101 rfl rfl (by decide) rfl rfl ?_
            refine g_goto (tgt := 8) dX8_areTold_104 (by decide) ?_
            refine g_drop (ls' := [.ref 45, .int l1, .int l2, .int (l3 ||| 0), .int 0, .int (l5 + 1), .null]) ⟨Or.inl rfl, Or.inl rfl, Or.inl rfl, Or.inl rfl, Or.inl rfl, Or.inl rfl, Or.inr rfl, trivial⟩ ?_
            exact t
          · have t := t.2 c10
            refine g_iconst (v := 1) dX8_areTold_91 (by decide) ?_
            refine g_iload dX8_areTold_92 rfl ?_
            refine g_ishl dX8_areTold_94 ?_
            refine g_goto (tgt := 99) dX8_areTold_95 (by decide) ?_
            refine g_ior dX8_areTold_99 ?_
            refine g_istore_n (ls' := [.ref 45, .int l1, .int l2, .int (l3 ||| (1 <<< ((S 60 (l1 + (2 * l5)).toNatClampNeg) &&& 31))), .int 0, .int l5, .int (S 60 (l1 + (2 * l5)).toNatClampNeg)]) dX8_areTold_100 rfl (by decide) rfl ?_
            refine g_iinc (v := l5 + 1) (ls' := [.ref 45, .int l1, .int l2, .int (l3 ||| (1 <<< ((S 60 (l1 + (2 * l5)).toNatClampNeg) &&& 31))), .int 0, .int (l5 + 1), .int (S 60 (l1 + (2 * l5)).toNatClampNeg)]) dX8_areTold_101 rfl rfl (by decide) rfl rfl ?_
            refine g_goto (tgt := 8) dX8_areTold_104 (by decide) ?_
            refine g_drop (ls' := [.ref 45, .int l1, .int l2, .int (l3 ||| (1 <<< ((S 60 (l1 + (2 * l5)).toNatClampNeg) &&& 31))), .int 0, .int (l5 + 1), .null]) ⟨Or.inl rfl, Or.inl rfl, Or.inl rfl, Or.inl rfl, Or.inl rfl, Or.inl rfl, Or.inr rfl, trivial⟩ ?_
            exact t
        · have t := t.2 c9
          refine g_aload_n dX8_areTold_50 rfl ?_
          refine g_getR (n := 25) dX8_areTold_51 fl_X8_52 rfl (by decide) (by decide) rfl rfl ?_
          refine g_iload_n dX8_areTold_54 rfl ?_
          refine g_iconst (v := 2) dX8_areTold_55 (by decide) ?_
          refine g_iload dX8_areTold_56 rfl ?_
          refine g_imul dX8_areTold_58 ?_
          refine g_iadd dX8_areTold_59 ?_
          refine g_iconst (v := 1) dX8_areTold_60 (by decide) ?_
          refine g_iadd dX8_areTold_61 ?_
          refine g_iald (n := 96) dX8_areTold_62 rfl t.1 ?_
          have t := t.2
          refine g_i2l dX8_areTold_63 ?_
          refine g_aload_n dX8_areTold_64 rfl ?_
          refine g_getI (n := 25) dX8_areTold_65 fl_X8_98 rfl (by decide) (by decide) rfl ?_
          refine g_i2l dX8_areTold_68 ?_
          refine g_ldc2 (v := 999) dX8_areTold_69 kl_X8_210 ?_
          refine s_S3i dX8_areTold_72 sm_X8_in ml_X8_66 rfl (by decide) (Nat.le_of_ble_eq_true rfl) rfl (tk_Ms.mono t (fun x11 S12 t => ?_))
          refine g_if_eq (tgt := 82) dX8_areTold_75 (by decide) (fun c13 => ?_) (fun c13 => ?_)
          · have t := t.1 c13
            refine g_iconst (v := 0) dX8_areTold_82 (by decide) ?_
            refine g_istore (ls' := [.ref 45, .int l1, .int l2, .int l3, .int 0, .int l5, .int (S 60 (l1 + (2 * l5)).toNatClampNeg)]) dX8_areTold_83 rfl (by decide) rfl ?_
            refine g_iload_n dX8_areTold_85 rfl ?_
            refine g_iload dX8_areTold_86 rfl ?_
            refine g_if_eq (tgt := 98) dX8_areTold_88 (by decide) (fun c14 => ?_) (fun c14 => ?_)
            · have t := t.1 c14
              refine g_iconst (v := 0) dX8_areTold_98 (by decide) ?_
              refine g_ior dX8_areTold_99 ?_
              refine g_istore_n (ls' := [.ref 45, .int l1, .int l2, .int (l3 ||| 0), .int 0, .int l5, .int (S 60 (l1 + (2 * l5)).toNatClampNeg)]) dX8_areTold_100 rfl (by decide) rfl ?_
              refine g_iinc (v := l5 + 1) (ls' := [.ref 45, .int l1, .int l2, .int (l3 ||| 0), .int 0, .int (l5 + 1), .int (S 60 (l1 + (2 * l5)).toNatClampNeg)]) dX8_areTold_101 rfl rfl (by decide) rfl rfl ?_
              refine g_goto (tgt := 8) dX8_areTold_104 (by decide) ?_
              refine g_drop (ls' := [.ref 45, .int l1, .int l2, .int (l3 ||| 0), .int 0, .int (l5 + 1), .null]) ⟨Or.inl rfl, Or.inl rfl, Or.inl rfl, Or.inl rfl, Or.inl rfl, Or.inl rfl, Or.inr rfl, trivial⟩ ?_
              exact t
            · have t := t.2 c14
              refine g_iconst (v := 1) dX8_areTold_91 (by decide) ?_
              refine g_iload dX8_areTold_92 rfl ?_
              refine g_ishl dX8_areTold_94 ?_
              refine g_goto (tgt := 99) dX8_areTold_95 (by decide) ?_
              refine g_ior dX8_areTold_99 ?_
              refine g_istore_n (ls' := [.ref 45, .int l1, .int l2, .int (l3 ||| (1 <<< ((S 60 (l1 + (2 * l5)).toNatClampNeg) &&& 31))), .int 0, .int l5, .int (S 60 (l1 + (2 * l5)).toNatClampNeg)]) dX8_areTold_100 rfl (by decide) rfl ?_
              refine g_iinc (v := l5 + 1) (ls' := [.ref 45, .int l1, .int l2, .int (l3 ||| (1 <<< ((S 60 (l1 + (2 * l5)).toNatClampNeg) &&& 31))), .int 0, .int (l5 + 1), .int (S 60 (l1 + (2 * l5)).toNatClampNeg)]) dX8_areTold_101 rfl rfl (by decide) rfl rfl ?_
              refine g_goto (tgt := 8) dX8_areTold_104 (by decide) ?_
              refine g_drop (ls' := [.ref 45, .int l1, .int l2, .int (l3 ||| (1 <<< ((S 60 (l1 + (2 * l5)).toNatClampNeg) &&& 31))), .int 0, .int (l5 + 1), .null]) ⟨Or.inl rfl, Or.inl rfl, Or.inl rfl, Or.inl rfl, Or.inl rfl, Or.inl rfl, Or.inr rfl, trivial⟩ ?_
              exact t
          · have t := t.2 c13
            refine g_iconst (v := 1) dX8_areTold_78 (by decide) ?_
            refine g_goto (tgt := 83) dX8_areTold_79 (by decide) ?_
            refine g_istore (ls' := [.ref 45, .int l1, .int l2, .int l3, .int 1, .int l5, .int (S 60 (l1 + (2 * l5)).toNatClampNeg)]) dX8_areTold_83 rfl (by decide) rfl ?_
            refine g_iload_n dX8_areTold_85 rfl ?_
            refine g_iload dX8_areTold_86 rfl ?_
            refine g_if_eq (tgt := 98) dX8_areTold_88 (by decide) (fun c15 => ?_) (fun c15 => ?_)
            · have t := t.1 c15
              refine g_iconst (v := 0) dX8_areTold_98 (by decide) ?_
              refine g_ior dX8_areTold_99 ?_
              refine g_istore_n (ls' := [.ref 45, .int l1, .int l2, .int (l3 ||| 0), .int 1, .int l5, .int (S 60 (l1 + (2 * l5)).toNatClampNeg)]) dX8_areTold_100 rfl (by decide) rfl ?_
              refine g_iinc (v := l5 + 1) (ls' := [.ref 45, .int l1, .int l2, .int (l3 ||| 0), .int 1, .int (l5 + 1), .int (S 60 (l1 + (2 * l5)).toNatClampNeg)]) dX8_areTold_101 rfl rfl (by decide) rfl rfl ?_
              refine g_goto (tgt := 8) dX8_areTold_104 (by decide) ?_
              refine g_drop (ls' := [.ref 45, .int l1, .int l2, .int (l3 ||| 0), .int 1, .int (l5 + 1), .null]) ⟨Or.inl rfl, Or.inl rfl, Or.inl rfl, Or.inl rfl, Or.inl rfl, Or.inl rfl, Or.inr rfl, trivial⟩ ?_
              exact t
            · have t := t.2 c15
              refine g_iconst (v := 1) dX8_areTold_91 (by decide) ?_
              refine g_iload dX8_areTold_92 rfl ?_
              refine g_ishl dX8_areTold_94 ?_
              refine g_goto (tgt := 99) dX8_areTold_95 (by decide) ?_
              refine g_ior dX8_areTold_99 ?_
              refine g_istore_n (ls' := [.ref 45, .int l1, .int l2, .int (l3 ||| (1 <<< ((S 60 (l1 + (2 * l5)).toNatClampNeg) &&& 31))), .int 1, .int l5, .int (S 60 (l1 + (2 * l5)).toNatClampNeg)]) dX8_areTold_100 rfl (by decide) rfl ?_
              refine g_iinc (v := l5 + 1) (ls' := [.ref 45, .int l1, .int l2, .int (l3 ||| (1 <<< ((S 60 (l1 + (2 * l5)).toNatClampNeg) &&& 31))), .int 1, .int (l5 + 1), .int (S 60 (l1 + (2 * l5)).toNatClampNeg)]) dX8_areTold_101 rfl rfl (by decide) rfl rfl ?_
              refine g_goto (tgt := 8) dX8_areTold_104 (by decide) ?_
              refine g_drop (ls' := [.ref 45, .int l1, .int l2, .int (l3 ||| (1 <<< ((S 60 (l1 + (2 * l5)).toNatClampNeg) &&& 31))), .int 1, .int (l5 + 1), .null]) ⟨Or.inl rfl, Or.inl rfl, Or.inl rfl, Or.inl rfl, Or.inl rfl, Or.inl rfl, Or.inr rfl, trivial⟩ ?_
              exact t
theorem w_X8_areClean {Q : Int32 → tS → Prop} {S : tS} (p1 : Int32) (p2 : Int32) (t : tk_Gs mX8_areClean none 5 [.ref 45, .int p1, .int p2, .int 1, .int 0] [] S (tk_okQ mX8_areClean Q)) : tk_Ms mX8_areClean [.ref 45, .int p1, .int p2] S Q := by
  refine tk_Ms.of (ls := [.ref 45, .int p1, .int p2, .null, .null]) (by decide) (by first | exact Or.inl rfl | exact Or.inr (Or.inl rfl) | exact Or.inr (Or.inr rfl)) (Nat.le_of_ble_eq_true rfl) rfl ?_
  refine g_iconst (v := 1) dX8_areClean_0 (by decide) ?_
  refine g_istore_n (ls' := [.ref 45, .int p1, .int p2, .int 1, .null]) dX8_areClean_1 rfl (by decide) rfl ?_
  refine g_iconst (v := 0) dX8_areClean_2 (by decide) ?_
  refine g_istore (ls' := [.ref 45, .int p1, .int p2, .int 1, .int 0]) dX8_areClean_3 rfl (by decide) rfl ?_
  exact t
theorem w_X8_areClean_5 {Q : Int32 → tS → Prop} {S : tS} (l1 : Int32) (l2 : Int32) (l3 : Int32) (l4 : Int32)  (t : ((l2 ≤ l4 → Q l3 S) ∧ (¬ l2 ≤ l4 → ((l3 = 0 → tk_Gs mX8_areClean none 5 [.ref 45, .int l1, .int l2, .int 0, .int (l4 + 1)] [] S Q) ∧ (¬ l3 = 0 → (vp_in l4 6 ∧ (vp_in (l1 + (2 * (S 61 l4.toNatClampNeg))) 96 ∧ (vp_in ((l1 + (2 * l4)) + 1) 96 ∧ (tk_Ms mX8_shownBy [.ref 45, .int (S 60 (l1 + (2 * (S 61 l4.toNatClampNeg))).toNatClampNeg), .int (S 60 ((l1 + (2 * l4)) + 1).toNatClampNeg)] S (fun x3 S4 => ((¬ x3 = 0 → tk_Gs mX8_areClean none 5 [.ref 45, .int l1, .int l2, .int 0, .int (l4 + 1)] [] S4 Q) ∧ (x3 = 0 → tk_Gs mX8_areClean none 5 [.ref 45, .int l1, .int l2, .int 1, .int (l4 + 1)] [] S4 Q)))))))))))) : tk_Gs mX8_areClean none 5 [.ref 45, .int l1, .int l2, .int l3, .int l4] [] S Q := by
  show tk_G _ 0 0 _ _ _ _ (tkSH, S, tkRF) _
  refine g_iload dX8_areClean_5 rfl ?_
  refine g_iload_n dX8_areClean_7 rfl ?_
  refine g_icmp_ge (tgt := 63) dX8_areClean_8 (by decide) (fun c1 => ?_) (fun c1 => ?_)
  · have t := t.1 c1
    refine g_iload_n dX8_areClean_63 rfl ?_
    exact g_iret (st := []) dX8_areClean_64 (fun e => by cases e) ⟨_, rfl, t⟩
  · have t := t.2 c1
    refine g_iload_n dX8_areClean_11 rfl ?_
    refine g_if_eq (tgt := 55) dX8_areClean_12 (by decide) (fun c2 => ?_) (fun c2 => ?_)
    · have t := t.1 c2
      refine g_iconst (v := 0) dX8_areClean_55 (by decide) ?_
      refine g_istore_n (ls' := [.ref 45, .int l1, .int l2, .int 0, .int l4]) dX8_areClean_56 rfl (by decide) rfl ?_
      refine g_iinc (v := l4 + 1) (ls' := [.ref 45, .int l1, .int l2, .int 0, .int (l4 + 1)]) dX8_areClean_57 rfl rfl (by decide) rfl rfl ?_
      refine g_goto (tgt := 5) dX8_areClean_60 (by decide) ?_
      exact t
    · have t := t.2 c2
      refine g_aload_n dX8_areClean_15 rfl ?_
      refine g_aload_n dX8_areClean_16 rfl ?_
      refine g_getR (n := 25) dX8_areClean_17 fl_X8_52 rfl (by decide) (by decide) rfl rfl ?_
      refine g_iload_n dX8_areClean_20 rfl ?_
      refine g_iconst (v := 2) dX8_areClean_21 (by decide) ?_
      refine g_aload_n dX8_areClean_22 rfl ?_
      refine g_getR (n := 25) dX8_areClean_23 fl_X8_55 rfl (by decide) (by decide) rfl rfl ?_
      refine g_iload dX8_areClean_26 rfl ?_
      refine g_iald (n := 6) dX8_areClean_28 rfl t.1 ?_
      have t := t.2
      refine g_imul dX8_areClean_29 ?_
      refine g_iadd dX8_areClean_30 ?_
      refine g_iald (n := 96) dX8_areClean_31 rfl t.1 ?_
      have t := t.2
      refine g_aload_n dX8_areClean_32 rfl ?_
      refine g_getR (n := 25) dX8_areClean_33 fl_X8_52 rfl (by decide) (by decide) rfl rfl ?_
      refine g_iload_n dX8_areClean_36 rfl ?_
      refine g_iconst (v := 2) dX8_areClean_37 (by decide) ?_
      refine g_iload dX8_areClean_38 rfl ?_
      refine g_imul dX8_areClean_40 ?_
      refine g_iadd dX8_areClean_41 ?_
      refine g_iconst (v := 1) dX8_areClean_42 (by decide) ?_
      refine g_iadd dX8_areClean_43 ?_
      refine g_iald (n := 96) dX8_areClean_44 rfl t.1 ?_
      have t := t.2
      refine s_V2i dX8_areClean_45 vm_X8_shownBy ml_X8_101 rfl rfl (by decide) (Nat.le_of_ble_eq_true rfl) rfl (tk_Ms.mono t (fun x3 S4 t => ?_))
      refine g_if_ne (tgt := 55) dX8_areClean_48 (by decide) (fun c5 => ?_) (fun c5 => ?_)
      · have t := t.1 c5
        refine g_iconst (v := 0) dX8_areClean_55 (by decide) ?_
        refine g_istore_n (ls' := [.ref 45, .int l1, .int l2, .int 0, .int l4]) dX8_areClean_56 rfl (by decide) rfl ?_
        refine g_iinc (v := l4 + 1) (ls' := [.ref 45, .int l1, .int l2, .int 0, .int (l4 + 1)]) dX8_areClean_57 rfl rfl (by decide) rfl rfl ?_
        refine g_goto (tgt := 5) dX8_areClean_60 (by decide) ?_
        exact t
      · have t := t.2 c5
        refine g_iconst (v := 1) dX8_areClean_51 (by decide) ?_
        refine g_goto (tgt := 56) dX8_areClean_52 (by decide) ?_
        refine g_istore_n (ls' := [.ref 45, .int l1, .int l2, .int 1, .int l4]) dX8_areClean_56 rfl (by decide) rfl ?_
        refine g_iinc (v := l4 + 1) (ls' := [.ref 45, .int l1, .int l2, .int 1, .int (l4 + 1)]) dX8_areClean_57 rfl rfl (by decide) rfl rfl ?_
        refine g_goto (tgt := 5) dX8_areClean_60 (by decide) ?_
        exact t
theorem w_X8_rings {Q : Int32 → tS → Prop} {S : tS} (p1 : Int32) (t : tk_Gs mX8_rings none 7 [.ref 45, .int p1, .int 0, .int 0, .int 0, .null] [] S (tk_okQ mX8_rings Q)) : tk_Ms mX8_rings [.ref 45, .int p1] S Q := by
  refine tk_Ms.of (ls := [.ref 45, .int p1, .null, .null, .null, .null]) (by decide) (by first | exact Or.inl rfl | exact Or.inr (Or.inl rfl) | exact Or.inr (Or.inr rfl)) (Nat.le_of_ble_eq_true rfl) rfl ?_
  refine g_iconst (v := 0) dX8_rings_0 (by decide) ?_
  refine g_istore_n (ls' := [.ref 45, .int p1, .int 0, .null, .null, .null]) dX8_rings_1 rfl (by decide) rfl ?_
  refine g_iconst (v := 0) dX8_rings_2 (by decide) ?_
  refine g_istore_n (ls' := [.ref 45, .int p1, .int 0, .int 0, .null, .null]) dX8_rings_3 rfl (by decide) rfl ?_
  refine g_iconst (v := 0) dX8_rings_4 (by decide) ?_
  refine g_istore (ls' := [.ref 45, .int p1, .int 0, .int 0, .int 0, .null]) dX8_rings_5 rfl (by decide) rfl ?_
  exact t
theorem w_X8_rings_7 {Q : Int32 → tS → Prop} {S : tS} (l1 : Int32) (l2 : Int32) (l3 : Int32) (l4 : Int32)  (t : ((l1 ≤ l4 → Q l3 S) ∧ (¬ l1 ≤ l4 → (tk_Ms mX8_has [.int l2, .int l4] S (fun x2 S3 => ((x2 = 0 → tk_Gs mX8_rings none 34 [.ref 45, .int l1, .int l2, .int (l3 + 1), .int l4, .int l4] [] S3 Q) ∧ (¬ x2 = 0 → tk_Gs mX8_rings none 34 [.ref 45, .int l1, .int l2, .int (l3 + 0), .int l4, .int l4] [] S3 Q))))))) : tk_Gs mX8_rings none 7 [.ref 45, .int l1, .int l2, .int l3, .int l4, .null] [] S Q := by
  show tk_G _ 0 0 _ _ _ _ (tkSH, S, tkRF) _
  refine g_iload dX8_rings_7 rfl ?_
  refine g_iload_n dX8_rings_9 rfl ?_
  refine g_icmp_ge (tgt := 68) dX8_rings_10 (by decide) (fun c1 => ?_) (fun c1 => ?_)
  · have t := t.1 c1
    refine g_iload_n dX8_rings_68 rfl ?_
    exact g_iret (st := []) dX8_rings_69 (fun e => by cases e) ⟨_, rfl, t⟩
  · have t := t.2 c1
    refine g_iload_n dX8_rings_13 rfl ?_
    refine g_iload_n dX8_rings_14 rfl ?_
    refine g_iload dX8_rings_15 rfl ?_
    refine s_S2i dX8_rings_17 sm_X8_has ml_X8_185 rfl (by decide) (Nat.le_of_ble_eq_true rfl) rfl (tk_Ms.mono t (fun x2 S3 t => ?_))
    refine g_if_eq (tgt := 27) dX8_rings_20 (by decide) (fun c4 => ?_) (fun c4 => ?_)
    · have t := t.1 c4
      refine g_iconst (v := 1) dX8_rings_27 (by decide) ?_
      refine g_iadd dX8_rings_28 ?_
      refine g_istore_n (ls' := [.ref 45, .int l1, .int l2, .int (l3 + 1), .int l4, .null]) dX8_rings_29 rfl (by decide) rfl ?_
      refine g_iload dX8_rings_30 rfl ?_
      refine g_istore (ls' := [.ref 45, .int l1, .int l2, .int (l3 + 1), .int l4, .int l4]) dX8_rings_32 rfl (by decide) rfl ?_
      exact t
    · have t := t.2 c4
      refine g_iconst (v := 0) dX8_rings_23 (by decide) ?_
      refine g_goto (tgt := 28) dX8_rings_24 (by decide) ?_
      refine g_iadd dX8_rings_28 ?_
      refine g_istore_n (ls' := [.ref 45, .int l1, .int l2, .int (l3 + 0), .int l4, .null]) dX8_rings_29 rfl (by decide) rfl ?_
      refine g_iload dX8_rings_30 rfl ?_
      refine g_istore (ls' := [.ref 45, .int l1, .int l2, .int (l3 + 0), .int l4, .int l4]) dX8_rings_32 rfl (by decide) rfl ?_
      exact t
theorem w_X8_rings_34 {Q : Int32 → tS → Prop} {S : tS} (l1 : Int32) (l2 : Int32) (l3 : Int32) (l4 : Int32) (l5 : Int32)  (t : (tk_Ms mX8_has [.int l2, .int l5] S (fun x1 S2 => ((¬ x1 = 0 → tk_Gs mX8_rings none 7 [.ref 45, .int l1, .int l2, .int l3, .int (l4 + 1), .null] [] S2 Q) ∧ (x1 = 0 → (vp_in l5 6 ∧ tk_Gs mX8_rings none 34 [.ref 45, .int l1, .int (l2 ||| (1 <<< (l5 &&& 31))), .int l3, .int l4, .int (S2 61 l5.toNatClampNeg)] [] S2 Q)))))) : tk_Gs mX8_rings none 34 [.ref 45, .int l1, .int l2, .int l3, .int l4, .int l5] [] S Q := by
  show tk_G _ 0 0 _ _ _ _ (tkSH, S, tkRF) _
  refine g_iload_n dX8_rings_34 rfl ?_
  refine g_iload dX8_rings_35 rfl ?_
  refine s_S2i dX8_rings_37 sm_X8_has ml_X8_185 rfl (by decide) (Nat.le_of_ble_eq_true rfl) rfl (tk_Ms.mono t (fun x1 S2 t => ?_))
  refine g_if_ne (tgt := 62) dX8_rings_40 (by decide) (fun c3 => ?_) (fun c3 => ?_)
  · have t := t.1 c3
    refine g_iinc (v := l4 + 1) (ls' := [.ref 45, .int l1, .int l2, .int l3, .int (l4 + 1), .int l5]) dX8_rings_62 rfl rfl (by decide) rfl rfl ?_
    refine g_goto (tgt := 7) dX8_rings_65 (by decide) ?_
    refine g_drop (ls' := [.ref 45, .int l1, .int l2, .int l3, .int (l4 + 1), .null]) ⟨Or.inl rfl, Or.inl rfl, Or.inl rfl, Or.inl rfl, Or.inl rfl, Or.inr rfl, trivial⟩ ?_
    exact t
  · have t := t.2 c3
    refine g_iload_n dX8_rings_43 rfl ?_
    refine g_iconst (v := 1) dX8_rings_44 (by decide) ?_
    refine g_iload dX8_rings_45 rfl ?_
    refine g_ishl dX8_rings_47 ?_
    refine g_ior dX8_rings_48 ?_
    refine g_istore_n (ls' := [.ref 45, .int l1, .int (l2 ||| (1 <<< (l5 &&& 31))), .int l3, .int l4, .int l5]) dX8_rings_49 rfl (by decide) rfl ?_
    refine g_aload_n dX8_rings_50 rfl ?_
    refine g_getR (n := 25) dX8_rings_51 fl_X8_55 rfl (by decide) (by decide) rfl rfl ?_
    refine g_iload dX8_rings_54 rfl ?_
    refine g_iald (n := 6) dX8_rings_56 rfl t.1 ?_
    have t := t.2
    refine g_istore (ls' := [.ref 45, .int l1, .int (l2 ||| (1 <<< (l5 &&& 31))), .int l3, .int l4, .int (S2 61 l5.toNatClampNeg)]) dX8_rings_57 rfl (by decide) rfl ?_
    refine g_goto (tgt := 34) dX8_rings_59 (by decide) ?_
    exact t
theorem w_X8_asked {Q : Int32 → tS → Prop} {S : tS} (p1 : Int32) (p2 : Int32) (p3 : Int32) (p4 : Int32) (p5 : Int32) (t : (tk_Ms mX8_isSheet [.int p1, .int p2] S (fun x1 S2 => ((x1 = 0 → (tk_okQ mX8_asked Q) (-1) S2) ∧ (¬ x1 = 0 → (tk_Ms mX8_in [.long ((p4 : Int32).toInt64), .long (1 : Int64), .long (6 : Int64)] S2 (fun x4 S5 => ((x4 = 0 → (tk_okQ mX8_asked Q) (-1) S5) ∧ (¬ x4 = 0 → (tk_Ms mX8_in [.long ((p5 : Int32).toInt64), .long (-1 : Int64), .long ((p4 - 1 : Int32).toInt64)] S5 (fun x7 S8 => ((¬ x7 = 0 → (tk_Ms mX8_lacksRow [.ref 45, .int p1, .int p2, .int p3, .int (2 * p4)] S8 (fun x10 S11 => ((0 ≤ x10 → (tk_Ms mX8_areTold [.ref 45, .int ((24 * p1) + p3), .int p4] S11 (fun x13 S14 => ((¬ x13 = 0 → tk_Gs mX8_asked none 86 [.ref 45, .int p1, .int p2, .int p3, .int p4, .int p5, .int x10, .int ((24 * p1) + p3), .int 0, .null, .null, .null] [] S14 (tk_okQ mX8_asked Q)) ∧ (x13 = 0 → (tk_okQ mX8_asked Q) (-2) S14))))) ∧ (¬ 0 ≤ x10 → (tk_okQ mX8_asked Q) x10 S11))))) ∧ (x7 = 0 → (tk_okQ mX8_asked Q) (-1) S8))))))))))))) : tk_Ms mX8_asked [.ref 45, .int p1, .int p2, .int p3, .int p4, .int p5] S Q := by
  refine tk_Ms.of (ls := [.ref 45, .int p1, .int p2, .int p3, .int p4, .int p5, .null, .null, .null, .null, .null, .null]) (by decide) (by first | exact Or.inl rfl | exact Or.inr (Or.inl rfl) | exact Or.inr (Or.inr rfl)) (Nat.le_of_ble_eq_true rfl) rfl ?_
  refine g_iload_n dX8_asked_0 rfl ?_
  refine g_iload_n dX8_asked_1 rfl ?_
  refine s_S2i dX8_asked_2 sm_X8_isSheet ml_X8_230 rfl (by decide) (Nat.le_of_ble_eq_true rfl) rfl (tk_Ms.mono t (fun x1 S2 t => ?_))
  refine g_if_eq (tgt := 38) dX8_asked_5 (by decide) (fun c3 => ?_) (fun c3 => ?_)
  · have t := t.1 c3
    refine g_iconst (v := (-1)) dX8_asked_38 (by decide) ?_
    exact g_iret (st := []) dX8_asked_39 (fun e => by cases e) ⟨_, rfl, t⟩
  · have t := t.2 c3
    refine g_iload dX8_asked_8 rfl ?_
    refine g_i2l dX8_asked_10 ?_
    refine g_lconst (v := 1) dX8_asked_11 (by decide) ?_
    refine g_ldc2 (v := 6) dX8_asked_12 kl_X8_239 ?_
    refine s_S3i dX8_asked_15 sm_X8_in ml_X8_66 rfl (by decide) (Nat.le_of_ble_eq_true rfl) rfl (tk_Ms.mono t (fun x4 S5 t => ?_))
    refine g_if_eq (tgt := 38) dX8_asked_18 (by decide) (fun c6 => ?_) (fun c6 => ?_)
    · have t := t.1 c6
      refine g_iconst (v := (-1)) dX8_asked_38 (by decide) ?_
      exact g_iret (st := []) dX8_asked_39 (fun e => by cases e) ⟨_, rfl, t⟩
    · have t := t.2 c6
      refine g_iload dX8_asked_21 rfl ?_
      refine g_i2l dX8_asked_23 ?_
      refine g_ldc2 (v := -1) dX8_asked_24 kl_X8_212 ?_
      refine g_iload dX8_asked_27 rfl ?_
      refine g_iconst (v := 1) dX8_asked_29 (by decide) ?_
      refine g_isub dX8_asked_30 ?_
      refine g_i2l dX8_asked_31 ?_
      refine s_S3i dX8_asked_32 sm_X8_in ml_X8_66 rfl (by decide) (Nat.le_of_ble_eq_true rfl) rfl (tk_Ms.mono t (fun x7 S8 t => ?_))
      refine g_if_ne (tgt := 40) dX8_asked_35 (by decide) (fun c9 => ?_) (fun c9 => ?_)
      · have t := t.1 c9
        refine g_aload_n dX8_asked_40 rfl ?_
        refine g_iload_n dX8_asked_41 rfl ?_
        refine g_iload_n dX8_asked_42 rfl ?_
        refine g_iload_n dX8_asked_43 rfl ?_
        refine g_iconst (v := 2) dX8_asked_44 (by decide) ?_
        refine g_iload dX8_asked_45 rfl ?_
        refine g_imul dX8_asked_47 ?_
        refine s_V4i dX8_asked_48 vm_X8_lacksRow ml_X8_233 rfl rfl (by decide) (Nat.le_of_ble_eq_true rfl) rfl (tk_Ms.mono t (fun x10 S11 t => ?_))
        refine g_istore (ls' := [.ref 45, .int p1, .int p2, .int p3, .int p4, .int p5, .int x10, .null, .null, .null, .null, .null]) dX8_asked_51 rfl (by decide) rfl ?_
        refine g_iload dX8_asked_53 rfl ?_
        refine g_if_ge (tgt := 61) dX8_asked_55 (by decide) (fun c12 => ?_) (fun c12 => ?_)
        · have t := t.1 c12
          refine g_bipush (v := 24) dX8_asked_61 (by decide) ?_
          refine g_iload_n dX8_asked_63 rfl ?_
          refine g_imul dX8_asked_64 ?_
          refine g_iload_n dX8_asked_65 rfl ?_
          refine g_iadd dX8_asked_66 ?_
          refine g_istore (ls' := [.ref 45, .int p1, .int p2, .int p3, .int p4, .int p5, .int x10, .int ((24 * p1) + p3), .null, .null, .null, .null]) dX8_asked_67 rfl (by decide) rfl ?_
          refine g_aload_n dX8_asked_69 rfl ?_
          refine g_iload dX8_asked_70 rfl ?_
          refine g_iload dX8_asked_72 rfl ?_
          refine s_V2i dX8_asked_74 vm_X8_areTold ml_X8_241 rfl rfl (by decide) (Nat.le_of_ble_eq_true rfl) rfl (tk_Ms.mono t (fun x13 S14 t => ?_))
          refine g_if_ne (tgt := 83) dX8_asked_77 (by decide) (fun c15 => ?_) (fun c15 => ?_)
          · have t := t.1 c15
            refine g_iconst (v := 0) dX8_asked_83 (by decide) ?_
            refine g_istore (ls' := [.ref 45, .int p1, .int p2, .int p3, .int p4, .int p5, .int x10, .int ((24 * p1) + p3), .int 0, .null, .null, .null]) dX8_asked_84 rfl (by decide) rfl ?_
            exact t
          · have t := t.2 c15
            refine g_bipush (v := (-2)) dX8_asked_80 (by decide) ?_
            exact g_iret (st := []) dX8_asked_82 (fun e => by cases e) ⟨_, rfl, t⟩
        · have t := t.2 c12
          refine g_iload dX8_asked_58 rfl ?_
          exact g_iret (st := []) dX8_asked_60 (fun e => by cases e) ⟨_, rfl, t⟩
      · have t := t.2 c9
        refine g_iconst (v := (-1)) dX8_asked_38 (by decide) ?_
        exact g_iret (st := []) dX8_asked_39 (fun e => by cases e) ⟨_, rfl, t⟩
theorem w_X8_asked_86 {Q : Int32 → tS → Prop} {S : tS} (l1 : Int32) (l2 : Int32) (l3 : Int32) (l4 : Int32) (l5 : Int32) (l6 : Int32) (l7 : Int32) (l8 : Int32)  (t : ((l4 ≤ l8 → tk_Gs mX8_asked none 115 [.ref 45, .int l1, .int l2, .int l3, .int l4, .int l5, .int l6, .int l7, .int (-4), .int 1, .null, .null] [] S Q) ∧ (¬ l4 ≤ l8 → (vp_in l8 6 ∧ tk_Gs mX8_asked none 86 [.ref 45, .int l1, .int l2, .int l3, .int l4, .int l5, .int l6, .int l7, .int (l8 + 1), .null, .null, .null] [] (tk_up S 61 l8.toNatClampNeg l8) Q)))) : tk_Gs mX8_asked none 86 [.ref 45, .int l1, .int l2, .int l3, .int l4, .int l5, .int l6, .int l7, .int l8, .null, .null, .null] [] S Q := by
  show tk_G _ 0 0 _ _ _ _ (tkSH, S, tkRF) _
  refine g_iload dX8_asked_86 rfl ?_
  refine g_iload dX8_asked_88 rfl ?_
  refine g_icmp_ge (tgt := 108) dX8_asked_90 (by decide) (fun c1 => ?_) (fun c1 => ?_)
  · have t := t.1 c1
    refine g_bipush (v := (-4)) dX8_asked_108 (by decide) ?_
    refine g_istore (ls' := [.ref 45, .int l1, .int l2, .int l3, .int l4, .int l5, .int l6, .int l7, .int (-4), .null, .null, .null]) dX8_asked_110 rfl (by decide) rfl ?_
    refine g_iconst (v := 1) dX8_asked_112 (by decide) ?_
    refine g_istore (ls' := [.ref 45, .int l1, .int l2, .int l3, .int l4, .int l5, .int l6, .int l7, .int (-4), .int 1, .null, .null]) dX8_asked_113 rfl (by decide) rfl ?_
    exact t
  · have t := t.2 c1
    refine g_aload_n dX8_asked_93 rfl ?_
    refine g_getR (n := 25) dX8_asked_94 fl_X8_55 rfl (by decide) (by decide) rfl rfl ?_
    refine g_iload dX8_asked_97 rfl ?_
    refine g_iload dX8_asked_99 rfl ?_
    refine g_iast (n := 6) dX8_asked_101 rfl t.1 ?_
    have t := t.2
    refine g_iinc (v := l8 + 1) (ls' := [.ref 45, .int l1, .int l2, .int l3, .int l4, .int l5, .int l6, .int l7, .int (l8 + 1), .null, .null, .null]) dX8_asked_102 rfl rfl (by decide) rfl rfl ?_
    refine g_goto (tgt := 86) dX8_asked_105 (by decide) ?_
    exact t
theorem w_X8_asked_115 {Q : Int32 → tS → Prop} {S : tS} (l1 : Int32) (l2 : Int32) (l3 : Int32) (l4 : Int32) (l5 : Int32) (l6 : Int32) (l7 : Int32) (l8 : Int32) (l9 : Int32)  (t : ((l9 = 0 → ((l8 < 0 → Q l8 S) ∧ (¬ l8 < 0 → ((0 ≤ l5 → (vp_in l5 6 ∧ Q (S 62 l5.toNatClampNeg) S)) ∧ (¬ 0 ≤ l5 → Q l8 S))))) ∧ (¬ l9 = 0 → (tk_Ms mX8_areClean [.ref 45, .int l7, .int l4] S (fun x4 S5 => ((x4 = 0 → ((99 ≤ (99 : Int32) → (tk_Ms mX8_nextOrder [.ref 45, .int l4] S5 (fun x8 S9 => tk_Gs mX8_asked none 115 [.ref 45, .int l1, .int l2, .int l3, .int l4, .int l5, .int l6, .int l7, .int l8, .int x8, .null, .null] [] S9 Q))) ∧ (¬ 99 ≤ (99 : Int32) → ((l8 < 0 → tk_Gs mX8_asked none 173 [.ref 45, .int l1, .int l2, .int l3, .int l4, .int l5, .int l6, .int l7, .int 99, .int l9, .int 99, .int 0] [] S5 Q) ∧ (¬ l8 < 0 → ((l8 ≤ (99 : Int32) → (tk_Ms mX8_nextOrder [.ref 45, .int l4] S5 (fun x12 S13 => tk_Gs mX8_asked none 115 [.ref 45, .int l1, .int l2, .int l3, .int l4, .int l5, .int l6, .int l7, .int l8, .int x12, .null, .null] [] S13 Q))) ∧ (¬ l8 ≤ (99 : Int32) → tk_Gs mX8_asked none 173 [.ref 45, .int l1, .int l2, .int l3, .int l4, .int l5, .int l6, .int l7, .int 99, .int l9, .int 99, .int 0] [] S5 Q))))))) ∧ (¬ x4 = 0 → (tk_Ms mX8_rings [.ref 45, .int l4] S5 (fun x14 S15 => ((99 ≤ (l4 - x14) → (tk_Ms mX8_nextOrder [.ref 45, .int l4] S15 (fun x17 S18 => tk_Gs mX8_asked none 115 [.ref 45, .int l1, .int l2, .int l3, .int l4, .int l5, .int l6, .int l7, .int l8, .int x17, .null, .null] [] S18 Q))) ∧ (¬ 99 ≤ (l4 - x14) → ((l8 < 0 → tk_Gs mX8_asked none 173 [.ref 45, .int l1, .int l2, .int l3, .int l4, .int l5, .int l6, .int l7, .int (l4 - x14), .int l9, .int (l4 - x14), .int 0] [] S15 Q) ∧ (¬ l8 < 0 → ((l8 ≤ (l4 - x14) → (tk_Ms mX8_nextOrder [.ref 45, .int l4] S15 (fun x21 S22 => tk_Gs mX8_asked none 115 [.ref 45, .int l1, .int l2, .int l3, .int l4, .int l5, .int l6, .int l7, .int l8, .int x21, .null, .null] [] S22 Q))) ∧ (¬ l8 ≤ (l4 - x14) → tk_Gs mX8_asked none 173 [.ref 45, .int l1, .int l2, .int l3, .int l4, .int l5, .int l6, .int l7, .int (l4 - x14), .int l9, .int (l4 - x14), .int 0] [] S15 Q))))))))))))))) : tk_Gs mX8_asked none 115 [.ref 45, .int l1, .int l2, .int l3, .int l4, .int l5, .int l6, .int l7, .int l8, .int l9, .null, .null] [] S Q := by
  show tk_G _ 0 0 _ _ _ _ (tkSH, S, tkRF) _
  refine g_iload dX8_asked_115 rfl ?_
  refine g_if_eq (tgt := 211) dX8_asked_117 (by decide) (fun c1 => ?_) (fun c1 => ?_)
  · have t := t.1 c1
    refine g_iload dX8_asked_211 rfl ?_
    refine g_if_lt (tgt := 221) dX8_asked_213 (by decide) (fun c2 => ?_) (fun c2 => ?_)
    · have t := t.1 c2
      refine g_iload dX8_asked_221 rfl ?_
      refine g_goto (tgt := 233) dX8_asked_223 (by decide) ?_
      exact g_iret (st := []) dX8_asked_233 (fun e => by cases e) ⟨_, rfl, t⟩
    · have t := t.2 c2
      refine g_iload dX8_asked_216 rfl ?_
      refine g_if_ge (tgt := 226) dX8_asked_218 (by decide) (fun c3 => ?_) (fun c3 => ?_)
      · have t := t.1 c3
        refine g_aload_n dX8_asked_226 rfl ?_
        refine g_getR (n := 25) dX8_asked_227 fl_X8_58 rfl (by decide) (by decide) rfl rfl ?_
        refine g_iload dX8_asked_230 rfl ?_
        refine g_iald (n := 6) dX8_asked_232 rfl t.1 ?_
        have t := t.2
        exact g_iret (st := []) dX8_asked_233 (fun e => by cases e) ⟨_, rfl, t⟩
      · have t := t.2 c3
        refine g_iload dX8_asked_221 rfl ?_
        refine g_goto (tgt := 233) dX8_asked_223 (by decide) ?_
        exact g_iret (st := []) dX8_asked_233 (fun e => by cases e) ⟨_, rfl, t⟩
  · have t := t.2 c1
    refine g_aload_n dX8_asked_120 rfl ?_
    refine g_iload dX8_asked_121 rfl ?_
    refine g_iload dX8_asked_123 rfl ?_
    refine s_V2i dX8_asked_125 vm_X8_areClean ml_X8_244 rfl rfl (by decide) (Nat.le_of_ble_eq_true rfl) rfl (tk_Ms.mono t (fun x4 S5 t => ?_))
    refine g_if_eq (tgt := 143) dX8_asked_128 (by decide) (fun c6 => ?_) (fun c6 => ?_)
    · have t := t.1 c6
      refine g_bipush (v := 99) dX8_asked_143 (by decide) ?_
      refine g_istore (ls' := [.ref 45, .int l1, .int l2, .int l3, .int l4, .int l5, .int l6, .int l7, .int l8, .int l9, .int 99, .null]) dX8_asked_145 rfl (by decide) rfl ?_
      refine g_iload dX8_asked_147 rfl ?_
      refine g_bipush (v := 99) dX8_asked_149 (by decide) ?_
      refine g_icmp_ge (tgt := 200) dX8_asked_151 (by decide) (fun c7 => ?_) (fun c7 => ?_)
      · have t := t.1 c7
        refine g_aload_n dX8_asked_200 rfl ?_
        refine g_iload dX8_asked_201 rfl ?_
        refine s_V1i dX8_asked_203 vm_X8_nextOrder ml_X8_250 rfl rfl (by decide) (Nat.le_of_ble_eq_true rfl) rfl (tk_Ms.mono t (fun x8 S9 t => ?_))
        refine g_istore (ls' := [.ref 45, .int l1, .int l2, .int l3, .int l4, .int l5, .int l6, .int l7, .int l8, .int x8, .int 99, .null]) dX8_asked_206 rfl (by decide) rfl ?_
        refine g_goto (tgt := 115) dX8_asked_208 (by decide) ?_
        refine g_drop (ls' := [.ref 45, .int l1, .int l2, .int l3, .int l4, .int l5, .int l6, .int l7, .int l8, .int x8, .null, .null]) ⟨Or.inl rfl, Or.inl rfl, Or.inl rfl, Or.inl rfl, Or.inl rfl, Or.inl rfl, Or.inl rfl, Or.inl rfl, Or.inl rfl, Or.inl rfl, Or.inr rfl, Or.inl rfl, trivial⟩ ?_
        exact t
      · have t := t.2 c7
        refine g_iload dX8_asked_154 rfl ?_
        refine g_if_lt (tgt := 166) dX8_asked_156 (by decide) (fun c10 => ?_) (fun c10 => ?_)
        · have t := t.1 c10
          refine g_iload dX8_asked_166 rfl ?_
          refine g_istore (ls' := [.ref 45, .int l1, .int l2, .int l3, .int l4, .int l5, .int l6, .int l7, .int 99, .int l9, .int 99, .null]) dX8_asked_168 rfl (by decide) rfl ?_
          refine g_iconst (v := 0) dX8_asked_170 (by decide) ?_
          refine g_istore (ls' := [.ref 45, .int l1, .int l2, .int l3, .int l4, .int l5, .int l6, .int l7, .int 99, .int l9, .int 99, .int 0]) dX8_asked_171 rfl (by decide) rfl ?_
          exact t
        · have t := t.2 c10
          refine g_iload dX8_asked_159 rfl ?_
          refine g_iload dX8_asked_161 rfl ?_
          refine g_icmp_ge (tgt := 200) dX8_asked_163 (by decide) (fun c11 => ?_) (fun c11 => ?_)
          · have t := t.1 c11
            refine g_aload_n dX8_asked_200 rfl ?_
            refine g_iload dX8_asked_201 rfl ?_
            refine s_V1i dX8_asked_203 vm_X8_nextOrder ml_X8_250 rfl rfl (by decide) (Nat.le_of_ble_eq_true rfl) rfl (tk_Ms.mono t (fun x12 S13 t => ?_))
            refine g_istore (ls' := [.ref 45, .int l1, .int l2, .int l3, .int l4, .int l5, .int l6, .int l7, .int l8, .int x12, .int 99, .null]) dX8_asked_206 rfl (by decide) rfl ?_
            refine g_goto (tgt := 115) dX8_asked_208 (by decide) ?_
            refine g_drop (ls' := [.ref 45, .int l1, .int l2, .int l3, .int l4, .int l5, .int l6, .int l7, .int l8, .int x12, .null, .null]) ⟨Or.inl rfl, Or.inl rfl, Or.inl rfl, Or.inl rfl, Or.inl rfl, Or.inl rfl, Or.inl rfl, Or.inl rfl, Or.inl rfl, Or.inl rfl, Or.inr rfl, Or.inl rfl, trivial⟩ ?_
            exact t
          · have t := t.2 c11
            refine g_iload dX8_asked_166 rfl ?_
            refine g_istore (ls' := [.ref 45, .int l1, .int l2, .int l3, .int l4, .int l5, .int l6, .int l7, .int 99, .int l9, .int 99, .null]) dX8_asked_168 rfl (by decide) rfl ?_
            refine g_iconst (v := 0) dX8_asked_170 (by decide) ?_
            refine g_istore (ls' := [.ref 45, .int l1, .int l2, .int l3, .int l4, .int l5, .int l6, .int l7, .int 99, .int l9, .int 99, .int 0]) dX8_asked_171 rfl (by decide) rfl ?_
            exact t
    · have t := t.2 c6
      refine g_iload dX8_asked_131 rfl ?_
      refine g_aload_n dX8_asked_133 rfl ?_
      refine g_iload dX8_asked_134 rfl ?_
      refine s_V1i dX8_asked_136 vm_X8_rings ml_X8_247 rfl rfl (by decide) (Nat.le_of_ble_eq_true rfl) rfl (tk_Ms.mono t (fun x14 S15 t => ?_))
      refine g_isub dX8_asked_139 ?_
      refine g_goto (tgt := 145) dX8_asked_140 (by decide) ?_
      refine g_istore (ls' := [.ref 45, .int l1, .int l2, .int l3, .int l4, .int l5, .int l6, .int l7, .int l8, .int l9, .int (l4 - x14), .null]) dX8_asked_145 rfl (by decide) rfl ?_
      refine g_iload dX8_asked_147 rfl ?_
      refine g_bipush (v := 99) dX8_asked_149 (by decide) ?_
      refine g_icmp_ge (tgt := 200) dX8_asked_151 (by decide) (fun c16 => ?_) (fun c16 => ?_)
      · have t := t.1 c16
        refine g_aload_n dX8_asked_200 rfl ?_
        refine g_iload dX8_asked_201 rfl ?_
        refine s_V1i dX8_asked_203 vm_X8_nextOrder ml_X8_250 rfl rfl (by decide) (Nat.le_of_ble_eq_true rfl) rfl (tk_Ms.mono t (fun x17 S18 t => ?_))
        refine g_istore (ls' := [.ref 45, .int l1, .int l2, .int l3, .int l4, .int l5, .int l6, .int l7, .int l8, .int x17, .int (l4 - x14), .null]) dX8_asked_206 rfl (by decide) rfl ?_
        refine g_goto (tgt := 115) dX8_asked_208 (by decide) ?_
        refine g_drop (ls' := [.ref 45, .int l1, .int l2, .int l3, .int l4, .int l5, .int l6, .int l7, .int l8, .int x17, .null, .null]) ⟨Or.inl rfl, Or.inl rfl, Or.inl rfl, Or.inl rfl, Or.inl rfl, Or.inl rfl, Or.inl rfl, Or.inl rfl, Or.inl rfl, Or.inl rfl, Or.inr rfl, Or.inl rfl, trivial⟩ ?_
        exact t
      · have t := t.2 c16
        refine g_iload dX8_asked_154 rfl ?_
        refine g_if_lt (tgt := 166) dX8_asked_156 (by decide) (fun c19 => ?_) (fun c19 => ?_)
        · have t := t.1 c19
          refine g_iload dX8_asked_166 rfl ?_
          refine g_istore (ls' := [.ref 45, .int l1, .int l2, .int l3, .int l4, .int l5, .int l6, .int l7, .int (l4 - x14), .int l9, .int (l4 - x14), .null]) dX8_asked_168 rfl (by decide) rfl ?_
          refine g_iconst (v := 0) dX8_asked_170 (by decide) ?_
          refine g_istore (ls' := [.ref 45, .int l1, .int l2, .int l3, .int l4, .int l5, .int l6, .int l7, .int (l4 - x14), .int l9, .int (l4 - x14), .int 0]) dX8_asked_171 rfl (by decide) rfl ?_
          exact t
        · have t := t.2 c19
          refine g_iload dX8_asked_159 rfl ?_
          refine g_iload dX8_asked_161 rfl ?_
          refine g_icmp_ge (tgt := 200) dX8_asked_163 (by decide) (fun c20 => ?_) (fun c20 => ?_)
          · have t := t.1 c20
            refine g_aload_n dX8_asked_200 rfl ?_
            refine g_iload dX8_asked_201 rfl ?_
            refine s_V1i dX8_asked_203 vm_X8_nextOrder ml_X8_250 rfl rfl (by decide) (Nat.le_of_ble_eq_true rfl) rfl (tk_Ms.mono t (fun x21 S22 t => ?_))
            refine g_istore (ls' := [.ref 45, .int l1, .int l2, .int l3, .int l4, .int l5, .int l6, .int l7, .int l8, .int x21, .int (l4 - x14), .null]) dX8_asked_206 rfl (by decide) rfl ?_
            refine g_goto (tgt := 115) dX8_asked_208 (by decide) ?_
            refine g_drop (ls' := [.ref 45, .int l1, .int l2, .int l3, .int l4, .int l5, .int l6, .int l7, .int l8, .int x21, .null, .null]) ⟨Or.inl rfl, Or.inl rfl, Or.inl rfl, Or.inl rfl, Or.inl rfl, Or.inl rfl, Or.inl rfl, Or.inl rfl, Or.inl rfl, Or.inl rfl, Or.inr rfl, Or.inl rfl, trivial⟩ ?_
            exact t
          · have t := t.2 c20
            refine g_iload dX8_asked_166 rfl ?_
            refine g_istore (ls' := [.ref 45, .int l1, .int l2, .int l3, .int l4, .int l5, .int l6, .int l7, .int (l4 - x14), .int l9, .int (l4 - x14), .null]) dX8_asked_168 rfl (by decide) rfl ?_
            refine g_iconst (v := 0) dX8_asked_170 (by decide) ?_
            refine g_istore (ls' := [.ref 45, .int l1, .int l2, .int l3, .int l4, .int l5, .int l6, .int l7, .int (l4 - x14), .int l9, .int (l4 - x14), .int 0]) dX8_asked_171 rfl (by decide) rfl ?_
            exact t
theorem w_X8_asked_173 {Q : Int32 → tS → Prop} {S : tS} (l1 : Int32) (l2 : Int32) (l3 : Int32) (l4 : Int32) (l5 : Int32) (l6 : Int32) (l7 : Int32) (l8 : Int32) (l9 : Int32) (l10 : Int32) (l11 : Int32)  (t : ((l4 ≤ l11 → (tk_Ms mX8_nextOrder [.ref 45, .int l4] S (fun x2 S3 => tk_Gs mX8_asked none 115 [.ref 45, .int l1, .int l2, .int l3, .int l4, .int l5, .int l6, .int l7, .int l8, .int x2, .null, .null] [] S3 Q))) ∧ (¬ l4 ≤ l11 → (vp_in l11 6 ∧ (vp_in l11 6 ∧ tk_Gs mX8_asked none 173 [.ref 45, .int l1, .int l2, .int l3, .int l4, .int l5, .int l6, .int l7, .int l8, .int l9, .int l10, .int (l11 + 1)] [] (tk_up S 62 l11.toNatClampNeg (S 61 l11.toNatClampNeg)) Q))))) : tk_Gs mX8_asked none 173 [.ref 45, .int l1, .int l2, .int l3, .int l4, .int l5, .int l6, .int l7, .int l8, .int l9, .int l10, .int l11] [] S Q := by
  show tk_G _ 0 0 _ _ _ _ (tkSH, S, tkRF) _
  refine g_iload dX8_asked_173 rfl ?_
  refine g_iload dX8_asked_175 rfl ?_
  refine g_icmp_ge (tgt := 200) dX8_asked_177 (by decide) (fun c1 => ?_) (fun c1 => ?_)
  · have t := t.1 c1
    refine g_aload_n dX8_asked_200 rfl ?_
    refine g_iload dX8_asked_201 rfl ?_
    refine s_V1i dX8_asked_203 vm_X8_nextOrder ml_X8_250 rfl rfl (by decide) (Nat.le_of_ble_eq_true rfl) rfl (tk_Ms.mono t (fun x2 S3 t => ?_))
    refine g_istore (ls' := [.ref 45, .int l1, .int l2, .int l3, .int l4, .int l5, .int l6, .int l7, .int l8, .int x2, .int l10, .int l11]) dX8_asked_206 rfl (by decide) rfl ?_
    refine g_goto (tgt := 115) dX8_asked_208 (by decide) ?_
    refine g_drop (ls' := [.ref 45, .int l1, .int l2, .int l3, .int l4, .int l5, .int l6, .int l7, .int l8, .int x2, .null, .null]) ⟨Or.inl rfl, Or.inl rfl, Or.inl rfl, Or.inl rfl, Or.inl rfl, Or.inl rfl, Or.inl rfl, Or.inl rfl, Or.inl rfl, Or.inl rfl, Or.inr rfl, Or.inr rfl, trivial⟩ ?_
    exact t
  · have t := t.2 c1
    refine g_aload_n dX8_asked_180 rfl ?_
    refine g_getR (n := 25) dX8_asked_181 fl_X8_58 rfl (by decide) (by decide) rfl rfl ?_
    refine g_iload dX8_asked_184 rfl ?_
    refine g_aload_n dX8_asked_186 rfl ?_
    refine g_getR (n := 25) dX8_asked_187 fl_X8_55 rfl (by decide) (by decide) rfl rfl ?_
    refine g_iload dX8_asked_190 rfl ?_
    refine g_iald (n := 6) dX8_asked_192 rfl t.1 ?_
    have t := t.2
    refine g_iast (n := 6) dX8_asked_193 rfl t.1 ?_
    have t := t.2
    refine g_iinc (v := l11 + 1) (ls' := [.ref 45, .int l1, .int l2, .int l3, .int l4, .int l5, .int l6, .int l7, .int l8, .int l9, .int l10, .int (l11 + 1)]) dX8_asked_194 rfl rfl (by decide) rfl rfl ?_
    refine g_goto (tgt := 173) dX8_asked_197 (by decide) ?_
    exact t
theorem w_X8_film {Q : Int32 → tS → Prop} {S : tS} (p1 : Int32) (p2 : Int32) (p3 : Int32) (t : (tk_Ms mX8_isSheet [.int p1, .int p2] S (fun x1 S2 => ((¬ x1 = 0 → (tk_Ms mX8_lacksRow [.ref 45, .int p1, .int p2, .int p3, .int (S2 45 9)] S2 (fun x4 S5 => ((0 ≤ x4 → tk_Gs mX8_film none 34 [.ref 45, .int p1, .int p2, .int p3, .int x4, .int 0] [] S5 (tk_okQ mX8_film Q)) ∧ (¬ 0 ≤ x4 → (tk_okQ mX8_film Q) x4 S5))))) ∧ (x1 = 0 → (tk_okQ mX8_film Q) (-1) S2))))) : tk_Ms mX8_film [.ref 45, .int p1, .int p2, .int p3] S Q := by
  refine tk_Ms.of (ls := [.ref 45, .int p1, .int p2, .int p3, .null, .null]) (by decide) (by first | exact Or.inl rfl | exact Or.inr (Or.inl rfl) | exact Or.inr (Or.inr rfl)) (Nat.le_of_ble_eq_true rfl) rfl ?_
  refine g_iload_n dX8_film_0 rfl ?_
  refine g_iload_n dX8_film_1 rfl ?_
  refine s_S2i dX8_film_2 sm_X8_isSheet ml_X8_230 rfl (by decide) (Nat.le_of_ble_eq_true rfl) rfl (tk_Ms.mono t (fun x1 S2 t => ?_))
  refine g_if_ne (tgt := 10) dX8_film_5 (by decide) (fun c3 => ?_) (fun c3 => ?_)
  · have t := t.1 c3
    refine g_aload_n dX8_film_10 rfl ?_
    refine g_iload_n dX8_film_11 rfl ?_
    refine g_iload_n dX8_film_12 rfl ?_
    refine g_iload_n dX8_film_13 rfl ?_
    refine g_aload_n dX8_film_14 rfl ?_
    refine g_getI (n := 25) dX8_film_15 fl_X8_70 rfl (by decide) (by decide) rfl ?_
    refine s_V4i dX8_film_18 vm_X8_lacksRow ml_X8_233 rfl rfl (by decide) (Nat.le_of_ble_eq_true rfl) rfl (tk_Ms.mono t (fun x4 S5 t => ?_))
    refine g_istore (ls' := [.ref 45, .int p1, .int p2, .int p3, .int x4, .null]) dX8_film_21 rfl (by decide) rfl ?_
    refine g_iload dX8_film_23 rfl ?_
    refine g_if_ge (tgt := 31) dX8_film_25 (by decide) (fun c6 => ?_) (fun c6 => ?_)
    · have t := t.1 c6
      refine g_iconst (v := 0) dX8_film_31 (by decide) ?_
      refine g_istore (ls' := [.ref 45, .int p1, .int p2, .int p3, .int x4, .int 0]) dX8_film_32 rfl (by decide) rfl ?_
      exact t
    · have t := t.2 c6
      refine g_iload dX8_film_28 rfl ?_
      exact g_iret (st := []) dX8_film_30 (fun e => by cases e) ⟨_, rfl, t⟩
  · have t := t.2 c3
    refine g_iconst (v := (-1)) dX8_film_8 (by decide) ?_
    exact g_iret (st := []) dX8_film_9 (fun e => by cases e) ⟨_, rfl, t⟩
theorem w_X8_film_34 {Q : Int32 → tS → Prop} {S : tS} (l1 : Int32) (l2 : Int32) (l3 : Int32) (l4 : Int32) (l5 : Int32)  (t : (((S 45 9) ≤ l5 → Q (S 45 9) S) ∧ (¬ (S 45 9) ≤ l5 → (vp_in l5 8 ∧ (vp_in (((24 * l1) + l3) + l5) 96 ∧ tk_Gs mX8_film none 34 [.ref 45, .int l1, .int l2, .int l3, .int l4, .int (l5 + 1)] [] (tk_up S 60 (((24 * l1) + l3) + l5).toNatClampNeg (S 52 l5.toNatClampNeg)) Q))))) : tk_Gs mX8_film none 34 [.ref 45, .int l1, .int l2, .int l3, .int l4, .int l5] [] S Q := by
  show tk_G _ 0 0 _ _ _ _ (tkSH, S, tkRF) _
  refine g_iload dX8_film_34 rfl ?_
  refine g_aload_n dX8_film_36 rfl ?_
  refine g_getI (n := 25) dX8_film_37 fl_X8_70 rfl (by decide) (by decide) rfl ?_
  refine g_icmp_ge (tgt := 70) dX8_film_40 (by decide) (fun c1 => ?_) (fun c1 => ?_)
  · have t := t.1 c1
    refine g_aload_n dX8_film_70 rfl ?_
    refine g_getI (n := 25) dX8_film_71 fl_X8_70 rfl (by decide) (by decide) rfl ?_
    exact g_iret (st := []) dX8_film_74 (fun e => by cases e) ⟨_, rfl, t⟩
  · have t := t.2 c1
    refine g_aload_n dX8_film_43 rfl ?_
    refine g_getR (n := 25) dX8_film_44 fl_X8_52 rfl (by decide) (by decide) rfl rfl ?_
    refine g_bipush (v := 24) dX8_film_47 (by decide) ?_
    refine g_iload_n dX8_film_49 rfl ?_
    refine g_imul dX8_film_50 ?_
    refine g_iload_n dX8_film_51 rfl ?_
    refine g_iadd dX8_film_52 ?_
    refine g_iload dX8_film_53 rfl ?_
    refine g_iadd dX8_film_55 ?_
    refine g_aload_n dX8_film_56 rfl ?_
    refine g_getR (n := 25) dX8_film_57 fl_X8_28 rfl (by decide) (by decide) rfl rfl ?_
    refine g_iload dX8_film_60 rfl ?_
    refine g_iald (n := 8) dX8_film_62 rfl t.1 ?_
    have t := t.2
    refine g_iast (n := 96) dX8_film_63 rfl t.1 ?_
    have t := t.2
    refine g_iinc (v := l5 + 1) (ls' := [.ref 45, .int l1, .int l2, .int l3, .int l4, .int (l5 + 1)]) dX8_film_64 rfl rfl (by decide) rfl rfl ?_
    refine g_goto (tgt := 34) dX8_film_67 (by decide) ?_
    exact t
theorem w_X8_copy {Q : Int32 → tS → Prop} {S : tS} (p1 : Int32) (p2 : Int32) (p3 : Int32) (p4 : Int32) (p5 : Int32) (t : (tk_Ms mX8_in [.long ((p1 : Int32).toInt64), .long (0 : Int64), .long (3 : Int64)] S (fun x1 S2 => ((x1 = 0 → (tk_okQ mX8_copy Q) (-1) S2) ∧ (¬ x1 = 0 → (tk_Ms mX8_in [.long ((p3 : Int32).toInt64), .long (0 : Int64), .long (3 : Int64)] S2 (fun x4 S5 => ((¬ x4 = 0 → (vp_in p1 4 ∧ (((S5 58 p1.toNatClampNeg) < 0 → (tk_okQ mX8_copy Q) (-11) S5) ∧ (¬ (S5 58 p1.toNatClampNeg) < 0 → (vp_in p3 4 ∧ ((0 ≤ (S5 58 p3.toNatClampNeg) → (vp_in p1 4 ∧ (vp_in p3 4 ∧ (((S5 58 p1.toNatClampNeg) = (S5 58 p3.toNatClampNeg) → ((p5 < 0 → (tk_okQ mX8_copy Q) (-13) S5) ∧ (¬ p5 < 0 → (vp_in p1 4 ∧ (tk_Ms mX8_in [.long ((p2 : Int32).toInt64), .long (0 : Int64), .long (((S5 59 p1.toNatClampNeg : Int32).toInt64) - ((p5 : Int32).toInt64))] S5 (fun x11 S12 => ((x11 = 0 → (tk_okQ mX8_copy Q) (-13) S12) ∧ (¬ x11 = 0 → (vp_in p3 4 ∧ (tk_Ms mX8_in [.long ((p4 : Int32).toInt64), .long (0 : Int64), .long (((S12 59 p3.toNatClampNeg : Int32).toInt64) - ((p5 : Int32).toInt64))] S12 (fun x14 S15 => ((¬ x14 = 0 → tk_Gs mX8_copy none 117 [.ref 45, .int p1, .int p2, .int p3, .int p4, .int p5, .int 0] [] S15 (tk_okQ mX8_copy Q)) ∧ (x14 = 0 → (tk_okQ mX8_copy Q) (-13) S15))))))))))))) ∧ (¬ (S5 58 p1.toNatClampNeg) = (S5 58 p3.toNatClampNeg) → (tk_okQ mX8_copy Q) (-12) S5))))) ∧ (¬ 0 ≤ (S5 58 p3.toNatClampNeg) → (tk_okQ mX8_copy Q) (-11) S5))))))) ∧ (x4 = 0 → (tk_okQ mX8_copy Q) (-1) S5))))))))) : tk_Ms mX8_copy [.ref 45, .int p1, .int p2, .int p3, .int p4, .int p5] S Q := by
  refine tk_Ms.of (ls := [.ref 45, .int p1, .int p2, .int p3, .int p4, .int p5, .null]) (by decide) (by first | exact Or.inl rfl | exact Or.inr (Or.inl rfl) | exact Or.inr (Or.inr rfl)) (Nat.le_of_ble_eq_true rfl) rfl ?_
  refine g_iload_n dX8_copy_0 rfl ?_
  refine g_i2l dX8_copy_1 ?_
  refine g_lconst (v := 0) dX8_copy_2 (by decide) ?_
  refine g_ldc2 (v := 3) dX8_copy_3 kl_X8_87 ?_
  refine s_S3i dX8_copy_6 sm_X8_in ml_X8_66 rfl (by decide) (Nat.le_of_ble_eq_true rfl) rfl (tk_Ms.mono t (fun x1 S2 t => ?_))
  refine g_if_eq (tgt := 24) dX8_copy_9 (by decide) (fun c3 => ?_) (fun c3 => ?_)
  · have t := t.1 c3
    refine g_iconst (v := (-1)) dX8_copy_24 (by decide) ?_
    exact g_iret (st := []) dX8_copy_25 (fun e => by cases e) ⟨_, rfl, t⟩
  · have t := t.2 c3
    refine g_iload_n dX8_copy_12 rfl ?_
    refine g_i2l dX8_copy_13 ?_
    refine g_lconst (v := 0) dX8_copy_14 (by decide) ?_
    refine g_ldc2 (v := 3) dX8_copy_15 kl_X8_87 ?_
    refine s_S3i dX8_copy_18 sm_X8_in ml_X8_66 rfl (by decide) (Nat.le_of_ble_eq_true rfl) rfl (tk_Ms.mono t (fun x4 S5 t => ?_))
    refine g_if_ne (tgt := 26) dX8_copy_21 (by decide) (fun c6 => ?_) (fun c6 => ?_)
    · have t := t.1 c6
      refine g_aload_n dX8_copy_26 rfl ?_
      refine g_getR (n := 25) dX8_copy_27 fl_X8_46 rfl (by decide) (by decide) rfl rfl ?_
      refine g_iload_n dX8_copy_30 rfl ?_
      refine g_iald (n := 4) dX8_copy_31 rfl t.1 ?_
      have t := t.2
      refine g_if_lt (tgt := 44) dX8_copy_32 (by decide) (fun c7 => ?_) (fun c7 => ?_)
      · have t := t.1 c7
        refine g_bipush (v := (-11)) dX8_copy_44 (by decide) ?_
        exact g_iret (st := []) dX8_copy_46 (fun e => by cases e) ⟨_, rfl, t⟩
      · have t := t.2 c7
        refine g_aload_n dX8_copy_35 rfl ?_
        refine g_getR (n := 25) dX8_copy_36 fl_X8_46 rfl (by decide) (by decide) rfl rfl ?_
        refine g_iload_n dX8_copy_39 rfl ?_
        refine g_iald (n := 4) dX8_copy_40 rfl t.1 ?_
        have t := t.2
        refine g_if_ge (tgt := 47) dX8_copy_41 (by decide) (fun c8 => ?_) (fun c8 => ?_)
        · have t := t.1 c8
          refine g_aload_n dX8_copy_47 rfl ?_
          refine g_getR (n := 25) dX8_copy_48 fl_X8_46 rfl (by decide) (by decide) rfl rfl ?_
          refine g_iload_n dX8_copy_51 rfl ?_
          refine g_iald (n := 4) dX8_copy_52 rfl t.1 ?_
          have t := t.2
          refine g_aload_n dX8_copy_53 rfl ?_
          refine g_getR (n := 25) dX8_copy_54 fl_X8_46 rfl (by decide) (by decide) rfl rfl ?_
          refine g_iload_n dX8_copy_57 rfl ?_
          refine g_iald (n := 4) dX8_copy_58 rfl t.1 ?_
          have t := t.2
          refine g_icmp_eq (tgt := 65) dX8_copy_59 (by decide) (fun c9 => ?_) (fun c9 => ?_)
          · have t := t.1 c9
            refine g_iload dX8_copy_65 rfl ?_
            refine g_if_lt (tgt := 111) dX8_copy_67 (by decide) (fun c10 => ?_) (fun c10 => ?_)
            · have t := t.1 c10
              refine g_bipush (v := (-13)) dX8_copy_111 (by decide) ?_
              exact g_iret (st := []) dX8_copy_113 (fun e => by cases e) ⟨_, rfl, t⟩
            · have t := t.2 c10
              refine g_iload_n dX8_copy_70 rfl ?_
              refine g_i2l dX8_copy_71 ?_
              refine g_lconst (v := 0) dX8_copy_72 (by decide) ?_
              refine g_aload_n dX8_copy_73 rfl ?_
              refine g_getR (n := 25) dX8_copy_74 fl_X8_49 rfl (by decide) (by decide) rfl rfl ?_
              refine g_iload_n dX8_copy_77 rfl ?_
              refine g_iald (n := 4) dX8_copy_78 rfl t.1 ?_
              have t := t.2
              refine g_i2l dX8_copy_79 ?_
              refine g_iload dX8_copy_80 rfl ?_
              refine g_i2l dX8_copy_82 ?_
              refine g_lsub dX8_copy_83 ?_
              refine s_S3i dX8_copy_84 sm_X8_in ml_X8_66 rfl (by decide) (Nat.le_of_ble_eq_true rfl) rfl (tk_Ms.mono t (fun x11 S12 t => ?_))
              refine g_if_eq (tgt := 111) dX8_copy_87 (by decide) (fun c13 => ?_) (fun c13 => ?_)
              · have t := t.1 c13
                refine g_bipush (v := (-13)) dX8_copy_111 (by decide) ?_
                exact g_iret (st := []) dX8_copy_113 (fun e => by cases e) ⟨_, rfl, t⟩
              · have t := t.2 c13
                refine g_iload dX8_copy_90 rfl ?_
                refine g_i2l dX8_copy_92 ?_
                refine g_lconst (v := 0) dX8_copy_93 (by decide) ?_
                refine g_aload_n dX8_copy_94 rfl ?_
                refine g_getR (n := 25) dX8_copy_95 fl_X8_49 rfl (by decide) (by decide) rfl rfl ?_
                refine g_iload_n dX8_copy_98 rfl ?_
                refine g_iald (n := 4) dX8_copy_99 rfl t.1 ?_
                have t := t.2
                refine g_i2l dX8_copy_100 ?_
                refine g_iload dX8_copy_101 rfl ?_
                refine g_i2l dX8_copy_103 ?_
                refine g_lsub dX8_copy_104 ?_
                refine s_S3i dX8_copy_105 sm_X8_in ml_X8_66 rfl (by decide) (Nat.le_of_ble_eq_true rfl) rfl (tk_Ms.mono t (fun x14 S15 t => ?_))
                refine g_if_ne (tgt := 114) dX8_copy_108 (by decide) (fun c16 => ?_) (fun c16 => ?_)
                · have t := t.1 c16
                  refine g_iconst (v := 0) dX8_copy_114 (by decide) ?_
                  refine g_istore (ls' := [.ref 45, .int p1, .int p2, .int p3, .int p4, .int p5, .int 0]) dX8_copy_115 rfl (by decide) rfl ?_
                  exact t
                · have t := t.2 c16
                  refine g_bipush (v := (-13)) dX8_copy_111 (by decide) ?_
                  exact g_iret (st := []) dX8_copy_113 (fun e => by cases e) ⟨_, rfl, t⟩
          · have t := t.2 c9
            refine g_bipush (v := (-12)) dX8_copy_62 (by decide) ?_
            exact g_iret (st := []) dX8_copy_64 (fun e => by cases e) ⟨_, rfl, t⟩
        · have t := t.2 c8
          refine g_bipush (v := (-11)) dX8_copy_44 (by decide) ?_
          exact g_iret (st := []) dX8_copy_46 (fun e => by cases e) ⟨_, rfl, t⟩
    · have t := t.2 c6
      refine g_iconst (v := (-1)) dX8_copy_24 (by decide) ?_
      exact g_iret (st := []) dX8_copy_25 (fun e => by cases e) ⟨_, rfl, t⟩
theorem w_X8_copy_117 {Q : Int32 → tS → Prop} {S : tS} (l1 : Int32) (l2 : Int32) (l3 : Int32) (l4 : Int32) (l5 : Int32) (l6 : Int32)  (t : ((l5 ≤ l6 → tk_Gs mX8_copy none 154 [.ref 45, .int l1, .int l2, .int l3, .int l4, .int l5, .int 0] [] S Q) ∧ (¬ l5 ≤ l6 → (vp_in (((24 * l1) + l2) + l6) 96 ∧ (vp_in l6 24 ∧ tk_Gs mX8_copy none 117 [.ref 45, .int l1, .int l2, .int l3, .int l4, .int l5, .int (l6 + 1)] [] (tk_up S 63 l6.toNatClampNeg (S 60 (((24 * l1) + l2) + l6).toNatClampNeg)) Q))))) : tk_Gs mX8_copy none 117 [.ref 45, .int l1, .int l2, .int l3, .int l4, .int l5, .int l6] [] S Q := by
  show tk_G _ 0 0 _ _ _ _ (tkSH, S, tkRF) _
  refine g_iload dX8_copy_117 rfl ?_
  refine g_iload dX8_copy_119 rfl ?_
  refine g_icmp_ge (tgt := 151) dX8_copy_121 (by decide) (fun c1 => ?_) (fun c1 => ?_)
  · have t := t.1 c1
    refine g_iconst (v := 0) dX8_copy_151 (by decide) ?_
    refine g_istore (ls' := [.ref 45, .int l1, .int l2, .int l3, .int l4, .int l5, .int 0]) dX8_copy_152 rfl (by decide) rfl ?_
    exact t
  · have t := t.2 c1
    refine g_aload_n dX8_copy_124 rfl ?_
    refine g_getR (n := 25) dX8_copy_125 fl_X8_61 rfl (by decide) (by decide) rfl rfl ?_
    refine g_iload dX8_copy_128 rfl ?_
    refine g_aload_n dX8_copy_130 rfl ?_
    refine g_getR (n := 25) dX8_copy_131 fl_X8_52 rfl (by decide) (by decide) rfl rfl ?_
    refine g_bipush (v := 24) dX8_copy_134 (by decide) ?_
    refine g_iload_n dX8_copy_136 rfl ?_
    refine g_imul dX8_copy_137 ?_
    refine g_iload_n dX8_copy_138 rfl ?_
    refine g_iadd dX8_copy_139 ?_
    refine g_iload dX8_copy_140 rfl ?_
    refine g_iadd dX8_copy_142 ?_
    refine g_iald (n := 96) dX8_copy_143 rfl t.1 ?_
    have t := t.2
    refine g_iast (n := 24) dX8_copy_144 rfl t.1 ?_
    have t := t.2
    refine g_iinc (v := l6 + 1) (ls' := [.ref 45, .int l1, .int l2, .int l3, .int l4, .int l5, .int (l6 + 1)]) dX8_copy_145 rfl rfl (by decide) rfl rfl ?_
    refine g_goto (tgt := 117) dX8_copy_148 (by decide) ?_
    exact t
theorem w_X8_copy_154 {Q : Int32 → tS → Prop} {S : tS} (l1 : Int32) (l2 : Int32) (l3 : Int32) (l4 : Int32) (l5 : Int32) (l6 : Int32)  (t : ((l5 ≤ l6 → Q l5 S) ∧ (¬ l5 ≤ l6 → (vp_in l6 24 ∧ (vp_in (((24 * l3) + l4) + l6) 96 ∧ tk_Gs mX8_copy none 154 [.ref 45, .int l1, .int l2, .int l3, .int l4, .int l5, .int (l6 + 1)] [] (tk_up S 60 (((24 * l3) + l4) + l6).toNatClampNeg (S 63 l6.toNatClampNeg)) Q))))) : tk_Gs mX8_copy none 154 [.ref 45, .int l1, .int l2, .int l3, .int l4, .int l5, .int l6] [] S Q := by
  show tk_G _ 0 0 _ _ _ _ (tkSH, S, tkRF) _
  refine g_iload dX8_copy_154 rfl ?_
  refine g_iload dX8_copy_156 rfl ?_
  refine g_icmp_ge (tgt := 189) dX8_copy_158 (by decide) (fun c1 => ?_) (fun c1 => ?_)
  · have t := t.1 c1
    refine g_iload dX8_copy_189 rfl ?_
    exact g_iret (st := []) dX8_copy_191 (fun e => by cases e) ⟨_, rfl, t⟩
  · have t := t.2 c1
    refine g_aload_n dX8_copy_161 rfl ?_
    refine g_getR (n := 25) dX8_copy_162 fl_X8_52 rfl (by decide) (by decide) rfl rfl ?_
    refine g_bipush (v := 24) dX8_copy_165 (by decide) ?_
    refine g_iload_n dX8_copy_167 rfl ?_
    refine g_imul dX8_copy_168 ?_
    refine g_iload dX8_copy_169 rfl ?_
    refine g_iadd dX8_copy_171 ?_
    refine g_iload dX8_copy_172 rfl ?_
    refine g_iadd dX8_copy_174 ?_
    refine g_aload_n dX8_copy_175 rfl ?_
    refine g_getR (n := 25) dX8_copy_176 fl_X8_61 rfl (by decide) (by decide) rfl rfl ?_
    refine g_iload dX8_copy_179 rfl ?_
    refine g_iald (n := 24) dX8_copy_181 rfl t.1 ?_
    have t := t.2
    refine g_iast (n := 96) dX8_copy_182 rfl t.1 ?_
    have t := t.2
    refine g_iinc (v := l6 + 1) (ls' := [.ref 45, .int l1, .int l2, .int l3, .int l4, .int l5, .int (l6 + 1)]) dX8_copy_183 rfl rfl (by decide) rfl rfl ?_
    refine g_goto (tgt := 154) dX8_copy_186 (by decide) ?_
    exact t
