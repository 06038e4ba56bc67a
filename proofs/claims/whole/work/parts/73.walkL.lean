/-! THE LAW: its loop -/
theorem w_L_law_18 {L : Nat} {xs : Nat → Int32} {Q : Int32 → tS → Prop} {S : tS} (l3 : Int32)  (t : ((((Int32.ofNat L) - 6) < l3 → Q 1 S) ∧ (¬ ((Int32.ofNat L) - 6) < l3 → (vp_in l3 L ∧ ((((xs l3.toNatClampNeg) &&& 31) = 0 → (vp_in (l3 + 1) L ∧ (vp_in (l3 + 2) L ∧ (vp_in (l3 + 3) L ∧ (tk_Ms mX7_door [.ref 0, .int (xs (l3 + 1).toNatClampNeg), .int (xs (l3 + 2).toNatClampNeg), .int (xs (l3 + 3).toNatClampNeg)] S (fun x3 S4 => (vp_in (l3 + 1) L ∧ (vp_in (l3 + 2) L ∧ (vp_in (l3 + 3) L ∧ (tk_Ms mX8_door [.ref 45, .int (xs (l3 + 1).toNatClampNeg), .int (xs (l3 + 2).toNatClampNeg), .int (xs (l3 + 3).toNatClampNeg)] S4 (fun x5 S6 => ((x3 = x5 → tk_Gs mL_law (some (L, xs)) 18 [.ref 4096, .ref 0, .ref 45, .int (l3 + 6)] [] S6 Q) ∧ (¬ x3 = x5 → Q 0 S6))))))))))))) ∧ ((((xs l3.toNatClampNeg) &&& 31) = 1 → (vp_in (l3 + 1) L ∧ (vp_in (l3 + 2) L ∧ (tk_Ms mX7_key [.ref 0, .int (xs (l3 + 1).toNatClampNeg), .int (xs (l3 + 2).toNatClampNeg)] S (fun x9 S10 => (vp_in (l3 + 1) L ∧ (vp_in (l3 + 2) L ∧ (tk_Ms mX8_key [.ref 45, .int (xs (l3 + 1).toNatClampNeg), .int (xs (l3 + 2).toNatClampNeg)] S10 (fun x11 S12 => ((x9 = x11 → tk_Gs mL_law (some (L, xs)) 18 [.ref 4096, .ref 0, .ref 45, .int (l3 + 6)] [] S12 Q) ∧ (¬ x9 = x11 → Q 0 S12))))))))))) ∧ ((((xs l3.toNatClampNeg) &&& 31) = 2 → (vp_in (l3 + 1) L ∧ (vp_in (l3 + 2) L ∧ (tk_Ms mX7_told [.ref 0, .int (xs (l3 + 1).toNatClampNeg), .int (xs (l3 + 2).toNatClampNeg)] S (fun x15 S16 => (vp_in (l3 + 1) L ∧ (vp_in (l3 + 2) L ∧ (tk_Ms mX8_told [.ref 45, .int (xs (l3 + 1).toNatClampNeg), .int (xs (l3 + 2).toNatClampNeg)] S16 (fun x17 S18 => ((x15 = x17 → tk_Gs mL_law (some (L, xs)) 18 [.ref 4096, .ref 0, .ref 45, .int (l3 + 6)] [] S18 Q) ∧ (¬ x15 = x17 → Q 0 S18))))))))))) ∧ ((((xs l3.toNatClampNeg) &&& 31) = 3 → (vp_in (l3 + 1) L ∧ (vp_in (l3 + 2) L ∧ (tk_Ms mX7_of [.ref 0, .int (xs (l3 + 1).toNatClampNeg), .int (xs (l3 + 2).toNatClampNeg)] S (fun x21 S22 => (vp_in (l3 + 1) L ∧ (vp_in (l3 + 2) L ∧ (tk_Ms mX8_of [.ref 45, .int (xs (l3 + 1).toNatClampNeg), .int (xs (l3 + 2).toNatClampNeg)] S22 (fun x23 S24 => ((x21 = x23 → tk_Gs mL_law (some (L, xs)) 18 [.ref 4096, .ref 0, .ref 45, .int (l3 + 6)] [] S24 Q) ∧ (¬ x21 = x23 → Q 0 S24))))))))))) ∧ ((((xs l3.toNatClampNeg) &&& 31) = 4 → (vp_in (l3 + 1) L ∧ (vp_in (l3 + 2) L ∧ (vp_in (l3 + 3) L ∧ (tk_Ms mX7_type [.ref 0, .long ((((xs (l3 + 1).toNatClampNeg : Int32).toInt64) <<< (((32 : Int32)).toInt64 &&& 63)) ||| (((xs (l3 + 2).toNatClampNeg : Int32).toInt64) &&& (4294967295 : Int64))), .int (xs (l3 + 3).toNatClampNeg)] S (fun x27 S28 => (vp_in (l3 + 1) L ∧ (vp_in (l3 + 2) L ∧ (vp_in (l3 + 3) L ∧ (tk_Ms mX8_type [.ref 45, .long ((((xs (l3 + 1).toNatClampNeg : Int32).toInt64) <<< (((32 : Int32)).toInt64 &&& 63)) ||| (((xs (l3 + 2).toNatClampNeg : Int32).toInt64) &&& (4294967295 : Int64))), .int (xs (l3 + 3).toNatClampNeg)] S28 (fun x29 S30 => ((x27 = x29 → tk_Gs mL_law (some (L, xs)) 18 [.ref 4096, .ref 0, .ref 45, .int (l3 + 6)] [] S30 Q) ∧ (¬ x27 = x29 → Q 0 S30))))))))))))) ∧ ((((xs l3.toNatClampNeg) &&& 31) = 5 → (tk_Ms mX7_house [.ref 0] S (fun x33 S34 => (tk_Ms mX8_house [.ref 45] S34 (fun x35 S36 => ((x33 = x35 → tk_Gs mL_law (some (L, xs)) 18 [.ref 4096, .ref 0, .ref 45, .int (l3 + 6)] [] S36 Q) ∧ (¬ x33 = x35 → Q 0 S36))))))) ∧ ((((xs l3.toNatClampNeg) &&& 31) = 6 → (tk_Ms mX7_week [.ref 0] S (fun x39 S40 => (tk_Ms mX8_week [.ref 45] S40 (fun x41 S42 => ((x39 = x41 → tk_Gs mL_law (some (L, xs)) 18 [.ref 4096, .ref 0, .ref 45, .int (l3 + 6)] [] S42 Q) ∧ (¬ x39 = x41 → Q 0 S42))))))) ∧ ((((xs l3.toNatClampNeg) &&& 31) = 7 → (vp_in (l3 + 1) L ∧ (tk_Ms mX7_count [.ref 0, .int (xs (l3 + 1).toNatClampNeg)] S (fun x45 S46 => (vp_in (l3 + 1) L ∧ (tk_Ms mX8_count [.ref 45, .int (xs (l3 + 1).toNatClampNeg)] S46 (fun x47 S48 => ((x45 = x47 → tk_Gs mL_law (some (L, xs)) 18 [.ref 4096, .ref 0, .ref 45, .int (l3 + 6)] [] S48 Q) ∧ (¬ x45 = x47 → Q 0 S48))))))))) ∧ ((((xs l3.toNatClampNeg) &&& 31) = 8 → (vp_in (l3 + 1) L ∧ (vp_in (l3 + 2) L ∧ (vp_in (l3 + 3) L ∧ (tk_Ms mX7_visit [.ref 0, .int (xs (l3 + 1).toNatClampNeg), .int (xs (l3 + 2).toNatClampNeg), .int (xs (l3 + 3).toNatClampNeg)] S (fun x51 S52 => (vp_in (l3 + 1) L ∧ (vp_in (l3 + 2) L ∧ (vp_in (l3 + 3) L ∧ (tk_Ms mX8_visit [.ref 45, .int (xs (l3 + 1).toNatClampNeg), .int (xs (l3 + 2).toNatClampNeg), .int (xs (l3 + 3).toNatClampNeg)] S52 (fun x53 S54 => ((x51 = x53 → tk_Gs mL_law (some (L, xs)) 18 [.ref 4096, .ref 0, .ref 45, .int (l3 + 6)] [] S54 Q) ∧ (¬ x51 = x53 → Q 0 S54))))))))))))) ∧ ((((xs l3.toNatClampNeg) &&& 31) = 9 → (vp_in (l3 + 1) L ∧ (vp_in (l3 + 2) L ∧ (tk_Ms mX7_wash [.ref 0, .int (xs (l3 + 1).toNatClampNeg), .int (xs (l3 + 2).toNatClampNeg)] S (fun x57 S58 => (vp_in (l3 + 1) L ∧ (vp_in (l3 + 2) L ∧ (tk_Ms mX8_wash [.ref 45, .int (xs (l3 + 1).toNatClampNeg), .int (xs (l3 + 2).toNatClampNeg)] S58 (fun x59 S60 => ((x57 = x59 → tk_Gs mL_law (some (L, xs)) 18 [.ref 4096, .ref 0, .ref 45, .int (l3 + 6)] [] S60 Q) ∧ (¬ x57 = x59 → Q 0 S60))))))))))) ∧ ((((xs l3.toNatClampNeg) &&& 31) = 10 → (vp_in (l3 + 1) L ∧ (vp_in (l3 + 2) L ∧ (tk_Ms mX7_change [.ref 0, .int (xs (l3 + 1).toNatClampNeg), .int (xs (l3 + 2).toNatClampNeg)] S (fun x63 S64 => (vp_in (l3 + 1) L ∧ (vp_in (l3 + 2) L ∧ (tk_Ms mX8_change [.ref 45, .int (xs (l3 + 1).toNatClampNeg), .int (xs (l3 + 2).toNatClampNeg)] S64 (fun x65 S66 => ((x63 = x65 → tk_Gs mL_law (some (L, xs)) 18 [.ref 4096, .ref 0, .ref 45, .int (l3 + 6)] [] S66 Q) ∧ (¬ x63 = x65 → Q 0 S66))))))))))) ∧ ((((xs l3.toNatClampNeg) &&& 31) = 11 → (tk_Ms mX7_next [.ref 0] S (fun x69 S70 => (tk_Ms mX8_next [.ref 45] S70 (fun x71 S72 => ((x69 = x71 → tk_Gs mL_law (some (L, xs)) 18 [.ref 4096, .ref 0, .ref 45, .int (l3 + 6)] [] S72 Q) ∧ (¬ x69 = x71 → Q 0 S72))))))) ∧ ((((xs l3.toNatClampNeg) &&& 31) = 12 → (vp_in (l3 + 1) L ∧ (vp_in (l3 + 2) L ∧ (tk_Ms mX7_shown [.ref 0, .int (xs (l3 + 1).toNatClampNeg), .int (xs (l3 + 2).toNatClampNeg)] S (fun x75 S76 => (vp_in (l3 + 1) L ∧ (vp_in (l3 + 2) L ∧ (tk_Ms mX8_shown [.ref 45, .int (xs (l3 + 1).toNatClampNeg), .int (xs (l3 + 2).toNatClampNeg)] S76 (fun x77 S78 => ((x75 = x77 → tk_Gs mL_law (some (L, xs)) 18 [.ref 4096, .ref 0, .ref 45, .int (l3 + 6)] [] S78 Q) ∧ (¬ x75 = x77 → Q 0 S78))))))))))) ∧ ((((xs l3.toNatClampNeg) &&& 31) = 13 → (vp_in (l3 + 1) L ∧ (vp_in (l3 + 2) L ∧ (vp_in (l3 + 3) L ∧ (tk_Ms mX7_seen [.ref 0, .int (xs (l3 + 1).toNatClampNeg), .int (xs (l3 + 2).toNatClampNeg), .int (xs (l3 + 3).toNatClampNeg)] S (fun x81 S82 => (vp_in (l3 + 1) L ∧ (vp_in (l3 + 2) L ∧ (vp_in (l3 + 3) L ∧ (tk_Ms mX8_seen [.ref 45, .int (xs (l3 + 1).toNatClampNeg), .int (xs (l3 + 2).toNatClampNeg), .int (xs (l3 + 3).toNatClampNeg)] S82 (fun x83 S84 => ((x81 = x83 → tk_Gs mL_law (some (L, xs)) 18 [.ref 4096, .ref 0, .ref 45, .int (l3 + 6)] [] S84 Q) ∧ (¬ x81 = x83 → Q 0 S84))))))))))))) ∧ ((((xs l3.toNatClampNeg) &&& 31) = 14 → (vp_in (l3 + 1) L ∧ (tk_Ms mX7_reach [.ref 0, .int (xs (l3 + 1).toNatClampNeg)] S (fun x87 S88 => (vp_in (l3 + 1) L ∧ (tk_Ms mX8_reach [.ref 45, .int (xs (l3 + 1).toNatClampNeg)] S88 (fun x89 S90 => ((x87 = x89 → tk_Gs mL_law (some (L, xs)) 18 [.ref 4096, .ref 0, .ref 45, .int (l3 + 6)] [] S90 Q) ∧ (¬ x87 = x89 → Q 0 S90))))))))) ∧ ((((xs l3.toNatClampNeg) &&& 31) = 15 → (vp_in (l3 + 1) L ∧ (vp_in (l3 + 2) L ∧ (vp_in (l3 + 3) L ∧ (tk_Ms mX7_fits [.ref 0, .int (xs (l3 + 1).toNatClampNeg), .int (xs (l3 + 2).toNatClampNeg), .int (xs (l3 + 3).toNatClampNeg)] S (fun x93 S94 => (vp_in (l3 + 1) L ∧ (vp_in (l3 + 2) L ∧ (vp_in (l3 + 3) L ∧ (tk_Ms mX8_fits [.ref 45, .int (xs (l3 + 1).toNatClampNeg), .int (xs (l3 + 2).toNatClampNeg), .int (xs (l3 + 3).toNatClampNeg)] S94 (fun x95 S96 => ((x93 = x95 → tk_Gs mL_law (some (L, xs)) 18 [.ref 4096, .ref 0, .ref 45, .int (l3 + 6)] [] S96 Q) ∧ (¬ x93 = x95 → Q 0 S96))))))))))))) ∧ ((((xs l3.toNatClampNeg) &&& 31) = 16 → (vp_in (l3 + 1) L ∧ (vp_in (l3 + 2) L ∧ (vp_in (l3 + 3) L ∧ (tk_Ms mX7_been [.ref 0, .int (xs (l3 + 1).toNatClampNeg), .int (xs (l3 + 2).toNatClampNeg), .int (xs (l3 + 3).toNatClampNeg)] S (fun x99 S100 => (vp_in (l3 + 1) L ∧ (vp_in (l3 + 2) L ∧ (vp_in (l3 + 3) L ∧ (tk_Ms mX8_been [.ref 45, .int (xs (l3 + 1).toNatClampNeg), .int (xs (l3 + 2).toNatClampNeg), .int (xs (l3 + 3).toNatClampNeg)] S100 (fun x101 S102 => ((x99 = x101 → tk_Gs mL_law (some (L, xs)) 18 [.ref 4096, .ref 0, .ref 45, .int (l3 + 6)] [] S102 Q) ∧ (¬ x99 = x101 → Q 0 S102))))))))))))) ∧ ((((xs l3.toNatClampNeg) &&& 31) = 17 → (vp_in (l3 + 1) L ∧ (vp_in (l3 + 2) L ∧ (vp_in (l3 + 3) L ∧ (tk_Ms mX7_look [.ref 0, .int (xs (l3 + 1).toNatClampNeg), .int (xs (l3 + 2).toNatClampNeg), .int (xs (l3 + 3).toNatClampNeg)] S (fun x105 S106 => (vp_in (l3 + 1) L ∧ (vp_in (l3 + 2) L ∧ (vp_in (l3 + 3) L ∧ (tk_Ms mX8_look [.ref 45, .int (xs (l3 + 1).toNatClampNeg), .int (xs (l3 + 2).toNatClampNeg), .int (xs (l3 + 3).toNatClampNeg)] S106 (fun x107 S108 => ((x105 = x107 → tk_Gs mL_law (some (L, xs)) 18 [.ref 4096, .ref 0, .ref 45, .int (l3 + 6)] [] S108 Q) ∧ (¬ x105 = x107 → Q 0 S108))))))))))))) ∧ ((((xs l3.toNatClampNeg) &&& 31) = 18 → (tk_Ms mX7_image [.ref 0] S (fun x111 S112 => (tk_Ms mX8_image [.ref 45] S112 (fun x113 S114 => ((x111 = x113 → tk_Gs mL_law (some (L, xs)) 18 [.ref 4096, .ref 0, .ref 45, .int (l3 + 6)] [] S114 Q) ∧ (¬ x111 = x113 → Q 0 S114))))))) ∧ ((((xs l3.toNatClampNeg) &&& 31) = 19 → (tk_Ms mX7_restore [.ref 0] S (fun x117 S118 => (tk_Ms mX8_restore [.ref 45] S118 (fun x119 S120 => ((x117 = x119 → tk_Gs mL_law (some (L, xs)) 18 [.ref 4096, .ref 0, .ref 45, .int (l3 + 6)] [] S120 Q) ∧ (¬ x117 = x119 → Q 0 S120))))))) ∧ ((((xs l3.toNatClampNeg) &&& 31) = 20 → (vp_in (l3 + 1) L ∧ (vp_in (l3 + 2) L ∧ (vp_in (l3 + 3) L ∧ (vp_in (l3 + 4) L ∧ (vp_in (l3 + 5) L ∧ (tk_Ms mX7_asked [.ref 0, .int (xs (l3 + 1).toNatClampNeg), .int (xs (l3 + 2).toNatClampNeg), .int (xs (l3 + 3).toNatClampNeg), .int (xs (l3 + 4).toNatClampNeg), .int (xs (l3 + 5).toNatClampNeg)] S (fun x123 S124 => (vp_in (l3 + 1) L ∧ (vp_in (l3 + 2) L ∧ (vp_in (l3 + 3) L ∧ (vp_in (l3 + 4) L ∧ (vp_in (l3 + 5) L ∧ (tk_Ms mX8_asked [.ref 45, .int (xs (l3 + 1).toNatClampNeg), .int (xs (l3 + 2).toNatClampNeg), .int (xs (l3 + 3).toNatClampNeg), .int (xs (l3 + 4).toNatClampNeg), .int (xs (l3 + 5).toNatClampNeg)] S124 (fun x125 S126 => ((x123 = x125 → tk_Gs mL_law (some (L, xs)) 18 [.ref 4096, .ref 0, .ref 45, .int (l3 + 6)] [] S126 Q) ∧ (¬ x123 = x125 → Q 0 S126))))))))))))))))) ∧ ((((xs l3.toNatClampNeg) &&& 31) = 21 → (vp_in (l3 + 1) L ∧ (vp_in (l3 + 2) L ∧ (vp_in (l3 + 3) L ∧ (tk_Ms mX7_film [.ref 0, .int (xs (l3 + 1).toNatClampNeg), .int (xs (l3 + 2).toNatClampNeg), .int (xs (l3 + 3).toNatClampNeg)] S (fun x129 S130 => (vp_in (l3 + 1) L ∧ (vp_in (l3 + 2) L ∧ (vp_in (l3 + 3) L ∧ (tk_Ms mX8_film [.ref 45, .int (xs (l3 + 1).toNatClampNeg), .int (xs (l3 + 2).toNatClampNeg), .int (xs (l3 + 3).toNatClampNeg)] S130 (fun x131 S132 => ((x129 = x131 → tk_Gs mL_law (some (L, xs)) 18 [.ref 4096, .ref 0, .ref 45, .int (l3 + 6)] [] S132 Q) ∧ (¬ x129 = x131 → Q 0 S132))))))))))))) ∧ ((((xs l3.toNatClampNeg) &&& 31) = 22 → (vp_in (l3 + 1) L ∧ (vp_in (l3 + 2) L ∧ (vp_in (l3 + 3) L ∧ (tk_Ms mX7_sheet [.ref 0, .int (xs (l3 + 1).toNatClampNeg), .int (xs (l3 + 2).toNatClampNeg), .int (xs (l3 + 3).toNatClampNeg)] S (fun x135 S136 => (vp_in (l3 + 1) L ∧ (vp_in (l3 + 2) L ∧ (vp_in (l3 + 3) L ∧ (tk_Ms mX8_sheet [.ref 45, .int (xs (l3 + 1).toNatClampNeg), .int (xs (l3 + 2).toNatClampNeg), .int (xs (l3 + 3).toNatClampNeg)] S136 (fun x137 S138 => ((x135 = x137 → tk_Gs mL_law (some (L, xs)) 18 [.ref 4096, .ref 0, .ref 45, .int (l3 + 6)] [] S138 Q) ∧ (¬ x135 = x137 → Q 0 S138))))))))))))) ∧ ((((xs l3.toNatClampNeg) &&& 31) = 23 → (vp_in (l3 + 1) L ∧ (tk_Ms mX7_drop [.ref 0, .int (xs (l3 + 1).toNatClampNeg)] S (fun x141 S142 => (vp_in (l3 + 1) L ∧ (tk_Ms mX8_drop [.ref 45, .int (xs (l3 + 1).toNatClampNeg)] S142 (fun x143 S144 => ((x141 = x143 → tk_Gs mL_law (some (L, xs)) 18 [.ref 4096, .ref 0, .ref 45, .int (l3 + 6)] [] S144 Q) ∧ (¬ x141 = x143 → Q 0 S144))))))))) ∧ ((((xs l3.toNatClampNeg) &&& 31) = 24 → (vp_in (l3 + 1) L ∧ (vp_in (l3 + 2) L ∧ (vp_in (l3 + 3) L ∧ (vp_in (l3 + 4) L ∧ (tk_Ms mX7_item [.ref 0, .int (xs (l3 + 1).toNatClampNeg), .int (xs (l3 + 2).toNatClampNeg), .int (xs (l3 + 3).toNatClampNeg), .int (xs (l3 + 4).toNatClampNeg)] S (fun x147 S148 => (vp_in (l3 + 1) L ∧ (vp_in (l3 + 2) L ∧ (vp_in (l3 + 3) L ∧ (vp_in (l3 + 4) L ∧ (tk_Ms mX8_item [.ref 45, .int (xs (l3 + 1).toNatClampNeg), .int (xs (l3 + 2).toNatClampNeg), .int (xs (l3 + 3).toNatClampNeg), .int (xs (l3 + 4).toNatClampNeg)] S148 (fun x149 S150 => ((x147 = x149 → tk_Gs mL_law (some (L, xs)) 18 [.ref 4096, .ref 0, .ref 45, .int (l3 + 6)] [] S150 Q) ∧ (¬ x147 = x149 → Q 0 S150))))))))))))))) ∧ ((((xs l3.toNatClampNeg) &&& 31) = 25 → (vp_in (l3 + 1) L ∧ (vp_in (l3 + 2) L ∧ (vp_in (l3 + 3) L ∧ (vp_in (l3 + 4) L ∧ (vp_in (l3 + 5) L ∧ (tk_Ms mX7_copy [.ref 0, .int (xs (l3 + 1).toNatClampNeg), .int (xs (l3 + 2).toNatClampNeg), .int (xs (l3 + 3).toNatClampNeg), .int (xs (l3 + 4).toNatClampNeg), .int (xs (l3 + 5).toNatClampNeg)] S (fun x153 S154 => (vp_in (l3 + 1) L ∧ (vp_in (l3 + 2) L ∧ (vp_in (l3 + 3) L ∧ (vp_in (l3 + 4) L ∧ (vp_in (l3 + 5) L ∧ (tk_Ms mX8_copy [.ref 45, .int (xs (l3 + 1).toNatClampNeg), .int (xs (l3 + 2).toNatClampNeg), .int (xs (l3 + 3).toNatClampNeg), .int (xs (l3 + 4).toNatClampNeg), .int (xs (l3 + 5).toNatClampNeg)] S154 (fun x155 S156 => ((x153 = x155 → tk_Gs mL_law (some (L, xs)) 18 [.ref 4096, .ref 0, .ref 45, .int (l3 + 6)] [] S156 Q) ∧ (¬ x153 = x155 → Q 0 S156))))))))))))))))) ∧ (¬ ((xs l3.toNatClampNeg) &&& 31) = 0 ∧ ¬ ((xs l3.toNatClampNeg) &&& 31) = 1 ∧ ¬ ((xs l3.toNatClampNeg) &&& 31) = 2 ∧ ¬ ((xs l3.toNatClampNeg) &&& 31) = 3 ∧ ¬ ((xs l3.toNatClampNeg) &&& 31) = 4 ∧ ¬ ((xs l3.toNatClampNeg) &&& 31) = 5 ∧ ¬ ((xs l3.toNatClampNeg) &&& 31) = 6 ∧ ¬ ((xs l3.toNatClampNeg) &&& 31) = 7 ∧ ¬ ((xs l3.toNatClampNeg) &&& 31) = 8 ∧ ¬ ((xs l3.toNatClampNeg) &&& 31) = 9 ∧ ¬ ((xs l3.toNatClampNeg) &&& 31) = 10 ∧ ¬ ((xs l3.toNatClampNeg) &&& 31) = 11 ∧ ¬ ((xs l3.toNatClampNeg) &&& 31) = 12 ∧ ¬ ((xs l3.toNatClampNeg) &&& 31) = 13 ∧ ¬ ((xs l3.toNatClampNeg) &&& 31) = 14 ∧ ¬ ((xs l3.toNatClampNeg) &&& 31) = 15 ∧ ¬ ((xs l3.toNatClampNeg) &&& 31) = 16 ∧ ¬ ((xs l3.toNatClampNeg) &&& 31) = 17 ∧ ¬ ((xs l3.toNatClampNeg) &&& 31) = 18 ∧ ¬ ((xs l3.toNatClampNeg) &&& 31) = 19 ∧ ¬ ((xs l3.toNatClampNeg) &&& 31) = 20 ∧ ¬ ((xs l3.toNatClampNeg) &&& 31) = 21 ∧ ¬ ((xs l3.toNatClampNeg) &&& 31) = 22 ∧ ¬ ((xs l3.toNatClampNeg) &&& 31) = 23 ∧ ¬ ((xs l3.toNatClampNeg) &&& 31) = 24 ∧ ¬ ((xs l3.toNatClampNeg) &&& 31) = 25 → tk_Gs mL_law (some (L, xs)) 18 [.ref 4096, .ref 0, .ref 45, .int (l3 + 6)] [] S Q))))))))))))))))))))))))))))))) : tk_Gs mL_law (some (L, xs)) 18 [.ref 4096, .ref 0, .ref 45, .int l3] [] S Q := by
  show tk_G _ 0 0 _ _ _ _ (tkSH, S, tkRF) _
  refine g_iload_n dL_law_18 rfl ?_
  refine g_aload_n dL_law_19 rfl ?_
  refine g_slen dL_law_20 ?_
  refine g_bipush (v := 6) dL_law_21 (by decide) ?_
  refine g_isub dL_law_23 ?_
  refine g_icmp_gt (tgt := 1076) dL_law_24 (by decide) (fun c1 => ?_) (fun c1 => ?_)
  · have t := t.1 c1
    refine g_iconst (v := 1) dL_law_1076 (by decide) ?_
    exact g_iret (st := []) dL_law_1077 (fun e => by cases e) ⟨_, rfl, t⟩
  · have t := t.2 c1
    refine g_aload_n dL_law_27 rfl ?_
    refine g_iload_n dL_law_28 rfl ?_
    refine g_sld dL_law_29 t.1 ?_
    have t := t.2
    refine g_bipush (v := 31) dL_law_30 (by decide) ?_
    refine g_iand dL_law_32 ?_
    by_cases c2 : ((xs l3.toNatClampNeg) &&& 31) = 0
    · have t := t.1 c2
      refine g_tabInE c2 (off := 119) (tgt := 152) dL_law_33 (by decide) (by decide) (by decide) (by decide) ?_
      refine g_aload_n dL_law_152 rfl ?_
      refine g_aload_n dL_law_153 rfl ?_
      refine g_iload_n dL_law_154 rfl ?_
      refine g_iconst (v := 1) dL_law_155 (by decide) ?_
      refine g_iadd dL_law_156 ?_
      refine g_sld dL_law_157 t.1 ?_
      have t := t.2
      refine g_aload_n dL_law_158 rfl ?_
      refine g_iload_n dL_law_159 rfl ?_
      refine g_iconst (v := 2) dL_law_160 (by decide) ?_
      refine g_iadd dL_law_161 ?_
      refine g_sld dL_law_162 t.1 ?_
      have t := t.2
      refine g_aload_n dL_law_163 rfl ?_
      refine g_iload_n dL_law_164 rfl ?_
      refine g_iconst (v := 3) dL_law_165 (by decide) ?_
      refine g_iadd dL_law_166 ?_
      refine g_sld dL_law_167 t.1 ?_
      have t := t.2
      refine s_V3i dL_law_168 vm_X7_door ml_L_13 rfl rfl (by decide) (Nat.le_of_ble_eq_true rfl) rfl (tk_Ms.mono t (fun x3 S4 t => ?_))
      refine g_aload_n dL_law_171 rfl ?_
      refine g_aload_n dL_law_172 rfl ?_
      refine g_iload_n dL_law_173 rfl ?_
      refine g_iconst (v := 1) dL_law_174 (by decide) ?_
      refine g_iadd dL_law_175 ?_
      refine g_sld dL_law_176 t.1 ?_
      have t := t.2
      refine g_aload_n dL_law_177 rfl ?_
      refine g_iload_n dL_law_178 rfl ?_
      refine g_iconst (v := 2) dL_law_179 (by decide) ?_
      refine g_iadd dL_law_180 ?_
      refine g_sld dL_law_181 t.1 ?_
      have t := t.2
      refine g_aload_n dL_law_182 rfl ?_
      refine g_iload_n dL_law_183 rfl ?_
      refine g_iconst (v := 3) dL_law_184 (by decide) ?_
      refine g_iadd dL_law_185 ?_
      refine g_sld dL_law_186 t.1 ?_
      have t := t.2
      refine s_V3i dL_law_187 vm_X8_door ml_L_17 rfl rfl (by decide) (Nat.le_of_ble_eq_true rfl) rfl (tk_Ms.mono t (fun x5 S6 t => ?_))
      refine g_icmp_eq (tgt := 1070) dL_law_190 (by decide) (fun c7 => ?_) (fun c7 => ?_)
      · have t := t.1 c7
        refine g_iinc (v := l3 + 6) (ls' := [.ref 4096, .ref 0, .ref 45, .int (l3 + 6)]) dL_law_1070 rfl rfl (by decide) rfl rfl ?_
        refine g_goto (tgt := 18) dL_law_1073 (by decide) ?_
        exact t
      · have t := t.2 c7
        refine g_iconst (v := 0) dL_law_193 (by decide) ?_
        exact g_iret (st := []) dL_law_194 (fun e => by cases e) ⟨_, rfl, t⟩
    have t := t.2
    by_cases c8 : ((xs l3.toNatClampNeg) &&& 31) = 1
    · have t := t.1 c8
      refine g_tabInE c8 (off := 162) (tgt := 195) dL_law_33 (by decide) (by decide) (by decide) (by decide) ?_
      refine g_aload_n dL_law_195 rfl ?_
      refine g_aload_n dL_law_196 rfl ?_
      refine g_iload_n dL_law_197 rfl ?_
      refine g_iconst (v := 1) dL_law_198 (by decide) ?_
      refine g_iadd dL_law_199 ?_
      refine g_sld dL_law_200 t.1 ?_
      have t := t.2
      refine g_aload_n dL_law_201 rfl ?_
      refine g_iload_n dL_law_202 rfl ?_
      refine g_iconst (v := 2) dL_law_203 (by decide) ?_
      refine g_iadd dL_law_204 ?_
      refine g_sld dL_law_205 t.1 ?_
      have t := t.2
      refine s_V2i dL_law_206 vm_X7_key ml_L_18 rfl rfl (by decide) (Nat.le_of_ble_eq_true rfl) rfl (tk_Ms.mono t (fun x9 S10 t => ?_))
      refine g_aload_n dL_law_209 rfl ?_
      refine g_aload_n dL_law_210 rfl ?_
      refine g_iload_n dL_law_211 rfl ?_
      refine g_iconst (v := 1) dL_law_212 (by decide) ?_
      refine g_iadd dL_law_213 ?_
      refine g_sld dL_law_214 t.1 ?_
      have t := t.2
      refine g_aload_n dL_law_215 rfl ?_
      refine g_iload_n dL_law_216 rfl ?_
      refine g_iconst (v := 2) dL_law_217 (by decide) ?_
      refine g_iadd dL_law_218 ?_
      refine g_sld dL_law_219 t.1 ?_
      have t := t.2
      refine s_V2i dL_law_220 vm_X8_key ml_L_22 rfl rfl (by decide) (Nat.le_of_ble_eq_true rfl) rfl (tk_Ms.mono t (fun x11 S12 t => ?_))
      refine g_icmp_eq (tgt := 1070) dL_law_223 (by decide) (fun c13 => ?_) (fun c13 => ?_)
      · have t := t.1 c13
        refine g_iinc (v := l3 + 6) (ls' := [.ref 4096, .ref 0, .ref 45, .int (l3 + 6)]) dL_law_1070 rfl rfl (by decide) rfl rfl ?_
        refine g_goto (tgt := 18) dL_law_1073 (by decide) ?_
        exact t
      · have t := t.2 c13
        refine g_iconst (v := 0) dL_law_226 (by decide) ?_
        exact g_iret (st := []) dL_law_227 (fun e => by cases e) ⟨_, rfl, t⟩
    have t := t.2
    by_cases c14 : ((xs l3.toNatClampNeg) &&& 31) = 2
    · have t := t.1 c14
      refine g_tabInE c14 (off := 195) (tgt := 228) dL_law_33 (by decide) (by decide) (by decide) (by decide) ?_
      refine g_aload_n dL_law_228 rfl ?_
      refine g_aload_n dL_law_229 rfl ?_
      refine g_iload_n dL_law_230 rfl ?_
      refine g_iconst (v := 1) dL_law_231 (by decide) ?_
      refine g_iadd dL_law_232 ?_
      refine g_sld dL_law_233 t.1 ?_
      have t := t.2
      refine g_aload_n dL_law_234 rfl ?_
      refine g_iload_n dL_law_235 rfl ?_
      refine g_iconst (v := 2) dL_law_236 (by decide) ?_
      refine g_iadd dL_law_237 ?_
      refine g_sld dL_law_238 t.1 ?_
      have t := t.2
      refine s_V2i dL_law_239 vm_X7_told ml_L_23 rfl rfl (by decide) (Nat.le_of_ble_eq_true rfl) rfl (tk_Ms.mono t (fun x15 S16 t => ?_))
      refine g_aload_n dL_law_242 rfl ?_
      refine g_aload_n dL_law_243 rfl ?_
      refine g_iload_n dL_law_244 rfl ?_
      refine g_iconst (v := 1) dL_law_245 (by decide) ?_
      refine g_iadd dL_law_246 ?_
      refine g_sld dL_law_247 t.1 ?_
      have t := t.2
      refine g_aload_n dL_law_248 rfl ?_
      refine g_iload_n dL_law_249 rfl ?_
      refine g_iconst (v := 2) dL_law_250 (by decide) ?_
      refine g_iadd dL_law_251 ?_
      refine g_sld dL_law_252 t.1 ?_
      have t := t.2
      refine s_V2i dL_law_253 vm_X8_told ml_L_26 rfl rfl (by decide) (Nat.le_of_ble_eq_true rfl) rfl (tk_Ms.mono t (fun x17 S18 t => ?_))
      refine g_icmp_eq (tgt := 1070) dL_law_256 (by decide) (fun c19 => ?_) (fun c19 => ?_)
      · have t := t.1 c19
        refine g_iinc (v := l3 + 6) (ls' := [.ref 4096, .ref 0, .ref 45, .int (l3 + 6)]) dL_law_1070 rfl rfl (by decide) rfl rfl ?_
        refine g_goto (tgt := 18) dL_law_1073 (by decide) ?_
        exact t
      · have t := t.2 c19
        refine g_iconst (v := 0) dL_law_259 (by decide) ?_
        exact g_iret (st := []) dL_law_260 (fun e => by cases e) ⟨_, rfl, t⟩
    have t := t.2
    by_cases c20 : ((xs l3.toNatClampNeg) &&& 31) = 3
    · have t := t.1 c20
      refine g_tabInE c20 (off := 228) (tgt := 261) dL_law_33 (by decide) (by decide) (by decide) (by decide) ?_
      refine g_aload_n dL_law_261 rfl ?_
      refine g_aload_n dL_law_262 rfl ?_
      refine g_iload_n dL_law_263 rfl ?_
      refine g_iconst (v := 1) dL_law_264 (by decide) ?_
      refine g_iadd dL_law_265 ?_
      refine g_sld dL_law_266 t.1 ?_
      have t := t.2
      refine g_aload_n dL_law_267 rfl ?_
      refine g_iload_n dL_law_268 rfl ?_
      refine g_iconst (v := 2) dL_law_269 (by decide) ?_
      refine g_iadd dL_law_270 ?_
      refine g_sld dL_law_271 t.1 ?_
      have t := t.2
      refine s_V2i dL_law_272 vm_X7_of ml_L_27 rfl rfl (by decide) (Nat.le_of_ble_eq_true rfl) rfl (tk_Ms.mono t (fun x21 S22 t => ?_))
      refine g_aload_n dL_law_275 rfl ?_
      refine g_aload_n dL_law_276 rfl ?_
      refine g_iload_n dL_law_277 rfl ?_
      refine g_iconst (v := 1) dL_law_278 (by decide) ?_
      refine g_iadd dL_law_279 ?_
      refine g_sld dL_law_280 t.1 ?_
      have t := t.2
      refine g_aload_n dL_law_281 rfl ?_
      refine g_iload_n dL_law_282 rfl ?_
      refine g_iconst (v := 2) dL_law_283 (by decide) ?_
      refine g_iadd dL_law_284 ?_
      refine g_sld dL_law_285 t.1 ?_
      have t := t.2
      refine s_V2i dL_law_286 vm_X8_of ml_L_30 rfl rfl (by decide) (Nat.le_of_ble_eq_true rfl) rfl (tk_Ms.mono t (fun x23 S24 t => ?_))
      refine g_icmp_eq (tgt := 1070) dL_law_289 (by decide) (fun c25 => ?_) (fun c25 => ?_)
      · have t := t.1 c25
        refine g_iinc (v := l3 + 6) (ls' := [.ref 4096, .ref 0, .ref 45, .int (l3 + 6)]) dL_law_1070 rfl rfl (by decide) rfl rfl ?_
        refine g_goto (tgt := 18) dL_law_1073 (by decide) ?_
        exact t
      · have t := t.2 c25
        refine g_iconst (v := 0) dL_law_292 (by decide) ?_
        exact g_iret (st := []) dL_law_293 (fun e => by cases e) ⟨_, rfl, t⟩
    have t := t.2
    by_cases c26 : ((xs l3.toNatClampNeg) &&& 31) = 4
    · have t := t.1 c26
      refine g_tabInE c26 (off := 261) (tgt := 294) dL_law_33 (by decide) (by decide) (by decide) (by decide) ?_
      refine g_aload_n dL_law_294 rfl ?_
      refine g_aload_n dL_law_295 rfl ?_
      refine g_iload_n dL_law_296 rfl ?_
      refine g_iconst (v := 1) dL_law_297 (by decide) ?_
      refine g_iadd dL_law_298 ?_
      refine g_sld dL_law_299 t.1 ?_
      have t := t.2
      refine g_i2l dL_law_300 ?_
      refine g_bipush (v := 32) dL_law_301 (by decide) ?_
      refine g_lshl dL_law_303 ?_
      refine g_aload_n dL_law_304 rfl ?_
      refine g_iload_n dL_law_305 rfl ?_
      refine g_iconst (v := 2) dL_law_306 (by decide) ?_
      refine g_iadd dL_law_307 ?_
      refine g_sld dL_law_308 t.1 ?_
      have t := t.2
      refine g_i2l dL_law_309 ?_
      refine g_ldc2 (v := 4294967295) dL_law_310 kl_L_31 ?_
      refine g_land dL_law_313 ?_
      refine g_lor dL_law_314 ?_
      refine g_aload_n dL_law_315 rfl ?_
      refine g_iload_n dL_law_316 rfl ?_
      refine g_iconst (v := 3) dL_law_317 (by decide) ?_
      refine g_iadd dL_law_318 ?_
      refine g_sld dL_law_319 t.1 ?_
      have t := t.2
      refine s_V2i dL_law_320 vm_X7_type ml_L_33 rfl rfl (by decide) (Nat.le_of_ble_eq_true rfl) rfl (tk_Ms.mono t (fun x27 S28 t => ?_))
      refine g_aload_n dL_law_323 rfl ?_
      refine g_aload_n dL_law_324 rfl ?_
      refine g_iload_n dL_law_325 rfl ?_
      refine g_iconst (v := 1) dL_law_326 (by decide) ?_
      refine g_iadd dL_law_327 ?_
      refine g_sld dL_law_328 t.1 ?_
      have t := t.2
      refine g_i2l dL_law_329 ?_
      refine g_bipush (v := 32) dL_law_330 (by decide) ?_
      refine g_lshl dL_law_332 ?_
      refine g_aload_n dL_law_333 rfl ?_
      refine g_iload_n dL_law_334 rfl ?_
      refine g_iconst (v := 2) dL_law_335 (by decide) ?_
      refine g_iadd dL_law_336 ?_
      refine g_sld dL_law_337 t.1 ?_
      have t := t.2
      refine g_i2l dL_law_338 ?_
      refine g_ldc2 (v := 4294967295) dL_law_339 kl_L_31 ?_
      refine g_land dL_law_342 ?_
      refine g_lor dL_law_343 ?_
      refine g_aload_n dL_law_344 rfl ?_
      refine g_iload_n dL_law_345 rfl ?_
      refine g_iconst (v := 3) dL_law_346 (by decide) ?_
      refine g_iadd dL_law_347 ?_
      refine g_sld dL_law_348 t.1 ?_
      have t := t.2
      refine s_V2i dL_law_349 vm_X8_type ml_L_37 rfl rfl (by decide) (Nat.le_of_ble_eq_true rfl) rfl (tk_Ms.mono t (fun x29 S30 t => ?_))
      refine g_icmp_eq (tgt := 1070) dL_law_352 (by decide) (fun c31 => ?_) (fun c31 => ?_)
      · have t := t.1 c31
        refine g_iinc (v := l3 + 6) (ls' := [.ref 4096, .ref 0, .ref 45, .int (l3 + 6)]) dL_law_1070 rfl rfl (by decide) rfl rfl ?_
        refine g_goto (tgt := 18) dL_law_1073 (by decide) ?_
        exact t
      · have t := t.2 c31
        refine g_iconst (v := 0) dL_law_355 (by decide) ?_
        exact g_iret (st := []) dL_law_356 (fun e => by cases e) ⟨_, rfl, t⟩
    have t := t.2
    by_cases c32 : ((xs l3.toNatClampNeg) &&& 31) = 5
    · have t := t.1 c32
      refine g_tabInE c32 (off := 324) (tgt := 357) dL_law_33 (by decide) (by decide) (by decide) (by decide) ?_
      refine g_aload_n dL_law_357 rfl ?_
      refine s_V0i dL_law_358 vm_X7_house ml_L_38 rfl rfl (by decide) (Nat.le_of_ble_eq_true rfl) rfl (tk_Ms.mono t (fun x33 S34 t => ?_))
      refine g_aload_n dL_law_361 rfl ?_
      refine s_V0i dL_law_362 vm_X8_house ml_L_42 rfl rfl (by decide) (Nat.le_of_ble_eq_true rfl) rfl (tk_Ms.mono t (fun x35 S36 t => ?_))
      refine g_icmp_eq (tgt := 1070) dL_law_365 (by decide) (fun c37 => ?_) (fun c37 => ?_)
      · have t := t.1 c37
        refine g_iinc (v := l3 + 6) (ls' := [.ref 4096, .ref 0, .ref 45, .int (l3 + 6)]) dL_law_1070 rfl rfl (by decide) rfl rfl ?_
        refine g_goto (tgt := 18) dL_law_1073 (by decide) ?_
        exact t
      · have t := t.2 c37
        refine g_iconst (v := 0) dL_law_368 (by decide) ?_
        exact g_iret (st := []) dL_law_369 (fun e => by cases e) ⟨_, rfl, t⟩
    have t := t.2
    by_cases c38 : ((xs l3.toNatClampNeg) &&& 31) = 6
    · have t := t.1 c38
      refine g_tabInE c38 (off := 337) (tgt := 370) dL_law_33 (by decide) (by decide) (by decide) (by decide) ?_
      refine g_aload_n dL_law_370 rfl ?_
      refine s_V0i dL_law_371 vm_X7_week ml_L_43 rfl rfl (by decide) (Nat.le_of_ble_eq_true rfl) rfl (tk_Ms.mono t (fun x39 S40 t => ?_))
      refine g_aload_n dL_law_374 rfl ?_
      refine s_V0i dL_law_375 vm_X8_week ml_L_46 rfl rfl (by decide) (Nat.le_of_ble_eq_true rfl) rfl (tk_Ms.mono t (fun x41 S42 t => ?_))
      refine g_icmp_eq (tgt := 1070) dL_law_378 (by decide) (fun c43 => ?_) (fun c43 => ?_)
      · have t := t.1 c43
        refine g_iinc (v := l3 + 6) (ls' := [.ref 4096, .ref 0, .ref 45, .int (l3 + 6)]) dL_law_1070 rfl rfl (by decide) rfl rfl ?_
        refine g_goto (tgt := 18) dL_law_1073 (by decide) ?_
        exact t
      · have t := t.2 c43
        refine g_iconst (v := 0) dL_law_381 (by decide) ?_
        exact g_iret (st := []) dL_law_382 (fun e => by cases e) ⟨_, rfl, t⟩
    have t := t.2
    by_cases c44 : ((xs l3.toNatClampNeg) &&& 31) = 7
    · have t := t.1 c44
      refine g_tabInE c44 (off := 350) (tgt := 383) dL_law_33 (by decide) (by decide) (by decide) (by decide) ?_
      refine g_aload_n dL_law_383 rfl ?_
      refine g_aload_n dL_law_384 rfl ?_
      refine g_iload_n dL_law_385 rfl ?_
      refine g_iconst (v := 1) dL_law_386 (by decide) ?_
      refine g_iadd dL_law_387 ?_
      refine g_sld dL_law_388 t.1 ?_
      have t := t.2
      refine s_V1i dL_law_389 vm_X7_count ml_L_47 rfl rfl (by decide) (Nat.le_of_ble_eq_true rfl) rfl (tk_Ms.mono t (fun x45 S46 t => ?_))
      refine g_aload_n dL_law_392 rfl ?_
      refine g_aload_n dL_law_393 rfl ?_
      refine g_iload_n dL_law_394 rfl ?_
      refine g_iconst (v := 1) dL_law_395 (by decide) ?_
      refine g_iadd dL_law_396 ?_
      refine g_sld dL_law_397 t.1 ?_
      have t := t.2
      refine s_V1i dL_law_398 vm_X8_count ml_L_51 rfl rfl (by decide) (Nat.le_of_ble_eq_true rfl) rfl (tk_Ms.mono t (fun x47 S48 t => ?_))
      refine g_icmp_eq (tgt := 1070) dL_law_401 (by decide) (fun c49 => ?_) (fun c49 => ?_)
      · have t := t.1 c49
        refine g_iinc (v := l3 + 6) (ls' := [.ref 4096, .ref 0, .ref 45, .int (l3 + 6)]) dL_law_1070 rfl rfl (by decide) rfl rfl ?_
        refine g_goto (tgt := 18) dL_law_1073 (by decide) ?_
        exact t
      · have t := t.2 c49
        refine g_iconst (v := 0) dL_law_404 (by decide) ?_
        exact g_iret (st := []) dL_law_405 (fun e => by cases e) ⟨_, rfl, t⟩
    have t := t.2
    by_cases c50 : ((xs l3.toNatClampNeg) &&& 31) = 8
    · have t := t.1 c50
      refine g_tabInE c50 (off := 373) (tgt := 406) dL_law_33 (by decide) (by decide) (by decide) (by decide) ?_
      refine g_aload_n dL_law_406 rfl ?_
      refine g_aload_n dL_law_407 rfl ?_
      refine g_iload_n dL_law_408 rfl ?_
      refine g_iconst (v := 1) dL_law_409 (by decide) ?_
      refine g_iadd dL_law_410 ?_
      refine g_sld dL_law_411 t.1 ?_
      have t := t.2
      refine g_aload_n dL_law_412 rfl ?_
      refine g_iload_n dL_law_413 rfl ?_
      refine g_iconst (v := 2) dL_law_414 (by decide) ?_
      refine g_iadd dL_law_415 ?_
      refine g_sld dL_law_416 t.1 ?_
      have t := t.2
      refine g_aload_n dL_law_417 rfl ?_
      refine g_iload_n dL_law_418 rfl ?_
      refine g_iconst (v := 3) dL_law_419 (by decide) ?_
      refine g_iadd dL_law_420 ?_
      refine g_sld dL_law_421 t.1 ?_
      have t := t.2
      refine s_V3i dL_law_422 vm_X7_visit ml_L_52 rfl rfl (by decide) (Nat.le_of_ble_eq_true rfl) rfl (tk_Ms.mono t (fun x51 S52 t => ?_))
      refine g_aload_n dL_law_425 rfl ?_
      refine g_aload_n dL_law_426 rfl ?_
      refine g_iload_n dL_law_427 rfl ?_
      refine g_iconst (v := 1) dL_law_428 (by decide) ?_
      refine g_iadd dL_law_429 ?_
      refine g_sld dL_law_430 t.1 ?_
      have t := t.2
      refine g_aload_n dL_law_431 rfl ?_
      refine g_iload_n dL_law_432 rfl ?_
      refine g_iconst (v := 2) dL_law_433 (by decide) ?_
      refine g_iadd dL_law_434 ?_
      refine g_sld dL_law_435 t.1 ?_
      have t := t.2
      refine g_aload_n dL_law_436 rfl ?_
      refine g_iload_n dL_law_437 rfl ?_
      refine g_iconst (v := 3) dL_law_438 (by decide) ?_
      refine g_iadd dL_law_439 ?_
      refine g_sld dL_law_440 t.1 ?_
      have t := t.2
      refine s_V3i dL_law_441 vm_X8_visit ml_L_55 rfl rfl (by decide) (Nat.le_of_ble_eq_true rfl) rfl (tk_Ms.mono t (fun x53 S54 t => ?_))
      refine g_icmp_eq (tgt := 1070) dL_law_444 (by decide) (fun c55 => ?_) (fun c55 => ?_)
      · have t := t.1 c55
        refine g_iinc (v := l3 + 6) (ls' := [.ref 4096, .ref 0, .ref 45, .int (l3 + 6)]) dL_law_1070 rfl rfl (by decide) rfl rfl ?_
        refine g_goto (tgt := 18) dL_law_1073 (by decide) ?_
        exact t
      · have t := t.2 c55
        refine g_iconst (v := 0) dL_law_447 (by decide) ?_
        exact g_iret (st := []) dL_law_448 (fun e => by cases e) ⟨_, rfl, t⟩
    have t := t.2
    by_cases c56 : ((xs l3.toNatClampNeg) &&& 31) = 9
    · have t := t.1 c56
      refine g_tabInE c56 (off := 416) (tgt := 449) dL_law_33 (by decide) (by decide) (by decide) (by decide) ?_
      refine g_aload_n dL_law_449 rfl ?_
      refine g_aload_n dL_law_450 rfl ?_
      refine g_iload_n dL_law_451 rfl ?_
      refine g_iconst (v := 1) dL_law_452 (by decide) ?_
      refine g_iadd dL_law_453 ?_
      refine g_sld dL_law_454 t.1 ?_
      have t := t.2
      refine g_aload_n dL_law_455 rfl ?_
      refine g_iload_n dL_law_456 rfl ?_
      refine g_iconst (v := 2) dL_law_457 (by decide) ?_
      refine g_iadd dL_law_458 ?_
      refine g_sld dL_law_459 t.1 ?_
      have t := t.2
      refine s_V2i dL_law_460 vm_X7_wash ml_L_56 rfl rfl (by decide) (Nat.le_of_ble_eq_true rfl) rfl (tk_Ms.mono t (fun x57 S58 t => ?_))
      refine g_aload_n dL_law_463 rfl ?_
      refine g_aload_n dL_law_464 rfl ?_
      refine g_iload_n dL_law_465 rfl ?_
      refine g_iconst (v := 1) dL_law_466 (by decide) ?_
      refine g_iadd dL_law_467 ?_
      refine g_sld dL_law_468 t.1 ?_
      have t := t.2
      refine g_aload_n dL_law_469 rfl ?_
      refine g_iload_n dL_law_470 rfl ?_
      refine g_iconst (v := 2) dL_law_471 (by decide) ?_
      refine g_iadd dL_law_472 ?_
      refine g_sld dL_law_473 t.1 ?_
      have t := t.2
      refine s_V2i dL_law_474 vm_X8_wash ml_L_59 rfl rfl (by decide) (Nat.le_of_ble_eq_true rfl) rfl (tk_Ms.mono t (fun x59 S60 t => ?_))
      refine g_icmp_eq (tgt := 1070) dL_law_477 (by decide) (fun c61 => ?_) (fun c61 => ?_)
      · have t := t.1 c61
        refine g_iinc (v := l3 + 6) (ls' := [.ref 4096, .ref 0, .ref 45, .int (l3 + 6)]) dL_law_1070 rfl rfl (by decide) rfl rfl ?_
        refine g_goto (tgt := 18) dL_law_1073 (by decide) ?_
        exact t
      · have t := t.2 c61
        refine g_iconst (v := 0) dL_law_480 (by decide) ?_
        exact g_iret (st := []) dL_law_481 (fun e => by cases e) ⟨_, rfl, t⟩
    have t := t.2
    by_cases c62 : ((xs l3.toNatClampNeg) &&& 31) = 10
    · have t := t.1 c62
      refine g_tabInE c62 (off := 449) (tgt := 482) dL_law_33 (by decide) (by decide) (by decide) (by decide) ?_
      refine g_aload_n dL_law_482 rfl ?_
      refine g_aload_n dL_law_483 rfl ?_
      refine g_iload_n dL_law_484 rfl ?_
      refine g_iconst (v := 1) dL_law_485 (by decide) ?_
      refine g_iadd dL_law_486 ?_
      refine g_sld dL_law_487 t.1 ?_
      have t := t.2
      refine g_aload_n dL_law_488 rfl ?_
      refine g_iload_n dL_law_489 rfl ?_
      refine g_iconst (v := 2) dL_law_490 (by decide) ?_
      refine g_iadd dL_law_491 ?_
      refine g_sld dL_law_492 t.1 ?_
      have t := t.2
      refine s_V2i dL_law_493 vm_X7_change ml_L_60 rfl rfl (by decide) (Nat.le_of_ble_eq_true rfl) rfl (tk_Ms.mono t (fun x63 S64 t => ?_))
      refine g_aload_n dL_law_496 rfl ?_
      refine g_aload_n dL_law_497 rfl ?_
      refine g_iload_n dL_law_498 rfl ?_
      refine g_iconst (v := 1) dL_law_499 (by decide) ?_
      refine g_iadd dL_law_500 ?_
      refine g_sld dL_law_501 t.1 ?_
      have t := t.2
      refine g_aload_n dL_law_502 rfl ?_
      refine g_iload_n dL_law_503 rfl ?_
      refine g_iconst (v := 2) dL_law_504 (by decide) ?_
      refine g_iadd dL_law_505 ?_
      refine g_sld dL_law_506 t.1 ?_
      have t := t.2
      refine s_V2i dL_law_507 vm_X8_change ml_L_63 rfl rfl (by decide) (Nat.le_of_ble_eq_true rfl) rfl (tk_Ms.mono t (fun x65 S66 t => ?_))
      refine g_icmp_eq (tgt := 1070) dL_law_510 (by decide) (fun c67 => ?_) (fun c67 => ?_)
      · have t := t.1 c67
        refine g_iinc (v := l3 + 6) (ls' := [.ref 4096, .ref 0, .ref 45, .int (l3 + 6)]) dL_law_1070 rfl rfl (by decide) rfl rfl ?_
        refine g_goto (tgt := 18) dL_law_1073 (by decide) ?_
        exact t
      · have t := t.2 c67
        refine g_iconst (v := 0) dL_law_513 (by decide) ?_
        exact g_iret (st := []) dL_law_514 (fun e => by cases e) ⟨_, rfl, t⟩
    have t := t.2
    by_cases c68 : ((xs l3.toNatClampNeg) &&& 31) = 11
    · have t := t.1 c68
      refine g_tabInE c68 (off := 482) (tgt := 515) dL_law_33 (by decide) (by decide) (by decide) (by decide) ?_
      refine g_aload_n dL_law_515 rfl ?_
      refine s_V0i dL_law_516 vm_X7_next ml_L_64 rfl rfl (by decide) (Nat.le_of_ble_eq_true rfl) rfl (tk_Ms.mono t (fun x69 S70 t => ?_))
      refine g_aload_n dL_law_519 rfl ?_
      refine s_V0i dL_law_520 vm_X8_next ml_L_67 rfl rfl (by decide) (Nat.le_of_ble_eq_true rfl) rfl (tk_Ms.mono t (fun x71 S72 t => ?_))
      refine g_icmp_eq (tgt := 1070) dL_law_523 (by decide) (fun c73 => ?_) (fun c73 => ?_)
      · have t := t.1 c73
        refine g_iinc (v := l3 + 6) (ls' := [.ref 4096, .ref 0, .ref 45, .int (l3 + 6)]) dL_law_1070 rfl rfl (by decide) rfl rfl ?_
        refine g_goto (tgt := 18) dL_law_1073 (by decide) ?_
        exact t
      · have t := t.2 c73
        refine g_iconst (v := 0) dL_law_526 (by decide) ?_
        exact g_iret (st := []) dL_law_527 (fun e => by cases e) ⟨_, rfl, t⟩
    have t := t.2
    by_cases c74 : ((xs l3.toNatClampNeg) &&& 31) = 12
    · have t := t.1 c74
      refine g_tabInE c74 (off := 495) (tgt := 528) dL_law_33 (by decide) (by decide) (by decide) (by decide) ?_
      refine g_aload_n dL_law_528 rfl ?_
      refine g_aload_n dL_law_529 rfl ?_
      refine g_iload_n dL_law_530 rfl ?_
      refine g_iconst (v := 1) dL_law_531 (by decide) ?_
      refine g_iadd dL_law_532 ?_
      refine g_sld dL_law_533 t.1 ?_
      have t := t.2
      refine g_aload_n dL_law_534 rfl ?_
      refine g_iload_n dL_law_535 rfl ?_
      refine g_iconst (v := 2) dL_law_536 (by decide) ?_
      refine g_iadd dL_law_537 ?_
      refine g_sld dL_law_538 t.1 ?_
      have t := t.2
      refine s_V2i dL_law_539 vm_X7_shown ml_L_68 rfl rfl (by decide) (Nat.le_of_ble_eq_true rfl) rfl (tk_Ms.mono t (fun x75 S76 t => ?_))
      refine g_aload_n dL_law_542 rfl ?_
      refine g_aload_n dL_law_543 rfl ?_
      refine g_iload_n dL_law_544 rfl ?_
      refine g_iconst (v := 1) dL_law_545 (by decide) ?_
      refine g_iadd dL_law_546 ?_
      refine g_sld dL_law_547 t.1 ?_
      have t := t.2
      refine g_aload_n dL_law_548 rfl ?_
      refine g_iload_n dL_law_549 rfl ?_
      refine g_iconst (v := 2) dL_law_550 (by decide) ?_
      refine g_iadd dL_law_551 ?_
      refine g_sld dL_law_552 t.1 ?_
      have t := t.2
      refine s_V2i dL_law_553 vm_X8_shown ml_L_71 rfl rfl (by decide) (Nat.le_of_ble_eq_true rfl) rfl (tk_Ms.mono t (fun x77 S78 t => ?_))
      refine g_icmp_eq (tgt := 1070) dL_law_556 (by decide) (fun c79 => ?_) (fun c79 => ?_)
      · have t := t.1 c79
        refine g_iinc (v := l3 + 6) (ls' := [.ref 4096, .ref 0, .ref 45, .int (l3 + 6)]) dL_law_1070 rfl rfl (by decide) rfl rfl ?_
        refine g_goto (tgt := 18) dL_law_1073 (by decide) ?_
        exact t
      · have t := t.2 c79
        refine g_iconst (v := 0) dL_law_559 (by decide) ?_
        exact g_iret (st := []) dL_law_560 (fun e => by cases e) ⟨_, rfl, t⟩
    have t := t.2
    by_cases c80 : ((xs l3.toNatClampNeg) &&& 31) = 13
    · have t := t.1 c80
      refine g_tabInE c80 (off := 528) (tgt := 561) dL_law_33 (by decide) (by decide) (by decide) (by decide) ?_
      refine g_aload_n dL_law_561 rfl ?_
      refine g_aload_n dL_law_562 rfl ?_
      refine g_iload_n dL_law_563 rfl ?_
      refine g_iconst (v := 1) dL_law_564 (by decide) ?_
      refine g_iadd dL_law_565 ?_
      refine g_sld dL_law_566 t.1 ?_
      have t := t.2
      refine g_aload_n dL_law_567 rfl ?_
      refine g_iload_n dL_law_568 rfl ?_
      refine g_iconst (v := 2) dL_law_569 (by decide) ?_
      refine g_iadd dL_law_570 ?_
      refine g_sld dL_law_571 t.1 ?_
      have t := t.2
      refine g_aload_n dL_law_572 rfl ?_
      refine g_iload_n dL_law_573 rfl ?_
      refine g_iconst (v := 3) dL_law_574 (by decide) ?_
      refine g_iadd dL_law_575 ?_
      refine g_sld dL_law_576 t.1 ?_
      have t := t.2
      refine s_V3i dL_law_577 vm_X7_seen ml_L_72 rfl rfl (by decide) (Nat.le_of_ble_eq_true rfl) rfl (tk_Ms.mono t (fun x81 S82 t => ?_))
      refine g_aload_n dL_law_580 rfl ?_
      refine g_aload_n dL_law_581 rfl ?_
      refine g_iload_n dL_law_582 rfl ?_
      refine g_iconst (v := 1) dL_law_583 (by decide) ?_
      refine g_iadd dL_law_584 ?_
      refine g_sld dL_law_585 t.1 ?_
      have t := t.2
      refine g_aload_n dL_law_586 rfl ?_
      refine g_iload_n dL_law_587 rfl ?_
      refine g_iconst (v := 2) dL_law_588 (by decide) ?_
      refine g_iadd dL_law_589 ?_
      refine g_sld dL_law_590 t.1 ?_
      have t := t.2
      refine g_aload_n dL_law_591 rfl ?_
      refine g_iload_n dL_law_592 rfl ?_
      refine g_iconst (v := 3) dL_law_593 (by decide) ?_
      refine g_iadd dL_law_594 ?_
      refine g_sld dL_law_595 t.1 ?_
      have t := t.2
      refine s_V3i dL_law_596 vm_X8_seen ml_L_75 rfl rfl (by decide) (Nat.le_of_ble_eq_true rfl) rfl (tk_Ms.mono t (fun x83 S84 t => ?_))
      refine g_icmp_eq (tgt := 1070) dL_law_599 (by decide) (fun c85 => ?_) (fun c85 => ?_)
      · have t := t.1 c85
        refine g_iinc (v := l3 + 6) (ls' := [.ref 4096, .ref 0, .ref 45, .int (l3 + 6)]) dL_law_1070 rfl rfl (by decide) rfl rfl ?_
        refine g_goto (tgt := 18) dL_law_1073 (by decide) ?_
        exact t
      · have t := t.2 c85
        refine g_iconst (v := 0) dL_law_602 (by decide) ?_
        exact g_iret (st := []) dL_law_603 (fun e => by cases e) ⟨_, rfl, t⟩
    have t := t.2
    by_cases c86 : ((xs l3.toNatClampNeg) &&& 31) = 14
    · have t := t.1 c86
      refine g_tabInE c86 (off := 571) (tgt := 604) dL_law_33 (by decide) (by decide) (by decide) (by decide) ?_
      refine g_aload_n dL_law_604 rfl ?_
      refine g_aload_n dL_law_605 rfl ?_
      refine g_iload_n dL_law_606 rfl ?_
      refine g_iconst (v := 1) dL_law_607 (by decide) ?_
      refine g_iadd dL_law_608 ?_
      refine g_sld dL_law_609 t.1 ?_
      have t := t.2
      refine s_V1i dL_law_610 vm_X7_reach ml_L_76 rfl rfl (by decide) (Nat.le_of_ble_eq_true rfl) rfl (tk_Ms.mono t (fun x87 S88 t => ?_))
      refine g_aload_n dL_law_613 rfl ?_
      refine g_aload_n dL_law_614 rfl ?_
      refine g_iload_n dL_law_615 rfl ?_
      refine g_iconst (v := 1) dL_law_616 (by decide) ?_
      refine g_iadd dL_law_617 ?_
      refine g_sld dL_law_618 t.1 ?_
      have t := t.2
      refine s_V1i dL_law_619 vm_X8_reach ml_L_79 rfl rfl (by decide) (Nat.le_of_ble_eq_true rfl) rfl (tk_Ms.mono t (fun x89 S90 t => ?_))
      refine g_icmp_eq (tgt := 1070) dL_law_622 (by decide) (fun c91 => ?_) (fun c91 => ?_)
      · have t := t.1 c91
        refine g_iinc (v := l3 + 6) (ls' := [.ref 4096, .ref 0, .ref 45, .int (l3 + 6)]) dL_law_1070 rfl rfl (by decide) rfl rfl ?_
        refine g_goto (tgt := 18) dL_law_1073 (by decide) ?_
        exact t
      · have t := t.2 c91
        refine g_iconst (v := 0) dL_law_625 (by decide) ?_
        exact g_iret (st := []) dL_law_626 (fun e => by cases e) ⟨_, rfl, t⟩
    have t := t.2
    by_cases c92 : ((xs l3.toNatClampNeg) &&& 31) = 15
    · have t := t.1 c92
      refine g_tabInE c92 (off := 594) (tgt := 627) dL_law_33 (by decide) (by decide) (by decide) (by decide) ?_
      refine g_aload_n dL_law_627 rfl ?_
      refine g_aload_n dL_law_628 rfl ?_
      refine g_iload_n dL_law_629 rfl ?_
      refine g_iconst (v := 1) dL_law_630 (by decide) ?_
      refine g_iadd dL_law_631 ?_
      refine g_sld dL_law_632 t.1 ?_
      have t := t.2
      refine g_aload_n dL_law_633 rfl ?_
      refine g_iload_n dL_law_634 rfl ?_
      refine g_iconst (v := 2) dL_law_635 (by decide) ?_
      refine g_iadd dL_law_636 ?_
      refine g_sld dL_law_637 t.1 ?_
      have t := t.2
      refine g_aload_n dL_law_638 rfl ?_
      refine g_iload_n dL_law_639 rfl ?_
      refine g_iconst (v := 3) dL_law_640 (by decide) ?_
      refine g_iadd dL_law_641 ?_
      refine g_sld dL_law_642 t.1 ?_
      have t := t.2
      refine s_V3i dL_law_643 vm_X7_fits ml_L_80 rfl rfl (by decide) (Nat.le_of_ble_eq_true rfl) rfl (tk_Ms.mono t (fun x93 S94 t => ?_))
      refine g_aload_n dL_law_646 rfl ?_
      refine g_aload_n dL_law_647 rfl ?_
      refine g_iload_n dL_law_648 rfl ?_
      refine g_iconst (v := 1) dL_law_649 (by decide) ?_
      refine g_iadd dL_law_650 ?_
      refine g_sld dL_law_651 t.1 ?_
      have t := t.2
      refine g_aload_n dL_law_652 rfl ?_
      refine g_iload_n dL_law_653 rfl ?_
      refine g_iconst (v := 2) dL_law_654 (by decide) ?_
      refine g_iadd dL_law_655 ?_
      refine g_sld dL_law_656 t.1 ?_
      have t := t.2
      refine g_aload_n dL_law_657 rfl ?_
      refine g_iload_n dL_law_658 rfl ?_
      refine g_iconst (v := 3) dL_law_659 (by decide) ?_
      refine g_iadd dL_law_660 ?_
      refine g_sld dL_law_661 t.1 ?_
      have t := t.2
      refine s_V3i dL_law_662 vm_X8_fits ml_L_83 rfl rfl (by decide) (Nat.le_of_ble_eq_true rfl) rfl (tk_Ms.mono t (fun x95 S96 t => ?_))
      refine g_icmp_eq (tgt := 1070) dL_law_665 (by decide) (fun c97 => ?_) (fun c97 => ?_)
      · have t := t.1 c97
        refine g_iinc (v := l3 + 6) (ls' := [.ref 4096, .ref 0, .ref 45, .int (l3 + 6)]) dL_law_1070 rfl rfl (by decide) rfl rfl ?_
        refine g_goto (tgt := 18) dL_law_1073 (by decide) ?_
        exact t
      · have t := t.2 c97
        refine g_iconst (v := 0) dL_law_668 (by decide) ?_
        exact g_iret (st := []) dL_law_669 (fun e => by cases e) ⟨_, rfl, t⟩
    have t := t.2
    by_cases c98 : ((xs l3.toNatClampNeg) &&& 31) = 16
    · have t := t.1 c98
      refine g_tabInE c98 (off := 637) (tgt := 670) dL_law_33 (by decide) (by decide) (by decide) (by decide) ?_
      refine g_aload_n dL_law_670 rfl ?_
      refine g_aload_n dL_law_671 rfl ?_
      refine g_iload_n dL_law_672 rfl ?_
      refine g_iconst (v := 1) dL_law_673 (by decide) ?_
      refine g_iadd dL_law_674 ?_
      refine g_sld dL_law_675 t.1 ?_
      have t := t.2
      refine g_aload_n dL_law_676 rfl ?_
      refine g_iload_n dL_law_677 rfl ?_
      refine g_iconst (v := 2) dL_law_678 (by decide) ?_
      refine g_iadd dL_law_679 ?_
      refine g_sld dL_law_680 t.1 ?_
      have t := t.2
      refine g_aload_n dL_law_681 rfl ?_
      refine g_iload_n dL_law_682 rfl ?_
      refine g_iconst (v := 3) dL_law_683 (by decide) ?_
      refine g_iadd dL_law_684 ?_
      refine g_sld dL_law_685 t.1 ?_
      have t := t.2
      refine s_V3i dL_law_686 vm_X7_been ml_L_84 rfl rfl (by decide) (Nat.le_of_ble_eq_true rfl) rfl (tk_Ms.mono t (fun x99 S100 t => ?_))
      refine g_aload_n dL_law_689 rfl ?_
      refine g_aload_n dL_law_690 rfl ?_
      refine g_iload_n dL_law_691 rfl ?_
      refine g_iconst (v := 1) dL_law_692 (by decide) ?_
      refine g_iadd dL_law_693 ?_
      refine g_sld dL_law_694 t.1 ?_
      have t := t.2
      refine g_aload_n dL_law_695 rfl ?_
      refine g_iload_n dL_law_696 rfl ?_
      refine g_iconst (v := 2) dL_law_697 (by decide) ?_
      refine g_iadd dL_law_698 ?_
      refine g_sld dL_law_699 t.1 ?_
      have t := t.2
      refine g_aload_n dL_law_700 rfl ?_
      refine g_iload_n dL_law_701 rfl ?_
      refine g_iconst (v := 3) dL_law_702 (by decide) ?_
      refine g_iadd dL_law_703 ?_
      refine g_sld dL_law_704 t.1 ?_
      have t := t.2
      refine s_V3i dL_law_705 vm_X8_been ml_L_87 rfl rfl (by decide) (Nat.le_of_ble_eq_true rfl) rfl (tk_Ms.mono t (fun x101 S102 t => ?_))
      refine g_icmp_eq (tgt := 1070) dL_law_708 (by decide) (fun c103 => ?_) (fun c103 => ?_)
      · have t := t.1 c103
        refine g_iinc (v := l3 + 6) (ls' := [.ref 4096, .ref 0, .ref 45, .int (l3 + 6)]) dL_law_1070 rfl rfl (by decide) rfl rfl ?_
        refine g_goto (tgt := 18) dL_law_1073 (by decide) ?_
        exact t
      · have t := t.2 c103
        refine g_iconst (v := 0) dL_law_711 (by decide) ?_
        exact g_iret (st := []) dL_law_712 (fun e => by cases e) ⟨_, rfl, t⟩
    have t := t.2
    by_cases c104 : ((xs l3.toNatClampNeg) &&& 31) = 17
    · have t := t.1 c104
      refine g_tabInE c104 (off := 680) (tgt := 713) dL_law_33 (by decide) (by decide) (by decide) (by decide) ?_
      refine g_aload_n dL_law_713 rfl ?_
      refine g_aload_n dL_law_714 rfl ?_
      refine g_iload_n dL_law_715 rfl ?_
      refine g_iconst (v := 1) dL_law_716 (by decide) ?_
      refine g_iadd dL_law_717 ?_
      refine g_sld dL_law_718 t.1 ?_
      have t := t.2
      refine g_aload_n dL_law_719 rfl ?_
      refine g_iload_n dL_law_720 rfl ?_
      refine g_iconst (v := 2) dL_law_721 (by decide) ?_
      refine g_iadd dL_law_722 ?_
      refine g_sld dL_law_723 t.1 ?_
      have t := t.2
      refine g_aload_n dL_law_724 rfl ?_
      refine g_iload_n dL_law_725 rfl ?_
      refine g_iconst (v := 3) dL_law_726 (by decide) ?_
      refine g_iadd dL_law_727 ?_
      refine g_sld dL_law_728 t.1 ?_
      have t := t.2
      refine s_V3i dL_law_729 vm_X7_look ml_L_88 rfl rfl (by decide) (Nat.le_of_ble_eq_true rfl) rfl (tk_Ms.mono t (fun x105 S106 t => ?_))
      refine g_aload_n dL_law_732 rfl ?_
      refine g_aload_n dL_law_733 rfl ?_
      refine g_iload_n dL_law_734 rfl ?_
      refine g_iconst (v := 1) dL_law_735 (by decide) ?_
      refine g_iadd dL_law_736 ?_
      refine g_sld dL_law_737 t.1 ?_
      have t := t.2
      refine g_aload_n dL_law_738 rfl ?_
      refine g_iload_n dL_law_739 rfl ?_
      refine g_iconst (v := 2) dL_law_740 (by decide) ?_
      refine g_iadd dL_law_741 ?_
      refine g_sld dL_law_742 t.1 ?_
      have t := t.2
      refine g_aload_n dL_law_743 rfl ?_
      refine g_iload_n dL_law_744 rfl ?_
      refine g_iconst (v := 3) dL_law_745 (by decide) ?_
      refine g_iadd dL_law_746 ?_
      refine g_sld dL_law_747 t.1 ?_
      have t := t.2
      refine s_V3i dL_law_748 vm_X8_look ml_L_91 rfl rfl (by decide) (Nat.le_of_ble_eq_true rfl) rfl (tk_Ms.mono t (fun x107 S108 t => ?_))
      refine g_icmp_eq (tgt := 1070) dL_law_751 (by decide) (fun c109 => ?_) (fun c109 => ?_)
      · have t := t.1 c109
        refine g_iinc (v := l3 + 6) (ls' := [.ref 4096, .ref 0, .ref 45, .int (l3 + 6)]) dL_law_1070 rfl rfl (by decide) rfl rfl ?_
        refine g_goto (tgt := 18) dL_law_1073 (by decide) ?_
        exact t
      · have t := t.2 c109
        refine g_iconst (v := 0) dL_law_754 (by decide) ?_
        exact g_iret (st := []) dL_law_755 (fun e => by cases e) ⟨_, rfl, t⟩
    have t := t.2
    by_cases c110 : ((xs l3.toNatClampNeg) &&& 31) = 18
    · have t := t.1 c110
      refine g_tabInE c110 (off := 723) (tgt := 756) dL_law_33 (by decide) (by decide) (by decide) (by decide) ?_
      refine g_aload_n dL_law_756 rfl ?_
      refine s_V0i dL_law_757 vm_X7_image ml_L_92 rfl rfl (by decide) (Nat.le_of_ble_eq_true rfl) rfl (tk_Ms.mono t (fun x111 S112 t => ?_))
      refine g_aload_n dL_law_760 rfl ?_
      refine s_V0i dL_law_761 vm_X8_image ml_L_95 rfl rfl (by decide) (Nat.le_of_ble_eq_true rfl) rfl (tk_Ms.mono t (fun x113 S114 t => ?_))
      refine g_icmp_eq (tgt := 1070) dL_law_764 (by decide) (fun c115 => ?_) (fun c115 => ?_)
      · have t := t.1 c115
        refine g_iinc (v := l3 + 6) (ls' := [.ref 4096, .ref 0, .ref 45, .int (l3 + 6)]) dL_law_1070 rfl rfl (by decide) rfl rfl ?_
        refine g_goto (tgt := 18) dL_law_1073 (by decide) ?_
        exact t
      · have t := t.2 c115
        refine g_iconst (v := 0) dL_law_767 (by decide) ?_
        exact g_iret (st := []) dL_law_768 (fun e => by cases e) ⟨_, rfl, t⟩
    have t := t.2
    by_cases c116 : ((xs l3.toNatClampNeg) &&& 31) = 19
    · have t := t.1 c116
      refine g_tabInE c116 (off := 736) (tgt := 769) dL_law_33 (by decide) (by decide) (by decide) (by decide) ?_
      refine g_aload_n dL_law_769 rfl ?_
      refine s_V0i dL_law_770 vm_X7_restore ml_L_96 rfl rfl (by decide) (Nat.le_of_ble_eq_true rfl) rfl (tk_Ms.mono t (fun x117 S118 t => ?_))
      refine g_aload_n dL_law_773 rfl ?_
      refine s_V0i dL_law_774 vm_X8_restore ml_L_99 rfl rfl (by decide) (Nat.le_of_ble_eq_true rfl) rfl (tk_Ms.mono t (fun x119 S120 t => ?_))
      refine g_icmp_eq (tgt := 1070) dL_law_777 (by decide) (fun c121 => ?_) (fun c121 => ?_)
      · have t := t.1 c121
        refine g_iinc (v := l3 + 6) (ls' := [.ref 4096, .ref 0, .ref 45, .int (l3 + 6)]) dL_law_1070 rfl rfl (by decide) rfl rfl ?_
        refine g_goto (tgt := 18) dL_law_1073 (by decide) ?_
        exact t
      · have t := t.2 c121
        refine g_iconst (v := 0) dL_law_780 (by decide) ?_
        exact g_iret (st := []) dL_law_781 (fun e => by cases e) ⟨_, rfl, t⟩
    have t := t.2
    by_cases c122 : ((xs l3.toNatClampNeg) &&& 31) = 20
    · have t := t.1 c122
      refine g_tabInE c122 (off := 749) (tgt := 782) dL_law_33 (by decide) (by decide) (by decide) (by decide) ?_
      refine g_aload_n dL_law_782 rfl ?_
      refine g_aload_n dL_law_783 rfl ?_
      refine g_iload_n dL_law_784 rfl ?_
      refine g_iconst (v := 1) dL_law_785 (by decide) ?_
      refine g_iadd dL_law_786 ?_
      refine g_sld dL_law_787 t.1 ?_
      have t := t.2
      refine g_aload_n dL_law_788 rfl ?_
      refine g_iload_n dL_law_789 rfl ?_
      refine g_iconst (v := 2) dL_law_790 (by decide) ?_
      refine g_iadd dL_law_791 ?_
      refine g_sld dL_law_792 t.1 ?_
      have t := t.2
      refine g_aload_n dL_law_793 rfl ?_
      refine g_iload_n dL_law_794 rfl ?_
      refine g_iconst (v := 3) dL_law_795 (by decide) ?_
      refine g_iadd dL_law_796 ?_
      refine g_sld dL_law_797 t.1 ?_
      have t := t.2
      refine g_aload_n dL_law_798 rfl ?_
      refine g_iload_n dL_law_799 rfl ?_
      refine g_iconst (v := 4) dL_law_800 (by decide) ?_
      refine g_iadd dL_law_801 ?_
      refine g_sld dL_law_802 t.1 ?_
      have t := t.2
      refine g_aload_n dL_law_803 rfl ?_
      refine g_iload_n dL_law_804 rfl ?_
      refine g_iconst (v := 5) dL_law_805 (by decide) ?_
      refine g_iadd dL_law_806 ?_
      refine g_sld dL_law_807 t.1 ?_
      have t := t.2
      refine s_V5i dL_law_808 vm_X7_asked ml_L_100 rfl rfl (by decide) (Nat.le_of_ble_eq_true rfl) rfl (tk_Ms.mono t (fun x123 S124 t => ?_))
      refine g_aload_n dL_law_811 rfl ?_
      refine g_aload_n dL_law_812 rfl ?_
      refine g_iload_n dL_law_813 rfl ?_
      refine g_iconst (v := 1) dL_law_814 (by decide) ?_
      refine g_iadd dL_law_815 ?_
      refine g_sld dL_law_816 t.1 ?_
      have t := t.2
      refine g_aload_n dL_law_817 rfl ?_
      refine g_iload_n dL_law_818 rfl ?_
      refine g_iconst (v := 2) dL_law_819 (by decide) ?_
      refine g_iadd dL_law_820 ?_
      refine g_sld dL_law_821 t.1 ?_
      have t := t.2
      refine g_aload_n dL_law_822 rfl ?_
      refine g_iload_n dL_law_823 rfl ?_
      refine g_iconst (v := 3) dL_law_824 (by decide) ?_
      refine g_iadd dL_law_825 ?_
      refine g_sld dL_law_826 t.1 ?_
      have t := t.2
      refine g_aload_n dL_law_827 rfl ?_
      refine g_iload_n dL_law_828 rfl ?_
      refine g_iconst (v := 4) dL_law_829 (by decide) ?_
      refine g_iadd dL_law_830 ?_
      refine g_sld dL_law_831 t.1 ?_
      have t := t.2
      refine g_aload_n dL_law_832 rfl ?_
      refine g_iload_n dL_law_833 rfl ?_
      refine g_iconst (v := 5) dL_law_834 (by decide) ?_
      refine g_iadd dL_law_835 ?_
      refine g_sld dL_law_836 t.1 ?_
      have t := t.2
      refine s_V5i dL_law_837 vm_X8_asked ml_L_104 rfl rfl (by decide) (Nat.le_of_ble_eq_true rfl) rfl (tk_Ms.mono t (fun x125 S126 t => ?_))
      refine g_icmp_eq (tgt := 1070) dL_law_840 (by decide) (fun c127 => ?_) (fun c127 => ?_)
      · have t := t.1 c127
        refine g_iinc (v := l3 + 6) (ls' := [.ref 4096, .ref 0, .ref 45, .int (l3 + 6)]) dL_law_1070 rfl rfl (by decide) rfl rfl ?_
        refine g_goto (tgt := 18) dL_law_1073 (by decide) ?_
        exact t
      · have t := t.2 c127
        refine g_iconst (v := 0) dL_law_843 (by decide) ?_
        exact g_iret (st := []) dL_law_844 (fun e => by cases e) ⟨_, rfl, t⟩
    have t := t.2
    by_cases c128 : ((xs l3.toNatClampNeg) &&& 31) = 21
    · have t := t.1 c128
      refine g_tabInE c128 (off := 812) (tgt := 845) dL_law_33 (by decide) (by decide) (by decide) (by decide) ?_
      refine g_aload_n dL_law_845 rfl ?_
      refine g_aload_n dL_law_846 rfl ?_
      refine g_iload_n dL_law_847 rfl ?_
      refine g_iconst (v := 1) dL_law_848 (by decide) ?_
      refine g_iadd dL_law_849 ?_
      refine g_sld dL_law_850 t.1 ?_
      have t := t.2
      refine g_aload_n dL_law_851 rfl ?_
      refine g_iload_n dL_law_852 rfl ?_
      refine g_iconst (v := 2) dL_law_853 (by decide) ?_
      refine g_iadd dL_law_854 ?_
      refine g_sld dL_law_855 t.1 ?_
      have t := t.2
      refine g_aload_n dL_law_856 rfl ?_
      refine g_iload_n dL_law_857 rfl ?_
      refine g_iconst (v := 3) dL_law_858 (by decide) ?_
      refine g_iadd dL_law_859 ?_
      refine g_sld dL_law_860 t.1 ?_
      have t := t.2
      refine s_V3i dL_law_861 vm_X7_film ml_L_105 rfl rfl (by decide) (Nat.le_of_ble_eq_true rfl) rfl (tk_Ms.mono t (fun x129 S130 t => ?_))
      refine g_aload_n dL_law_864 rfl ?_
      refine g_aload_n dL_law_865 rfl ?_
      refine g_iload_n dL_law_866 rfl ?_
      refine g_iconst (v := 1) dL_law_867 (by decide) ?_
      refine g_iadd dL_law_868 ?_
      refine g_sld dL_law_869 t.1 ?_
      have t := t.2
      refine g_aload_n dL_law_870 rfl ?_
      refine g_iload_n dL_law_871 rfl ?_
      refine g_iconst (v := 2) dL_law_872 (by decide) ?_
      refine g_iadd dL_law_873 ?_
      refine g_sld dL_law_874 t.1 ?_
      have t := t.2
      refine g_aload_n dL_law_875 rfl ?_
      refine g_iload_n dL_law_876 rfl ?_
      refine g_iconst (v := 3) dL_law_877 (by decide) ?_
      refine g_iadd dL_law_878 ?_
      refine g_sld dL_law_879 t.1 ?_
      have t := t.2
      refine s_V3i dL_law_880 vm_X8_film ml_L_108 rfl rfl (by decide) (Nat.le_of_ble_eq_true rfl) rfl (tk_Ms.mono t (fun x131 S132 t => ?_))
      refine g_icmp_eq (tgt := 1070) dL_law_883 (by decide) (fun c133 => ?_) (fun c133 => ?_)
      · have t := t.1 c133
        refine g_iinc (v := l3 + 6) (ls' := [.ref 4096, .ref 0, .ref 45, .int (l3 + 6)]) dL_law_1070 rfl rfl (by decide) rfl rfl ?_
        refine g_goto (tgt := 18) dL_law_1073 (by decide) ?_
        exact t
      · have t := t.2 c133
        refine g_iconst (v := 0) dL_law_886 (by decide) ?_
        exact g_iret (st := []) dL_law_887 (fun e => by cases e) ⟨_, rfl, t⟩
    have t := t.2
    by_cases c134 : ((xs l3.toNatClampNeg) &&& 31) = 22
    · have t := t.1 c134
      refine g_tabInE c134 (off := 855) (tgt := 888) dL_law_33 (by decide) (by decide) (by decide) (by decide) ?_
      refine g_aload_n dL_law_888 rfl ?_
      refine g_aload_n dL_law_889 rfl ?_
      refine g_iload_n dL_law_890 rfl ?_
      refine g_iconst (v := 1) dL_law_891 (by decide) ?_
      refine g_iadd dL_law_892 ?_
      refine g_sld dL_law_893 t.1 ?_
      have t := t.2
      refine g_aload_n dL_law_894 rfl ?_
      refine g_iload_n dL_law_895 rfl ?_
      refine g_iconst (v := 2) dL_law_896 (by decide) ?_
      refine g_iadd dL_law_897 ?_
      refine g_sld dL_law_898 t.1 ?_
      have t := t.2
      refine g_aload_n dL_law_899 rfl ?_
      refine g_iload_n dL_law_900 rfl ?_
      refine g_iconst (v := 3) dL_law_901 (by decide) ?_
      refine g_iadd dL_law_902 ?_
      refine g_sld dL_law_903 t.1 ?_
      have t := t.2
      refine s_V3i dL_law_904 vm_X7_sheet ml_L_109 rfl rfl (by decide) (Nat.le_of_ble_eq_true rfl) rfl (tk_Ms.mono t (fun x135 S136 t => ?_))
      refine g_aload_n dL_law_907 rfl ?_
      refine g_aload_n dL_law_908 rfl ?_
      refine g_iload_n dL_law_909 rfl ?_
      refine g_iconst (v := 1) dL_law_910 (by decide) ?_
      refine g_iadd dL_law_911 ?_
      refine g_sld dL_law_912 t.1 ?_
      have t := t.2
      refine g_aload_n dL_law_913 rfl ?_
      refine g_iload_n dL_law_914 rfl ?_
      refine g_iconst (v := 2) dL_law_915 (by decide) ?_
      refine g_iadd dL_law_916 ?_
      refine g_sld dL_law_917 t.1 ?_
      have t := t.2
      refine g_aload_n dL_law_918 rfl ?_
      refine g_iload_n dL_law_919 rfl ?_
      refine g_iconst (v := 3) dL_law_920 (by decide) ?_
      refine g_iadd dL_law_921 ?_
      refine g_sld dL_law_922 t.1 ?_
      have t := t.2
      refine s_V3i dL_law_923 vm_X8_sheet ml_L_112 rfl rfl (by decide) (Nat.le_of_ble_eq_true rfl) rfl (tk_Ms.mono t (fun x137 S138 t => ?_))
      refine g_icmp_eq (tgt := 1070) dL_law_926 (by decide) (fun c139 => ?_) (fun c139 => ?_)
      · have t := t.1 c139
        refine g_iinc (v := l3 + 6) (ls' := [.ref 4096, .ref 0, .ref 45, .int (l3 + 6)]) dL_law_1070 rfl rfl (by decide) rfl rfl ?_
        refine g_goto (tgt := 18) dL_law_1073 (by decide) ?_
        exact t
      · have t := t.2 c139
        refine g_iconst (v := 0) dL_law_929 (by decide) ?_
        exact g_iret (st := []) dL_law_930 (fun e => by cases e) ⟨_, rfl, t⟩
    have t := t.2
    by_cases c140 : ((xs l3.toNatClampNeg) &&& 31) = 23
    · have t := t.1 c140
      refine g_tabInE c140 (off := 898) (tgt := 931) dL_law_33 (by decide) (by decide) (by decide) (by decide) ?_
      refine g_aload_n dL_law_931 rfl ?_
      refine g_aload_n dL_law_932 rfl ?_
      refine g_iload_n dL_law_933 rfl ?_
      refine g_iconst (v := 1) dL_law_934 (by decide) ?_
      refine g_iadd dL_law_935 ?_
      refine g_sld dL_law_936 t.1 ?_
      have t := t.2
      refine s_V1i dL_law_937 vm_X7_drop ml_L_113 rfl rfl (by decide) (Nat.le_of_ble_eq_true rfl) rfl (tk_Ms.mono t (fun x141 S142 t => ?_))
      refine g_aload_n dL_law_940 rfl ?_
      refine g_aload_n dL_law_941 rfl ?_
      refine g_iload_n dL_law_942 rfl ?_
      refine g_iconst (v := 1) dL_law_943 (by decide) ?_
      refine g_iadd dL_law_944 ?_
      refine g_sld dL_law_945 t.1 ?_
      have t := t.2
      refine s_V1i dL_law_946 vm_X8_drop ml_L_116 rfl rfl (by decide) (Nat.le_of_ble_eq_true rfl) rfl (tk_Ms.mono t (fun x143 S144 t => ?_))
      refine g_icmp_eq (tgt := 1070) dL_law_949 (by decide) (fun c145 => ?_) (fun c145 => ?_)
      · have t := t.1 c145
        refine g_iinc (v := l3 + 6) (ls' := [.ref 4096, .ref 0, .ref 45, .int (l3 + 6)]) dL_law_1070 rfl rfl (by decide) rfl rfl ?_
        refine g_goto (tgt := 18) dL_law_1073 (by decide) ?_
        exact t
      · have t := t.2 c145
        refine g_iconst (v := 0) dL_law_952 (by decide) ?_
        exact g_iret (st := []) dL_law_953 (fun e => by cases e) ⟨_, rfl, t⟩
    have t := t.2
    by_cases c146 : ((xs l3.toNatClampNeg) &&& 31) = 24
    · have t := t.1 c146
      refine g_tabInE c146 (off := 921) (tgt := 954) dL_law_33 (by decide) (by decide) (by decide) (by decide) ?_
      refine g_aload_n dL_law_954 rfl ?_
      refine g_aload_n dL_law_955 rfl ?_
      refine g_iload_n dL_law_956 rfl ?_
      refine g_iconst (v := 1) dL_law_957 (by decide) ?_
      refine g_iadd dL_law_958 ?_
      refine g_sld dL_law_959 t.1 ?_
      have t := t.2
      refine g_aload_n dL_law_960 rfl ?_
      refine g_iload_n dL_law_961 rfl ?_
      refine g_iconst (v := 2) dL_law_962 (by decide) ?_
      refine g_iadd dL_law_963 ?_
      refine g_sld dL_law_964 t.1 ?_
      have t := t.2
      refine g_aload_n dL_law_965 rfl ?_
      refine g_iload_n dL_law_966 rfl ?_
      refine g_iconst (v := 3) dL_law_967 (by decide) ?_
      refine g_iadd dL_law_968 ?_
      refine g_sld dL_law_969 t.1 ?_
      have t := t.2
      refine g_aload_n dL_law_970 rfl ?_
      refine g_iload_n dL_law_971 rfl ?_
      refine g_iconst (v := 4) dL_law_972 (by decide) ?_
      refine g_iadd dL_law_973 ?_
      refine g_sld dL_law_974 t.1 ?_
      have t := t.2
      refine s_V4i dL_law_975 vm_X7_item ml_L_117 rfl rfl (by decide) (Nat.le_of_ble_eq_true rfl) rfl (tk_Ms.mono t (fun x147 S148 t => ?_))
      refine g_aload_n dL_law_978 rfl ?_
      refine g_aload_n dL_law_979 rfl ?_
      refine g_iload_n dL_law_980 rfl ?_
      refine g_iconst (v := 1) dL_law_981 (by decide) ?_
      refine g_iadd dL_law_982 ?_
      refine g_sld dL_law_983 t.1 ?_
      have t := t.2
      refine g_aload_n dL_law_984 rfl ?_
      refine g_iload_n dL_law_985 rfl ?_
      refine g_iconst (v := 2) dL_law_986 (by decide) ?_
      refine g_iadd dL_law_987 ?_
      refine g_sld dL_law_988 t.1 ?_
      have t := t.2
      refine g_aload_n dL_law_989 rfl ?_
      refine g_iload_n dL_law_990 rfl ?_
      refine g_iconst (v := 3) dL_law_991 (by decide) ?_
      refine g_iadd dL_law_992 ?_
      refine g_sld dL_law_993 t.1 ?_
      have t := t.2
      refine g_aload_n dL_law_994 rfl ?_
      refine g_iload_n dL_law_995 rfl ?_
      refine g_iconst (v := 4) dL_law_996 (by decide) ?_
      refine g_iadd dL_law_997 ?_
      refine g_sld dL_law_998 t.1 ?_
      have t := t.2
      refine s_V4i dL_law_999 vm_X8_item ml_L_121 rfl rfl (by decide) (Nat.le_of_ble_eq_true rfl) rfl (tk_Ms.mono t (fun x149 S150 t => ?_))
      refine g_icmp_eq (tgt := 1070) dL_law_1002 (by decide) (fun c151 => ?_) (fun c151 => ?_)
      · have t := t.1 c151
        refine g_iinc (v := l3 + 6) (ls' := [.ref 4096, .ref 0, .ref 45, .int (l3 + 6)]) dL_law_1070 rfl rfl (by decide) rfl rfl ?_
        refine g_goto (tgt := 18) dL_law_1073 (by decide) ?_
        exact t
      · have t := t.2 c151
        refine g_iconst (v := 0) dL_law_1005 (by decide) ?_
        exact g_iret (st := []) dL_law_1006 (fun e => by cases e) ⟨_, rfl, t⟩
    have t := t.2
    by_cases c152 : ((xs l3.toNatClampNeg) &&& 31) = 25
    · have t := t.1 c152
      refine g_tabInE c152 (off := 974) (tgt := 1007) dL_law_33 (by decide) (by decide) (by decide) (by decide) ?_
      refine g_aload_n dL_law_1007 rfl ?_
      refine g_aload_n dL_law_1008 rfl ?_
      refine g_iload_n dL_law_1009 rfl ?_
      refine g_iconst (v := 1) dL_law_1010 (by decide) ?_
      refine g_iadd dL_law_1011 ?_
      refine g_sld dL_law_1012 t.1 ?_
      have t := t.2
      refine g_aload_n dL_law_1013 rfl ?_
      refine g_iload_n dL_law_1014 rfl ?_
      refine g_iconst (v := 2) dL_law_1015 (by decide) ?_
      refine g_iadd dL_law_1016 ?_
      refine g_sld dL_law_1017 t.1 ?_
      have t := t.2
      refine g_aload_n dL_law_1018 rfl ?_
      refine g_iload_n dL_law_1019 rfl ?_
      refine g_iconst (v := 3) dL_law_1020 (by decide) ?_
      refine g_iadd dL_law_1021 ?_
      refine g_sld dL_law_1022 t.1 ?_
      have t := t.2
      refine g_aload_n dL_law_1023 rfl ?_
      refine g_iload_n dL_law_1024 rfl ?_
      refine g_iconst (v := 4) dL_law_1025 (by decide) ?_
      refine g_iadd dL_law_1026 ?_
      refine g_sld dL_law_1027 t.1 ?_
      have t := t.2
      refine g_aload_n dL_law_1028 rfl ?_
      refine g_iload_n dL_law_1029 rfl ?_
      refine g_iconst (v := 5) dL_law_1030 (by decide) ?_
      refine g_iadd dL_law_1031 ?_
      refine g_sld dL_law_1032 t.1 ?_
      have t := t.2
      refine s_V5i dL_law_1033 vm_X7_copy ml_L_122 rfl rfl (by decide) (Nat.le_of_ble_eq_true rfl) rfl (tk_Ms.mono t (fun x153 S154 t => ?_))
      refine g_aload_n dL_law_1036 rfl ?_
      refine g_aload_n dL_law_1037 rfl ?_
      refine g_iload_n dL_law_1038 rfl ?_
      refine g_iconst (v := 1) dL_law_1039 (by decide) ?_
      refine g_iadd dL_law_1040 ?_
      refine g_sld dL_law_1041 t.1 ?_
      have t := t.2
      refine g_aload_n dL_law_1042 rfl ?_
      refine g_iload_n dL_law_1043 rfl ?_
      refine g_iconst (v := 2) dL_law_1044 (by decide) ?_
      refine g_iadd dL_law_1045 ?_
      refine g_sld dL_law_1046 t.1 ?_
      have t := t.2
      refine g_aload_n dL_law_1047 rfl ?_
      refine g_iload_n dL_law_1048 rfl ?_
      refine g_iconst (v := 3) dL_law_1049 (by decide) ?_
      refine g_iadd dL_law_1050 ?_
      refine g_sld dL_law_1051 t.1 ?_
      have t := t.2
      refine g_aload_n dL_law_1052 rfl ?_
      refine g_iload_n dL_law_1053 rfl ?_
      refine g_iconst (v := 4) dL_law_1054 (by decide) ?_
      refine g_iadd dL_law_1055 ?_
      refine g_sld dL_law_1056 t.1 ?_
      have t := t.2
      refine g_aload_n dL_law_1057 rfl ?_
      refine g_iload_n dL_law_1058 rfl ?_
      refine g_iconst (v := 5) dL_law_1059 (by decide) ?_
      refine g_iadd dL_law_1060 ?_
      refine g_sld dL_law_1061 t.1 ?_
      have t := t.2
      refine s_V5i dL_law_1062 vm_X8_copy ml_L_125 rfl rfl (by decide) (Nat.le_of_ble_eq_true rfl) rfl (tk_Ms.mono t (fun x155 S156 t => ?_))
      refine g_icmp_eq (tgt := 1070) dL_law_1065 (by decide) (fun c157 => ?_) (fun c157 => ?_)
      · have t := t.1 c157
        refine g_iinc (v := l3 + 6) (ls' := [.ref 4096, .ref 0, .ref 45, .int (l3 + 6)]) dL_law_1070 rfl rfl (by decide) rfl rfl ?_
        refine g_goto (tgt := 18) dL_law_1073 (by decide) ?_
        exact t
      · have t := t.2 c157
        refine g_iconst (v := 0) dL_law_1068 (by decide) ?_
        exact g_iret (st := []) dL_law_1069 (fun e => by cases e) ⟨_, rfl, t⟩
    have t := t.2
    have zc2 := lv_neT c2 (a := 0) (by decide)
    have zc8 := lv_neT c8 (a := 1) (by decide)
    have zc14 := lv_neT c14 (a := 2) (by decide)
    have zc20 := lv_neT c20 (a := 3) (by decide)
    have zc26 := lv_neT c26 (a := 4) (by decide)
    have zc32 := lv_neT c32 (a := 5) (by decide)
    have zc38 := lv_neT c38 (a := 6) (by decide)
    have zc44 := lv_neT c44 (a := 7) (by decide)
    have zc50 := lv_neT c50 (a := 8) (by decide)
    have zc56 := lv_neT c56 (a := 9) (by decide)
    have zc62 := lv_neT c62 (a := 10) (by decide)
    have zc68 := lv_neT c68 (a := 11) (by decide)
    have zc74 := lv_neT c74 (a := 12) (by decide)
    have zc80 := lv_neT c80 (a := 13) (by decide)
    have zc86 := lv_neT c86 (a := 14) (by decide)
    have zc92 := lv_neT c92 (a := 15) (by decide)
    have zc98 := lv_neT c98 (a := 16) (by decide)
    have zc104 := lv_neT c104 (a := 17) (by decide)
    have zc110 := lv_neT c110 (a := 18) (by decide)
    have zc116 := lv_neT c116 (a := 19) (by decide)
    have zc122 := lv_neT c122 (a := 20) (by decide)
    have zc128 := lv_neT c128 (a := 21) (by decide)
    have zc134 := lv_neT c134 (a := 22) (by decide)
    have zc140 := lv_neT c140 (a := 23) (by decide)
    have zc146 := lv_neT c146 (a := 24) (by decide)
    have zc152 := lv_neT c152 (a := 25) (by decide)
    refine g_tabOut (tgt := 1070) dL_law_33 (by omega) (by decide) ?_
    have t := t ⟨c2, c8, c14, c20, c26, c32, c38, c44, c50, c56, c62, c68, c74, c80, c86, c92, c98, c104, c110, c116, c122, c128, c134, c140, c146, c152⟩
    refine g_iinc (v := l3 + 6) (ls' := [.ref 4096, .ref 0, .ref 45, .int (l3 + 6)]) dL_law_1070 rfl rfl (by decide) rfl rfl ?_
    refine g_goto (tgt := 18) dL_law_1073 (by decide) ?_
    exact t
