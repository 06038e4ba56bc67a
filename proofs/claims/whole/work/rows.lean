section
-- ===== PART A: goes FIRST, ahead of the names: the tables' words, and 'selects' of the private methods out of them =====
/-- a private method of a class that the tables say can be made, by its rows of tables_1 -/
def lw_okq (q : MethodName × Nat) : Prop := (q.1.cls ≠ "java/lang/invoke/MethodHandle" ∧ q.1.cls ≠ "java/lang/invoke/VarHandle") ∧ Cond.instantiable q.1.cls q.2 ∈ tables_1 ∧ Cond.privateMethod q.1 ∈ tables_1 ∧ Cond.instanceMethod q.1 ∈ tables_1
theorem lw_p0 : lw_okq (⟨"TellKeys", "readHouse", "()I"⟩, 13) := ⟨⟨by decide +kernel, by decide +kernel⟩, List.mem_of_getElem? (i := 13) (by decide +kernel), List.mem_of_getElem? (i := 290) (by decide +kernel), List.mem_of_getElem? (i := 291) (by decide +kernel)⟩
theorem lw_p1 : lw_okq (⟨"TellKeys", "readDoor", "()Z"⟩, 13) := ⟨⟨by decide +kernel, by decide +kernel⟩, List.mem_of_getElem? (i := 13) (by decide +kernel), List.mem_of_getElem? (i := 294) (by decide +kernel), List.mem_of_getElem? (i := 295) (by decide +kernel)⟩
theorem lw_p2 : lw_okq (⟨"TellKeys", "readWeek", "(Z)I"⟩, 13) := ⟨⟨by decide +kernel, by decide +kernel⟩, List.mem_of_getElem? (i := 13) (by decide +kernel), List.mem_of_getElem? (i := 337) (by decide +kernel), List.mem_of_getElem? (i := 338) (by decide +kernel)⟩
theorem lw_p3 : lw_okq (⟨"TellKeys", "readAct", "()Z"⟩, 13) := ⟨⟨by decide +kernel, by decide +kernel⟩, List.mem_of_getElem? (i := 13) (by decide +kernel), List.mem_of_getElem? (i := 341) (by decide +kernel), List.mem_of_getElem? (i := 342) (by decide +kernel)⟩
theorem lw_p4 : lw_okq (⟨"TellKeys", "readVisit", "()Z"⟩, 13) := ⟨⟨by decide +kernel, by decide +kernel⟩, List.mem_of_getElem? (i := 13) (by decide +kernel), List.mem_of_getElem? (i := 345) (by decide +kernel), List.mem_of_getElem? (i := 346) (by decide +kernel)⟩
theorem lw_p5 : lw_okq (⟨"TellKeys", "doAct", "()Z"⟩, 13) := ⟨⟨by decide +kernel, by decide +kernel⟩, List.mem_of_getElem? (i := 13) (by decide +kernel), List.mem_of_getElem? (i := 356) (by decide +kernel), List.mem_of_getElem? (i := 357) (by decide +kernel)⟩
theorem lw_p6 : lw_okq (⟨"TellKeys$Ways", "spread", "(III)V"⟩, 1) := ⟨⟨by decide +kernel, by decide +kernel⟩, List.mem_of_getElem? (i := 125) (by decide +kernel), List.mem_of_getElem? (i := 382) (by decide +kernel), List.mem_of_getElem? (i := 383) (by decide +kernel)⟩
theorem lw_p7 : lw_okq (⟨"TellKeys$Ways", "doorNearer", "(LTellKeys$Doors;III)I"⟩, 1) := ⟨⟨by decide +kernel, by decide +kernel⟩, List.mem_of_getElem? (i := 125) (by decide +kernel), List.mem_of_getElem? (i := 390) (by decide +kernel), List.mem_of_getElem? (i := 391) (by decide +kernel)⟩
theorem lw_p8 : lw_okq (⟨"TellKeys", "isDayAhead", "(I)Z"⟩, 13) := ⟨⟨by decide +kernel, by decide +kernel⟩, List.mem_of_getElem? (i := 13) (by decide +kernel), List.mem_of_getElem? (i := 454) (by decide +kernel), List.mem_of_getElem? (i := 455) (by decide +kernel)⟩
theorem lw_p9 : lw_okq (⟨"TellKeys", "refusalOf", "(II)I"⟩, 13) := ⟨⟨by decide +kernel, by decide +kernel⟩, List.mem_of_getElem? (i := 13) (by decide +kernel), List.mem_of_getElem? (i := 507) (by decide +kernel), List.mem_of_getElem? (i := 508) (by decide +kernel)⟩
theorem lw_p10 : lw_okq (⟨"TellKeys", "takeAsked", "(LTellKeys$Sheet;II)Z"⟩, 13) := ⟨⟨by decide +kernel, by decide +kernel⟩, List.mem_of_getElem? (i := 13) (by decide +kernel), List.mem_of_getElem? (i := 521) (by decide +kernel), List.mem_of_getElem? (i := 522) (by decide +kernel)⟩
theorem lw_p11 : lw_okq (⟨"TellKeys", "cleanFor", "(I)I"⟩, 13) := ⟨⟨by decide +kernel, by decide +kernel⟩, List.mem_of_getElem? (i := 13) (by decide +kernel), List.mem_of_getElem? (i := 525) (by decide +kernel), List.mem_of_getElem? (i := 526) (by decide +kernel)⟩
theorem lw_p12 : lw_okq (⟨"TellKeys$Asking", "changesTo", "()I"⟩, 7) := ⟨⟨by decide +kernel, by decide +kernel⟩, List.mem_of_getElem? (i := 136) (by decide +kernel), List.mem_of_getElem? (i := 536) (by decide +kernel), List.mem_of_getElem? (i := 537) (by decide +kernel)⟩
theorem lw_p13 : lw_okq (⟨"TellKeysModel", "isKey", "(I)Z"⟩, 25) := ⟨⟨by decide +kernel, by decide +kernel⟩, List.mem_of_getElem? (i := 570) (by decide +kernel), List.mem_of_getElem? (i := 676) (by decide +kernel), List.mem_of_getElem? (i := 677) (by decide +kernel)⟩
theorem lw_p14 : lw_okq (⟨"TellKeysModel", "shownBy", "(II)I"⟩, 25) := ⟨⟨by decide +kernel, by decide +kernel⟩, List.mem_of_getElem? (i := 570) (by decide +kernel), List.mem_of_getElem? (i := 689) (by decide +kernel), List.mem_of_getElem? (i := 690) (by decide +kernel)⟩
theorem lw_p15 : lw_okq (⟨"TellKeysModel", "readHouse", "()Z"⟩, 25) := ⟨⟨by decide +kernel, by decide +kernel⟩, List.mem_of_getElem? (i := 570) (by decide +kernel), List.mem_of_getElem? (i := 707) (by decide +kernel), List.mem_of_getElem? (i := 708) (by decide +kernel)⟩
def lw_privs_1 : List (MethodName × Nat) := [(⟨"TellKeys", "readHouse", "()I"⟩, 13), (⟨"TellKeys", "readDoor", "()Z"⟩, 13), (⟨"TellKeys", "readWeek", "(Z)I"⟩, 13), (⟨"TellKeys", "readAct", "()Z"⟩, 13), (⟨"TellKeys", "readVisit", "()Z"⟩, 13), (⟨"TellKeys", "doAct", "()Z"⟩, 13), (⟨"TellKeys$Ways", "spread", "(III)V"⟩, 1), (⟨"TellKeys$Ways", "doorNearer", "(LTellKeys$Doors;III)I"⟩, 1), (⟨"TellKeys", "isDayAhead", "(I)Z"⟩, 13), (⟨"TellKeys", "refusalOf", "(II)I"⟩, 13), (⟨"TellKeys", "takeAsked", "(LTellKeys$Sheet;II)Z"⟩, 13), (⟨"TellKeys", "cleanFor", "(I)I"⟩, 13), (⟨"TellKeys$Asking", "changesTo", "()I"⟩, 7), (⟨"TellKeysModel", "isKey", "(I)Z"⟩, 25), (⟨"TellKeysModel", "shownBy", "(II)I"⟩, 25), (⟨"TellKeysModel", "readHouse", "()Z"⟩, 25)]
theorem lw_r1 : ∀ q ∈ lw_privs_1, lw_okq q := List.forall_mem_cons.mpr ⟨lw_p0, List.forall_mem_cons.mpr ⟨lw_p1, List.forall_mem_cons.mpr ⟨lw_p2, List.forall_mem_cons.mpr ⟨lw_p3, List.forall_mem_cons.mpr ⟨lw_p4, List.forall_mem_cons.mpr ⟨lw_p5, List.forall_mem_cons.mpr ⟨lw_p6, List.forall_mem_cons.mpr ⟨lw_p7, List.forall_mem_cons.mpr ⟨lw_p8, List.forall_mem_cons.mpr ⟨lw_p9, List.forall_mem_cons.mpr ⟨lw_p10, List.forall_mem_cons.mpr ⟨lw_p11, List.forall_mem_cons.mpr ⟨lw_p12, List.forall_mem_cons.mpr ⟨lw_p13, List.forall_mem_cons.mpr ⟨lw_p14, List.forall_mem_cons.mpr ⟨lw_p15, fun _ h => absurd h List.not_mem_nil⟩⟩⟩⟩⟩⟩⟩⟩⟩⟩⟩⟩⟩⟩⟩⟩
theorem lw_p16 : lw_okq (⟨"TellKeysModel", "readDoor", "(I)Z"⟩, 25) := ⟨⟨by decide +kernel, by decide +kernel⟩, List.mem_of_getElem? (i := 570) (by decide +kernel), List.mem_of_getElem? (i := 711) (by decide +kernel), List.mem_of_getElem? (i := 712) (by decide +kernel)⟩
theorem lw_p17 : lw_okq (⟨"TellKeysModel", "nextByte", "()I"⟩, 25) := ⟨⟨by decide +kernel, by decide +kernel⟩, List.mem_of_getElem? (i := 570) (by decide +kernel), List.mem_of_getElem? (i := 715) (by decide +kernel), List.mem_of_getElem? (i := 716) (by decide +kernel)⟩
theorem lw_p18 : lw_okq (⟨"TellKeysModel", "signOf", "(I)I"⟩, 25) := ⟨⟨by decide +kernel, by decide +kernel⟩, List.mem_of_getElem? (i := 570) (by decide +kernel), List.mem_of_getElem? (i := 719) (by decide +kernel), List.mem_of_getElem? (i := 720) (by decide +kernel)⟩
theorem lw_p19 : lw_okq (⟨"TellKeysModel", "takes", "(I)Z"⟩, 25) := ⟨⟨by decide +kernel, by decide +kernel⟩, List.mem_of_getElem? (i := 570) (by decide +kernel), List.mem_of_getElem? (i := 725) (by decide +kernel), List.mem_of_getElem? (i := 726) (by decide +kernel)⟩
theorem lw_p20 : lw_okq (⟨"TellKeysModel", "readDigit", "(I)I"⟩, 25) := ⟨⟨by decide +kernel, by decide +kernel⟩, List.mem_of_getElem? (i := 570) (by decide +kernel), List.mem_of_getElem? (i := 729) (by decide +kernel), List.mem_of_getElem? (i := 730) (by decide +kernel)⟩
theorem lw_p21 : lw_okq (⟨"TellKeysModel", "end", "(Z)I"⟩, 25) := ⟨⟨by decide +kernel, by decide +kernel⟩, List.mem_of_getElem? (i := 570) (by decide +kernel), List.mem_of_getElem? (i := 733) (by decide +kernel), List.mem_of_getElem? (i := 734) (by decide +kernel)⟩
theorem lw_p22 : lw_okq (⟨"TellKeysModel", "readWeek", "()Z"⟩, 25) := ⟨⟨by decide +kernel, by decide +kernel⟩, List.mem_of_getElem? (i := 570) (by decide +kernel), List.mem_of_getElem? (i := 741) (by decide +kernel), List.mem_of_getElem? (i := 742) (by decide +kernel)⟩
theorem lw_p23 : lw_okq (⟨"TellKeysModel", "readAct", "(I)Z"⟩, 25) := ⟨⟨by decide +kernel, by decide +kernel⟩, List.mem_of_getElem? (i := 570) (by decide +kernel), List.mem_of_getElem? (i := 745) (by decide +kernel), List.mem_of_getElem? (i := 746) (by decide +kernel)⟩
theorem lw_p24 : lw_okq (⟨"TellKeysModel", "readVisit", "(I)Z"⟩, 25) := ⟨⟨by decide +kernel, by decide +kernel⟩, List.mem_of_getElem? (i := 570) (by decide +kernel), List.mem_of_getElem? (i := 749) (by decide +kernel), List.mem_of_getElem? (i := 750) (by decide +kernel)⟩
theorem lw_p25 : lw_okq (⟨"TellKeysModel", "readMinutes", "()I"⟩, 25) := ⟨⟨by decide +kernel, by decide +kernel⟩, List.mem_of_getElem? (i := 570) (by decide +kernel), List.mem_of_getElem? (i := 753) (by decide +kernel), List.mem_of_getElem? (i := 754) (by decide +kernel)⟩
theorem lw_p26 : lw_okq (⟨"TellKeysModel", "readWash", "(I)Z"⟩, 25) := ⟨⟨by decide +kernel, by decide +kernel⟩, List.mem_of_getElem? (i := 570) (by decide +kernel), List.mem_of_getElem? (i := 757) (by decide +kernel), List.mem_of_getElem? (i := 758) (by decide +kernel)⟩
theorem lw_p27 : lw_okq (⟨"TellKeysModel", "readChange", "(I)Z"⟩, 25) := ⟨⟨by decide +kernel, by decide +kernel⟩, List.mem_of_getElem? (i := 570) (by decide +kernel), List.mem_of_getElem? (i := 761) (by decide +kernel), List.mem_of_getElem? (i := 762) (by decide +kernel)⟩
theorem lw_p28 : lw_okq (⟨"TellKeysModel", "does", "(I)Z"⟩, 25) := ⟨⟨by decide +kernel, by decide +kernel⟩, List.mem_of_getElem? (i := 570) (by decide +kernel), List.mem_of_getElem? (i := 765) (by decide +kernel), List.mem_of_getElem? (i := 766) (by decide +kernel)⟩
theorem lw_p29 : lw_okq (⟨"TellKeysModel", "ringOf", "(IZ)I"⟩, 25) := ⟨⟨by decide +kernel, by decide +kernel⟩, List.mem_of_getElem? (i := 570) (by decide +kernel), List.mem_of_getElem? (i := 777) (by decide +kernel), List.mem_of_getElem? (i := 778) (by decide +kernel)⟩
theorem lw_p30 : lw_okq (⟨"TellKeysModel", "findFars", "(II)V"⟩, 25) := ⟨⟨by decide +kernel, by decide +kernel⟩, List.mem_of_getElem? (i := 570) (by decide +kernel), List.mem_of_getElem? (i := 781) (by decide +kernel), List.mem_of_getElem? (i := 782) (by decide +kernel)⟩
theorem lw_p31 : lw_okq (⟨"TellKeysModel", "doorOf", "(I)I"⟩, 25) := ⟨⟨by decide +kernel, by decide +kernel⟩, List.mem_of_getElem? (i := 570) (by decide +kernel), List.mem_of_getElem? (i := 785) (by decide +kernel), List.mem_of_getElem? (i := 786) (by decide +kernel)⟩
def lw_privs_2 : List (MethodName × Nat) := [(⟨"TellKeysModel", "readDoor", "(I)Z"⟩, 25), (⟨"TellKeysModel", "nextByte", "()I"⟩, 25), (⟨"TellKeysModel", "signOf", "(I)I"⟩, 25), (⟨"TellKeysModel", "takes", "(I)Z"⟩, 25), (⟨"TellKeysModel", "readDigit", "(I)I"⟩, 25), (⟨"TellKeysModel", "end", "(Z)I"⟩, 25), (⟨"TellKeysModel", "readWeek", "()Z"⟩, 25), (⟨"TellKeysModel", "readAct", "(I)Z"⟩, 25), (⟨"TellKeysModel", "readVisit", "(I)Z"⟩, 25), (⟨"TellKeysModel", "readMinutes", "()I"⟩, 25), (⟨"TellKeysModel", "readWash", "(I)Z"⟩, 25), (⟨"TellKeysModel", "readChange", "(I)Z"⟩, 25), (⟨"TellKeysModel", "does", "(I)Z"⟩, 25), (⟨"TellKeysModel", "ringOf", "(IZ)I"⟩, 25), (⟨"TellKeysModel", "findFars", "(II)V"⟩, 25), (⟨"TellKeysModel", "doorOf", "(I)I"⟩, 25)]
theorem lw_r2 : ∀ q ∈ lw_privs_2, lw_okq q := List.forall_mem_cons.mpr ⟨lw_p16, List.forall_mem_cons.mpr ⟨lw_p17, List.forall_mem_cons.mpr ⟨lw_p18, List.forall_mem_cons.mpr ⟨lw_p19, List.forall_mem_cons.mpr ⟨lw_p20, List.forall_mem_cons.mpr ⟨lw_p21, List.forall_mem_cons.mpr ⟨lw_p22, List.forall_mem_cons.mpr ⟨lw_p23, List.forall_mem_cons.mpr ⟨lw_p24, List.forall_mem_cons.mpr ⟨lw_p25, List.forall_mem_cons.mpr ⟨lw_p26, List.forall_mem_cons.mpr ⟨lw_p27, List.forall_mem_cons.mpr ⟨lw_p28, List.forall_mem_cons.mpr ⟨lw_p29, List.forall_mem_cons.mpr ⟨lw_p30, List.forall_mem_cons.mpr ⟨lw_p31, fun _ h => absurd h List.not_mem_nil⟩⟩⟩⟩⟩⟩⟩⟩⟩⟩⟩⟩⟩⟩⟩⟩
theorem lw_p32 : lw_okq (⟨"TellKeysModel", "isNext", "(III)Z"⟩, 25) := ⟨⟨by decide +kernel, by decide +kernel⟩, List.mem_of_getElem? (i := 570) (by decide +kernel), List.mem_of_getElem? (i := 792) (by decide +kernel), List.mem_of_getElem? (i := 793) (by decide +kernel)⟩
theorem lw_p33 : lw_okq (⟨"TellKeysModel", "stain", "(II)V"⟩, 25) := ⟨⟨by decide +kernel, by decide +kernel⟩, List.mem_of_getElem? (i := 570) (by decide +kernel), List.mem_of_getElem? (i := 796) (by decide +kernel), List.mem_of_getElem? (i := 797) (by decide +kernel)⟩
theorem lw_p34 : lw_okq (⟨"TellKeysModel", "carried", "(IIZ)I"⟩, 25) := ⟨⟨by decide +kernel, by decide +kernel⟩, List.mem_of_getElem? (i := 570) (by decide +kernel), List.mem_of_getElem? (i := 852) (by decide +kernel), List.mem_of_getElem? (i := 853) (by decide +kernel)⟩
theorem lw_p35 : lw_okq (⟨"TellKeysModel", "lacksRow", "(IIII)I"⟩, 25) := ⟨⟨by decide +kernel, by decide +kernel⟩, List.mem_of_getElem? (i := 570) (by decide +kernel), List.mem_of_getElem? (i := 875) (by decide +kernel), List.mem_of_getElem? (i := 876) (by decide +kernel)⟩
theorem lw_p36 : lw_okq (⟨"TellKeysModel", "areTold", "(II)Z"⟩, 25) := ⟨⟨by decide +kernel, by decide +kernel⟩, List.mem_of_getElem? (i := 570) (by decide +kernel), List.mem_of_getElem? (i := 887) (by decide +kernel), List.mem_of_getElem? (i := 888) (by decide +kernel)⟩
theorem lw_p37 : lw_okq (⟨"TellKeysModel", "areClean", "(II)Z"⟩, 25) := ⟨⟨by decide +kernel, by decide +kernel⟩, List.mem_of_getElem? (i := 570) (by decide +kernel), List.mem_of_getElem? (i := 891) (by decide +kernel), List.mem_of_getElem? (i := 892) (by decide +kernel)⟩
theorem lw_p38 : lw_okq (⟨"TellKeysModel", "rings", "(I)I"⟩, 25) := ⟨⟨by decide +kernel, by decide +kernel⟩, List.mem_of_getElem? (i := 570) (by decide +kernel), List.mem_of_getElem? (i := 895) (by decide +kernel), List.mem_of_getElem? (i := 896) (by decide +kernel)⟩
theorem lw_p39 : lw_okq (⟨"TellKeysModel", "nextOrder", "(I)Z"⟩, 25) := ⟨⟨by decide +kernel, by decide +kernel⟩, List.mem_of_getElem? (i := 570) (by decide +kernel), List.mem_of_getElem? (i := 899) (by decide +kernel), List.mem_of_getElem? (i := 900) (by decide +kernel)⟩
def lw_privs_3 : List (MethodName × Nat) := [(⟨"TellKeysModel", "isNext", "(III)Z"⟩, 25), (⟨"TellKeysModel", "stain", "(II)V"⟩, 25), (⟨"TellKeysModel", "carried", "(IIZ)I"⟩, 25), (⟨"TellKeysModel", "lacksRow", "(IIII)I"⟩, 25), (⟨"TellKeysModel", "areTold", "(II)Z"⟩, 25), (⟨"TellKeysModel", "areClean", "(II)Z"⟩, 25), (⟨"TellKeysModel", "rings", "(I)I"⟩, 25), (⟨"TellKeysModel", "nextOrder", "(I)Z"⟩, 25)]
theorem lw_r3 : ∀ q ∈ lw_privs_3, lw_okq q := List.forall_mem_cons.mpr ⟨lw_p32, List.forall_mem_cons.mpr ⟨lw_p33, List.forall_mem_cons.mpr ⟨lw_p34, List.forall_mem_cons.mpr ⟨lw_p35, List.forall_mem_cons.mpr ⟨lw_p36, List.forall_mem_cons.mpr ⟨lw_p37, List.forall_mem_cons.mpr ⟨lw_p38, List.forall_mem_cons.mpr ⟨lw_p39, fun _ h => absurd h List.not_mem_nil⟩⟩⟩⟩⟩⟩⟩⟩
def lw_privs : List (MethodName × Nat) := lw_privs_1 ++ (lw_privs_2 ++ (lw_privs_3))
def lw_tbl : List Cond := k2_sels lw_privs ++ tables_1
theorem lw_privs_ok : ∀ q ∈ lw_privs, lw_okq q := by
  show ∀ q ∈ lw_privs_1 ++ (lw_privs_2 ++ (lw_privs_3)), lw_okq q
  exact List.forall_mem_append.mpr ⟨lw_r1, List.forall_mem_append.mpr ⟨lw_r2, lw_r3⟩⟩
def RX0 : String := "TellKeys$Act"
def TX0 : u_T := fun k => match k with
  | 0 => ("TellKeys$Act", "sign", "I", false)
  | 1 => ("TellKeys$Act", "sister", "I", false)
  | 2 => ("TellKeys$Act", "key", "I", false)
  | 3 => ("TellKeys$Act", "to", "I", false)
  | _ => ("TellKeys$Act", "minutes", "I", false)
def tyX0 : Nat → FieldType := fun k => match k with
  | 0 => .int
  | 1 => .int
  | 2 => .int
  | 3 => .int
  | _ => .int
theorem nmX0 : ∀ a, a < 5 → ∀ b, b < 5 → a ≠ b → (TX0 a).2.1 ≠ (TX0 b).2.1 := by decide +kernel
theorem tyX0_ok : ∀ k, k < 5 → parseFieldDescriptor (TX0 k).2.2.1 = some (tyX0 k) := by decide +kernel
abbrev cX0_init : ByteArray := prog_2_method_1_code
def yX0_init : MethodName := ⟨RX0, "<init>", "()V"⟩
def RX1 : String := "TellKeys$Asking"
def TX1 : u_T := fun k => match k with
  | 0 => ("TellKeys$Asking", "number", "I", false)
  | 1 => ("TellKeys$Asking", "fewest", "I", false)
  | 2 => ("TellKeys$Asking", "key", "[I", true)
  | 3 => ("TellKeys$Asking", "day", "[I", true)
  | 4 => ("TellKeys$Asking", "clean", "[I", true)
  | 5 => ("TellKeys$Asking", "row", "[I", true)
  | _ => ("TellKeys$Asking", "best", "[I", true)
def tyX1 : Nat → FieldType := fun k => match k with
  | 0 => .int
  | 1 => .int
  | 2 => .array .int
  | 3 => .array .int
  | 4 => .array .int
  | 5 => .array .int
  | _ => .array .int
theorem nmX1 : ∀ a, a < 7 → ∀ b, b < 7 → a ≠ b → (TX1 a).2.1 ≠ (TX1 b).2.1 := by decide +kernel
theorem tyX1_ok : ∀ k, k < 7 → parseFieldDescriptor (TX1 k).2.2.1 = some (tyX1 k) := by decide +kernel
abbrev cX1_init : ByteArray := prog_3_method_1_code
def yX1_init : MethodName := ⟨RX1, "<init>", "()V"⟩
abbrev cX1_weigh : ByteArray := prog_3_method_2_code
def yX1_weigh : MethodName := ⟨RX1, "weigh", "()V"⟩
abbrev cX1_changesTo : ByteArray := prog_3_method_3_code
def yX1_changesTo : MethodName := ⟨RX1, "changesTo", "()I"⟩
def RX2 : String := "TellKeys$Doors"
def TX2 : u_T := fun k => match k with
  | 0 => ("TellKeys$Doors", "number", "I", false)
  | 1 => ("TellKeys$Doors", "one", "[I", true)
  | 2 => ("TellKeys$Doors", "other", "[I", true)
  | _ => ("TellKeys$Doors", "lock", "[I", true)
def tyX2 : Nat → FieldType := fun k => match k with
  | 0 => .int
  | 1 => .array .int
  | 2 => .array .int
  | _ => .array .int
theorem nmX2 : ∀ a, a < 4 → ∀ b, b < 4 → a ≠ b → (TX2 a).2.1 ≠ (TX2 b).2.1 := by decide +kernel
theorem tyX2_ok : ∀ k, k < 4 → parseFieldDescriptor (TX2 k).2.2.1 = some (tyX2 k) := by decide +kernel
abbrev cX2_init : ByteArray := prog_4_method_1_code
def yX2_init : MethodName := ⟨RX2, "<init>", "()V"⟩
abbrev cX2_has : ByteArray := prog_4_method_2_code
def yX2_has : MethodName := ⟨RX2, "has", "(I)Z"⟩
abbrev cX2_add : ByteArray := prog_4_method_3_code
def yX2_add : MethodName := ⟨RX2, "add", "(III)I"⟩
abbrev cX2_becomeLike : ByteArray := prog_4_method_4_code
def yX2_becomeLike : MethodName := ⟨RX2, "becomeLike", "(LTellKeys$Doors;)V"⟩
abbrev cX2_isAt : ByteArray := prog_4_method_5_code
def yX2_isAt : MethodName := ⟨RX2, "isAt", "(II)Z"⟩
abbrev cX2_at : ByteArray := prog_4_method_6_code
def yX2_at : MethodName := ⟨RX2, "at", "(I)I"⟩
abbrev cX2_hasLockAt : ByteArray := prog_4_method_7_code
def yX2_hasLockAt : MethodName := ⟨RX2, "hasLockAt", "(II)Z"⟩
abbrev cX2_canPass : ByteArray := prog_4_method_8_code
def yX2_canPass : MethodName := ⟨RX2, "canPass", "(II)Z"⟩
def RX3 : String := "TellKeys$Keys"
def TX3 : u_T := fun k => match k with
  | 0 => ("TellKeys$Keys", "number", "I", false)
  | 1 => ("TellKeys$Keys", "kind", "[I", true)
  | 2 => ("TellKeys$Keys", "tells", "[I", true)
  | 3 => ("TellKeys$Keys", "where", "[I", true)
  | 4 => ("TellKeys$Keys", "minutes", "[I", true)
  | _ => ("TellKeys$Keys", "gotOn", "[I", true)
def tyX3 : Nat → FieldType := fun k => match k with
  | 0 => .int
  | 1 => .array .int
  | 2 => .array .int
  | 3 => .array .int
  | 4 => .array .int
  | _ => .array .int
theorem nmX3 : ∀ a, a < 6 → ∀ b, b < 6 → a ≠ b → (TX3 a).2.1 ≠ (TX3 b).2.1 := by decide +kernel
theorem tyX3_ok : ∀ k, k < 6 → parseFieldDescriptor (TX3 k).2.2.1 = some (tyX3 k) := by decide +kernel
abbrev cX3_init : ByteArray := prog_5_method_1_code
def yX3_init : MethodName := ⟨RX3, "<init>", "()V"⟩
abbrev cX3_has : ByteArray := prog_5_method_2_code
def yX3_has : MethodName := ⟨RX3, "has", "(I)Z"⟩
abbrev cX3_add : ByteArray := prog_5_method_3_code
def yX3_add : MethodName := ⟨RX3, "add", "(II)I"⟩
abbrev cX3_becomeLike : ByteArray := prog_5_method_4_code
def yX3_becomeLike : MethodName := ⟨RX3, "becomeLike", "(LTellKeys$Keys;)V"⟩
abbrev cX3_ring : ByteArray := prog_5_method_5_code
def yX3_ring : MethodName := ⟨RX3, "ring", "(IZ)I"⟩
abbrev cX3_stain : ByteArray := prog_5_method_6_code
def yX3_stain : MethodName := ⟨RX3, "stain", "(III)V"⟩
abbrev cX3_halve : ByteArray := prog_5_method_7_code
def yX3_halve : MethodName := ⟨RX3, "halve", "(I)V"⟩
abbrev cX3_stained : ByteArray := prog_5_method_8_code
def yX3_stained : MethodName := ⟨RX3, "stained", "()I"⟩
abbrev cX3_showing : ByteArray := prog_5_method_9_code
def yX3_showing : MethodName := ⟨RX3, "showing", "(I)I"⟩
abbrev cX3_showsOn : ByteArray := prog_5_method_10_code
def yX3_showsOn : MethodName := ⟨RX3, "showsOn", "(II)I"⟩
abbrev cX3_shows : ByteArray := prog_5_method_11_code
def yX3_shows : MethodName := ⟨RX3, "shows", "(III)I"⟩
def RX4 : String := "TellKeys$Sheet"
def TX4 : u_T := fun k => match k with
  | 0 => ("TellKeys$Sheet", "lane", "I", false)
  | 1 => ("TellKeys$Sheet", "size", "I", false)
  | _ => ("TellKeys$Sheet", "items", "[I", true)
def tyX4 : Nat → FieldType := fun k => match k with
  | 0 => .int
  | 1 => .int
  | _ => .array .int
theorem nmX4 : ∀ a, a < 3 → ∀ b, b < 3 → a ≠ b → (TX4 a).2.1 ≠ (TX4 b).2.1 := by decide +kernel
theorem tyX4_ok : ∀ k, k < 3 → parseFieldDescriptor (TX4 k).2.2.1 = some (tyX4 k) := by decide +kernel
abbrev cX4_init : ByteArray := prog_6_method_1_code
def yX4_init : MethodName := ⟨RX4, "<init>", "()V"⟩
abbrev cX4_renew : ByteArray := prog_6_method_2_code
def yX4_renew : MethodName := ⟨RX4, "renew", "(II)V"⟩
abbrev cX4_holds : ByteArray := prog_6_method_3_code
def yX4_holds : MethodName := ⟨RX4, "holds", "(II)Z"⟩
abbrev cX4_put : ByteArray := prog_6_method_4_code
def yX4_put : MethodName := ⟨RX4, "put", "(II)V"⟩
def RX5 : String := "TellKeys$Tape"
def TX5 : u_T := fun k => match k with
  | 0 => ("TellKeys$Tape", "size", "I", false)
  | 1 => ("TellKeys$Tape", "at", "I", false)
  | _ => ("TellKeys$Tape", "signs", "[B", true)
def tyX5 : Nat → FieldType := fun k => match k with
  | 0 => .int
  | 1 => .int
  | _ => .array .byte
theorem nmX5 : ∀ a, a < 3 → ∀ b, b < 3 → a ≠ b → (TX5 a).2.1 ≠ (TX5 b).2.1 := by decide +kernel
theorem tyX5_ok : ∀ k, k < 3 → parseFieldDescriptor (TX5 k).2.2.1 = some (tyX5 k) := by decide +kernel
abbrev cX5_init : ByteArray := prog_7_method_1_code
def yX5_init : MethodName := ⟨RX5, "<init>", "()V"⟩
abbrev cX5_add : ByteArray := prog_7_method_2_code
def yX5_add : MethodName := ⟨RX5, "add", "(I)V"⟩
abbrev cX5_empty : ByteArray := prog_7_method_3_code
def yX5_empty : MethodName := ⟨RX5, "empty", "()V"⟩
abbrev cX5_ahead : ByteArray := prog_7_method_4_code
def yX5_ahead : MethodName := ⟨RX5, "ahead", "()I"⟩
abbrev cX5_fault : ByteArray := prog_7_method_5_code
def yX5_fault : MethodName := ⟨RX5, "fault", "()I"⟩
abbrev cX5_take : ByteArray := prog_7_method_6_code
def yX5_take : MethodName := ⟨RX5, "take", "(I)Z"⟩
abbrev cX5_placeAhead : ByteArray := prog_7_method_7_code
def yX5_placeAhead : MethodName := ⟨RX5, "placeAhead", "()I"⟩
abbrev cX5_digit : ByteArray := prog_7_method_8_code
def yX5_digit : MethodName := ⟨RX5, "digit", "(I)I"⟩
abbrev cX5_numberUpTo : ByteArray := prog_7_method_9_code
def yX5_numberUpTo : MethodName := ⟨RX5, "numberUpTo", "(I)I"⟩
abbrev cX5_isDigit : ByteArray := prog_7_method_10_code
def yX5_isDigit : MethodName := ⟨RX5, "isDigit", "(I)Z"⟩
def RX6 : String := "TellKeys$Ways"
def TX6 : u_T := fun k => match k with
  | _ => ("TellKeys$Ways", "far", "[I", true)
def tyX6 : Nat → FieldType := fun k => match k with
  | _ => .array .int
theorem nmX6 : ∀ a, a < 1 → ∀ b, b < 1 → a ≠ b → (TX6 a).2.1 ≠ (TX6 b).2.1 := by decide +kernel
theorem tyX6_ok : ∀ k, k < 1 → parseFieldDescriptor (TX6 k).2.2.1 = some (tyX6 k) := by decide +kernel
abbrev cX6_init : ByteArray := prog_8_method_1_code
def yX6_init : MethodName := ⟨RX6, "<init>", "()V"⟩
abbrev cX6_measure : ByteArray := prog_8_method_2_code
def yX6_measure : MethodName := ⟨RX6, "measure", "(LTellKeys$Doors;II)V"⟩
abbrev cX6_spread : ByteArray := prog_8_method_3_code
def yX6_spread : MethodName := ⟨RX6, "spread", "(III)V"⟩
abbrev cX6_locksFromHall : ByteArray := prog_8_method_4_code
def yX6_locksFromHall : MethodName := ⟨RX6, "locksFromHall", "(LTellKeys$Doors;I)I"⟩
abbrev cX6_doorNearer : ByteArray := prog_8_method_5_code
def yX6_doorNearer : MethodName := ⟨RX6, "doorNearer", "(LTellKeys$Doors;III)I"⟩
def RX7 : String := "TellKeys"
def TX7 : u_T := fun k => match k with
  | 0 => ("TellKeys", "doors", "LTellKeys$Doors;", true)
  | 1 => ("TellKeys", "keys", "LTellKeys$Keys;", true)
  | 2 => ("TellKeys", "today", "I", false)
  | 3 => ("TellKeys", "imageDoors", "LTellKeys$Doors;", true)
  | 4 => ("TellKeys", "imageKeys", "LTellKeys$Keys;", true)
  | 5 => ("TellKeys", "imageToday", "I", false)
  | 6 => ("TellKeys", "imageKept", "Z", false)
  | 7 => ("TellKeys", "tape", "LTellKeys$Tape;", true)
  | 8 => ("TellKeys", "readDoors", "LTellKeys$Doors;", true)
  | 9 => ("TellKeys", "act", "LTellKeys$Act;", true)
  | 10 => ("TellKeys", "ways", "LTellKeys$Ways;", true)
  | 11 => ("TellKeys", "asking", "LTellKeys$Asking;", true)
  | _ => ("TellKeys", "sheets", "[LTellKeys$Sheet;", true)
def tyX7 : Nat → FieldType := fun k => match k with
  | 0 => .object "TellKeys$Doors"
  | 1 => .object "TellKeys$Keys"
  | 2 => .int
  | 3 => .object "TellKeys$Doors"
  | 4 => .object "TellKeys$Keys"
  | 5 => .int
  | 6 => .boolean
  | 7 => .object "TellKeys$Tape"
  | 8 => .object "TellKeys$Doors"
  | 9 => .object "TellKeys$Act"
  | 10 => .object "TellKeys$Ways"
  | 11 => .object "TellKeys$Asking"
  | _ => .array (.object "TellKeys$Sheet")
theorem nmX7 : ∀ a, a < 13 → ∀ b, b < 13 → a ≠ b → (TX7 a).2.1 ≠ (TX7 b).2.1 := by decide +kernel
theorem tyX7_ok : ∀ k, k < 13 → parseFieldDescriptor (TX7 k).2.2.1 = some (tyX7 k) := by decide +kernel
abbrev cX7_init : ByteArray := prog_1_method_1_code
def yX7_init : MethodName := ⟨RX7, "<init>", "()V"⟩
abbrev cX7_door : ByteArray := prog_1_method_2_code
def yX7_door : MethodName := ⟨RX7, "door", "(III)I"⟩
abbrev cX7_key : ByteArray := prog_1_method_3_code
def yX7_key : MethodName := ⟨RX7, "key", "(II)I"⟩
abbrev cX7_told : ByteArray := prog_1_method_4_code
def yX7_told : MethodName := ⟨RX7, "told", "(II)I"⟩
abbrev cX7_of : ByteArray := prog_1_method_5_code
def yX7_of : MethodName := ⟨RX7, "of", "(II)I"⟩
abbrev cX7_type : ByteArray := prog_1_method_6_code
def yX7_type : MethodName := ⟨RX7, "type", "(JI)I"⟩
abbrev cX7_house : ByteArray := prog_1_method_7_code
def yX7_house : MethodName := ⟨RX7, "house", "()I"⟩
abbrev cX7_week : ByteArray := prog_1_method_8_code
def yX7_week : MethodName := ⟨RX7, "week", "()I"⟩
abbrev cX7_count : ByteArray := prog_1_method_9_code
def yX7_count : MethodName := ⟨RX7, "count", "(I)I"⟩
abbrev cX7_visit : ByteArray := prog_1_method_10_code
def yX7_visit : MethodName := ⟨RX7, "visit", "(III)I"⟩
abbrev cX7_wash : ByteArray := prog_1_method_11_code
def yX7_wash : MethodName := ⟨RX7, "wash", "(II)I"⟩
abbrev cX7_change : ByteArray := prog_1_method_12_code
def yX7_change : MethodName := ⟨RX7, "change", "(II)I"⟩
abbrev cX7_next : ByteArray := prog_1_method_13_code
def yX7_next : MethodName := ⟨RX7, "next", "()I"⟩
abbrev cX7_shown : ByteArray := prog_1_method_14_code
def yX7_shown : MethodName := ⟨RX7, "shown", "(II)I"⟩
abbrev cX7_seen : ByteArray := prog_1_method_15_code
def yX7_seen : MethodName := ⟨RX7, "seen", "(III)I"⟩
abbrev cX7_reach : ByteArray := prog_1_method_16_code
def yX7_reach : MethodName := ⟨RX7, "reach", "(I)I"⟩
abbrev cX7_fits : ByteArray := prog_1_method_17_code
def yX7_fits : MethodName := ⟨RX7, "fits", "(III)I"⟩
abbrev cX7_been : ByteArray := prog_1_method_18_code
def yX7_been : MethodName := ⟨RX7, "been", "(III)I"⟩
abbrev cX7_look : ByteArray := prog_1_method_19_code
def yX7_look : MethodName := ⟨RX7, "look", "(III)I"⟩
abbrev cX7_image : ByteArray := prog_1_method_20_code
def yX7_image : MethodName := ⟨RX7, "image", "()I"⟩
abbrev cX7_restore : ByteArray := prog_1_method_21_code
def yX7_restore : MethodName := ⟨RX7, "restore", "()I"⟩
abbrev cX7_asked : ByteArray := prog_1_method_22_code
def yX7_asked : MethodName := ⟨RX7, "asked", "(IIIII)I"⟩
abbrev cX7_film : ByteArray := prog_1_method_23_code
def yX7_film : MethodName := ⟨RX7, "film", "(III)I"⟩
abbrev cX7_sheet : ByteArray := prog_1_method_24_code
def yX7_sheet : MethodName := ⟨RX7, "sheet", "(III)I"⟩
abbrev cX7_drop : ByteArray := prog_1_method_25_code
def yX7_drop : MethodName := ⟨RX7, "drop", "(I)I"⟩
abbrev cX7_item : ByteArray := prog_1_method_26_code
def yX7_item : MethodName := ⟨RX7, "item", "(IIII)I"⟩
abbrev cX7_copy : ByteArray := prog_1_method_27_code
def yX7_copy : MethodName := ⟨RX7, "copy", "(IIIII)I"⟩
abbrev cX7_isPlace : ByteArray := prog_1_method_28_code
def yX7_isPlace : MethodName := ⟨RX7, "isPlace", "(I)Z"⟩
abbrev cX7_mayHaveDoor : ByteArray := prog_1_method_29_code
def yX7_mayHaveDoor : MethodName := ⟨RX7, "mayHaveDoor", "(II)Z"⟩
abbrev cX7_isKind : ByteArray := prog_1_method_30_code
def yX7_isKind : MethodName := ⟨RX7, "isKind", "(I)Z"⟩
abbrev cX7_isSister : ByteArray := prog_1_method_31_code
def yX7_isSister : MethodName := ⟨RX7, "isSister", "(I)Z"⟩
abbrev cX7_isStay : ByteArray := prog_1_method_32_code
def yX7_isStay : MethodName := ⟨RX7, "isStay", "(I)Z"⟩
abbrev cX7_isDayAhead : ByteArray := prog_1_method_33_code
def yX7_isDayAhead : MethodName := ⟨RX7, "isDayAhead", "(I)Z"⟩
abbrev cX7_isSheet : ByteArray := prog_1_method_34_code
def yX7_isSheet : MethodName := ⟨RX7, "isSheet", "(I)Z"⟩
abbrev cX7_isLane : ByteArray := prog_1_method_35_code
def yX7_isLane : MethodName := ⟨RX7, "isLane", "(I)Z"⟩
abbrev cX7_byteOf : ByteArray := prog_1_method_36_code
def yX7_byteOf : MethodName := ⟨RX7, "byteOf", "(JI)I"⟩
abbrev cX7_refusalOf : ByteArray := prog_1_method_37_code
def yX7_refusalOf : MethodName := ⟨RX7, "refusalOf", "(II)I"⟩
abbrev cX7_readHouse : ByteArray := prog_1_method_38_code
def yX7_readHouse : MethodName := ⟨RX7, "readHouse", "()I"⟩
abbrev cX7_readDoor : ByteArray := prog_1_method_39_code
def yX7_readDoor : MethodName := ⟨RX7, "readDoor", "()Z"⟩
abbrev cX7_readWeek : ByteArray := prog_1_method_40_code
def yX7_readWeek : MethodName := ⟨RX7, "readWeek", "(Z)I"⟩
abbrev cX7_readAct : ByteArray := prog_1_method_41_code
def yX7_readAct : MethodName := ⟨RX7, "readAct", "()Z"⟩
abbrev cX7_readVisit : ByteArray := prog_1_method_42_code
def yX7_readVisit : MethodName := ⟨RX7, "readVisit", "()Z"⟩
abbrev cX7_doAct : ByteArray := prog_1_method_43_code
def yX7_doAct : MethodName := ⟨RX7, "doAct", "()Z"⟩
abbrev cX7_hersBy : ByteArray := prog_1_method_44_code
def yX7_hersBy : MethodName := ⟨RX7, "hersBy", "(IIII)I"⟩
abbrev cX7_isRest : ByteArray := prog_1_method_45_code
def yX7_isRest : MethodName := ⟨RX7, "isRest", "(IIII)Z"⟩
abbrev cX7_takeAsked : ByteArray := prog_1_method_46_code
def yX7_takeAsked : MethodName := ⟨RX7, "takeAsked", "(LTellKeys$Sheet;II)Z"⟩
abbrev cX7_cleanFor : ByteArray := prog_1_method_47_code
def yX7_cleanFor : MethodName := ⟨RX7, "cleanFor", "(I)I"⟩
abbrev cX7_tryRows : ByteArray := prog_1_method_48_code
def yX7_tryRows : MethodName := ⟨RX7, "tryRows", "(LTellKeys$Asking;II)V"⟩
def RX8 : String := "TellKeysModel"
def TX8 : u_T := fun k => match k with
  | 0 => ("TellKeysModel", "ones", "[I", true)
  | 1 => ("TellKeysModel", "others", "[I", true)
  | 2 => ("TellKeysModel", "locks", "[I", true)
  | 3 => ("TellKeysModel", "doors", "I", false)
  | 4 => ("TellKeysModel", "kinds", "[I", true)
  | 5 => ("TellKeysModel", "tells", "[I", true)
  | 6 => ("TellKeysModel", "holders", "[I", true)
  | 7 => ("TellKeysModel", "stains", "[I", true)
  | 8 => ("TellKeysModel", "days", "[I", true)
  | 9 => ("TellKeysModel", "keys", "I", false)
  | 10 => ("TellKeysModel", "today", "I", false)
  | 11 => ("TellKeysModel", "tape", "[I", true)
  | 12 => ("TellKeysModel", "taped", "I", false)
  | 13 => ("TellKeysModel", "place", "I", false)
  | 14 => ("TellKeysModel", "reads", "I", false)
  | 15 => ("TellKeysModel", "read", "[I", true)
  | 16 => ("TellKeysModel", "fars", "[I", true)
  | 17 => ("TellKeysModel", "isKept", "Z", false)
  | 18 => ("TellKeysModel", "kept", "[I", true)
  | 19 => ("TellKeysModel", "lanes", "[I", true)
  | 20 => ("TellKeysModel", "rowSizes", "[I", true)
  | 21 => ("TellKeysModel", "items", "[I", true)
  | 22 => ("TellKeysModel", "order", "[I", true)
  | 23 => ("TellKeysModel", "best", "[I", true)
  | _ => ("TellKeysModel", "moved", "[I", true)
def tyX8 : Nat → FieldType := fun k => match k with
  | 0 => .array .int
  | 1 => .array .int
  | 2 => .array .int
  | 3 => .int
  | 4 => .array .int
  | 5 => .array .int
  | 6 => .array .int
  | 7 => .array .int
  | 8 => .array .int
  | 9 => .int
  | 10 => .int
  | 11 => .array .int
  | 12 => .int
  | 13 => .int
  | 14 => .int
  | 15 => .array .int
  | 16 => .array .int
  | 17 => .boolean
  | 18 => .array .int
  | 19 => .array .int
  | 20 => .array .int
  | 21 => .array .int
  | 22 => .array .int
  | 23 => .array .int
  | _ => .array .int
theorem nmX8 : ∀ a, a < 25 → ∀ b, b < 25 → a ≠ b → (TX8 a).2.1 ≠ (TX8 b).2.1 := by decide +kernel
theorem tyX8_ok : ∀ k, k < 25 → parseFieldDescriptor (TX8 k).2.2.1 = some (tyX8 k) := by decide +kernel
abbrev cX8_init : ByteArray := prog_10_method_1_code
def yX8_init : MethodName := ⟨RX8, "<init>", "()V"⟩
abbrev cX8_in : ByteArray := prog_10_method_2_code
def yX8_in : MethodName := ⟨RX8, "in", "(JJJ)Z"⟩
abbrev cX8_has : ByteArray := prog_10_method_3_code
def yX8_has : MethodName := ⟨RX8, "has", "(II)Z"⟩
abbrev cX8_isPlace : ByteArray := prog_10_method_4_code
def yX8_isPlace : MethodName := ⟨RX8, "isPlace", "(I)Z"⟩
abbrev cX8_isKey : ByteArray := prog_10_method_5_code
def yX8_isKey : MethodName := ⟨RX8, "isKey", "(I)Z"⟩
abbrev cX8_canJoin : ByteArray := prog_10_method_6_code
def yX8_canJoin : MethodName := ⟨RX8, "canJoin", "(II)Z"⟩
abbrev cX8_door : ByteArray := prog_10_method_7_code
def yX8_door : MethodName := ⟨RX8, "door", "(III)I"⟩
abbrev cX8_key : ByteArray := prog_10_method_8_code
def yX8_key : MethodName := ⟨RX8, "key", "(II)I"⟩
abbrev cX8_told : ByteArray := prog_10_method_9_code
def yX8_told : MethodName := ⟨RX8, "told", "(II)I"⟩
abbrev cX8_of : ByteArray := prog_10_method_10_code
def yX8_of : MethodName := ⟨RX8, "of", "(II)I"⟩
abbrev cX8_shownOf : ByteArray := prog_10_method_11_code
def yX8_shownOf : MethodName := ⟨RX8, "shownOf", "(III)I"⟩
abbrev cX8_shownBy : ByteArray := prog_10_method_12_code
def yX8_shownBy : MethodName := ⟨RX8, "shownBy", "(II)I"⟩
abbrev cX8_count : ByteArray := prog_10_method_13_code
def yX8_count : MethodName := ⟨RX8, "count", "(I)I"⟩
abbrev cX8_type : ByteArray := prog_10_method_14_code
def yX8_type : MethodName := ⟨RX8, "type", "(JI)I"⟩
abbrev cX8_nextByte : ByteArray := prog_10_method_15_code
def yX8_nextByte : MethodName := ⟨RX8, "nextByte", "()I"⟩
abbrev cX8_takes : ByteArray := prog_10_method_16_code
def yX8_takes : MethodName := ⟨RX8, "takes", "(I)Z"⟩
abbrev cX8_readDigit : ByteArray := prog_10_method_17_code
def yX8_readDigit : MethodName := ⟨RX8, "readDigit", "(I)I"⟩
abbrev cX8_readMinutes : ByteArray := prog_10_method_18_code
def yX8_readMinutes : MethodName := ⟨RX8, "readMinutes", "()I"⟩
abbrev cX8_signOf : ByteArray := prog_10_method_19_code
def yX8_signOf : MethodName := ⟨RX8, "signOf", "(I)I"⟩
abbrev cX8_readDoor : ByteArray := prog_10_method_20_code
def yX8_readDoor : MethodName := ⟨RX8, "readDoor", "(I)Z"⟩
abbrev cX8_readHouse : ByteArray := prog_10_method_21_code
def yX8_readHouse : MethodName := ⟨RX8, "readHouse", "()Z"⟩
abbrev cX8_end : ByteArray := prog_10_method_22_code
def yX8_end : MethodName := ⟨RX8, "end", "(Z)I"⟩
abbrev cX8_house : ByteArray := prog_10_method_23_code
def yX8_house : MethodName := ⟨RX8, "house", "()I"⟩
abbrev cX8_readVisit : ByteArray := prog_10_method_24_code
def yX8_readVisit : MethodName := ⟨RX8, "readVisit", "(I)Z"⟩
abbrev cX8_readWash : ByteArray := prog_10_method_25_code
def yX8_readWash : MethodName := ⟨RX8, "readWash", "(I)Z"⟩
abbrev cX8_readChange : ByteArray := prog_10_method_26_code
def yX8_readChange : MethodName := ⟨RX8, "readChange", "(I)Z"⟩
abbrev cX8_readAct : ByteArray := prog_10_method_27_code
def yX8_readAct : MethodName := ⟨RX8, "readAct", "(I)Z"⟩
abbrev cX8_readWeek : ByteArray := prog_10_method_28_code
def yX8_readWeek : MethodName := ⟨RX8, "readWeek", "()Z"⟩
abbrev cX8_does : ByteArray := prog_10_method_29_code
def yX8_does : MethodName := ⟨RX8, "does", "(I)Z"⟩
abbrev cX8_week : ByteArray := prog_10_method_30_code
def yX8_week : MethodName := ⟨RX8, "week", "()I"⟩
abbrev cX8_isSister : ByteArray := prog_10_method_31_code
def yX8_isSister : MethodName := ⟨RX8, "isSister", "(I)Z"⟩
abbrev cX8_ringOf : ByteArray := prog_10_method_32_code
def yX8_ringOf : MethodName := ⟨RX8, "ringOf", "(IZ)I"⟩
abbrev cX8_doorOf : ByteArray := prog_10_method_33_code
def yX8_doorOf : MethodName := ⟨RX8, "doorOf", "(I)I"⟩
abbrev cX8_findFars : ByteArray := prog_10_method_34_code
def yX8_findFars : MethodName := ⟨RX8, "findFars", "(II)V"⟩
abbrev cX8_visit : ByteArray := prog_10_method_35_code
def yX8_visit : MethodName := ⟨RX8, "visit", "(III)I"⟩
abbrev cX8_isNext : ByteArray := prog_10_method_36_code
def yX8_isNext : MethodName := ⟨RX8, "isNext", "(III)Z"⟩
abbrev cX8_stain : ByteArray := prog_10_method_37_code
def yX8_stain : MethodName := ⟨RX8, "stain", "(II)V"⟩
abbrev cX8_wash : ByteArray := prog_10_method_38_code
def yX8_wash : MethodName := ⟨RX8, "wash", "(II)I"⟩
abbrev cX8_change : ByteArray := prog_10_method_39_code
def yX8_change : MethodName := ⟨RX8, "change", "(II)I"⟩
abbrev cX8_next : ByteArray := prog_10_method_40_code
def yX8_next : MethodName := ⟨RX8, "next", "()I"⟩
abbrev cX8_shown : ByteArray := prog_10_method_41_code
def yX8_shown : MethodName := ⟨RX8, "shown", "(II)I"⟩
abbrev cX8_seen : ByteArray := prog_10_method_42_code
def yX8_seen : MethodName := ⟨RX8, "seen", "(III)I"⟩
abbrev cX8_reach : ByteArray := prog_10_method_43_code
def yX8_reach : MethodName := ⟨RX8, "reach", "(I)I"⟩
abbrev cX8_fits : ByteArray := prog_10_method_44_code
def yX8_fits : MethodName := ⟨RX8, "fits", "(III)I"⟩
abbrev cX8_been : ByteArray := prog_10_method_45_code
def yX8_been : MethodName := ⟨RX8, "been", "(III)I"⟩
abbrev cX8_gains : ByteArray := prog_10_method_46_code
def yX8_gains : MethodName := ⟨RX8, "gains", "(IIII)I"⟩
abbrev cX8_look : ByteArray := prog_10_method_47_code
def yX8_look : MethodName := ⟨RX8, "look", "(III)I"⟩
abbrev cX8_carried : ByteArray := prog_10_method_48_code
def yX8_carried : MethodName := ⟨RX8, "carried", "(IIZ)I"⟩
abbrev cX8_image : ByteArray := prog_10_method_49_code
def yX8_image : MethodName := ⟨RX8, "image", "()I"⟩
abbrev cX8_restore : ByteArray := prog_10_method_50_code
def yX8_restore : MethodName := ⟨RX8, "restore", "()I"⟩
abbrev cX8_isSheet : ByteArray := prog_10_method_51_code
def yX8_isSheet : MethodName := ⟨RX8, "isSheet", "(II)Z"⟩
abbrev cX8_asLane : ByteArray := prog_10_method_52_code
def yX8_asLane : MethodName := ⟨RX8, "asLane", "(II)I"⟩
abbrev cX8_sheet : ByteArray := prog_10_method_53_code
def yX8_sheet : MethodName := ⟨RX8, "sheet", "(III)I"⟩
abbrev cX8_drop : ByteArray := prog_10_method_54_code
def yX8_drop : MethodName := ⟨RX8, "drop", "(I)I"⟩
abbrev cX8_lacksRow : ByteArray := prog_10_method_55_code
def yX8_lacksRow : MethodName := ⟨RX8, "lacksRow", "(IIII)I"⟩
abbrev cX8_item : ByteArray := prog_10_method_56_code
def yX8_item : MethodName := ⟨RX8, "item", "(IIII)I"⟩
abbrev cX8_nextOrder : ByteArray := prog_10_method_57_code
def yX8_nextOrder : MethodName := ⟨RX8, "nextOrder", "(I)Z"⟩
abbrev cX8_areTold : ByteArray := prog_10_method_58_code
def yX8_areTold : MethodName := ⟨RX8, "areTold", "(II)Z"⟩
abbrev cX8_areClean : ByteArray := prog_10_method_59_code
def yX8_areClean : MethodName := ⟨RX8, "areClean", "(II)Z"⟩
abbrev cX8_rings : ByteArray := prog_10_method_60_code
def yX8_rings : MethodName := ⟨RX8, "rings", "(I)I"⟩
abbrev cX8_asked : ByteArray := prog_10_method_61_code
def yX8_asked : MethodName := ⟨RX8, "asked", "(IIIII)I"⟩
abbrev cX8_film : ByteArray := prog_10_method_62_code
def yX8_film : MethodName := ⟨RX8, "film", "(III)I"⟩
abbrev cX8_copy : ByteArray := prog_10_method_63_code
def yX8_copy : MethodName := ⟨RX8, "copy", "(IIIII)I"⟩
def RJ9 : String := "java/lang/Math"
def TJ9 : u_T := fun k => match k with
  | _ => ("", "", "", false)
def tyJ9 : Nat → FieldType := fun k => match k with
  | _ => .int
theorem nmJ9 : ∀ a, a < 0 → ∀ b, b < 0 → a ≠ b → (TJ9 a).2.1 ≠ (TJ9 b).2.1 := by decide +kernel
theorem tyJ9_ok : ∀ k, k < 0 → parseFieldDescriptor (TJ9 k).2.2.1 = some (tyJ9 k) := by decide +kernel
abbrev cJ9_abs_0f7a4 : ByteArray := prog_11_method_59_code
def yJ9_abs_0f7a4 : MethodName := ⟨RJ9, "abs", "(I)I"⟩
abbrev cJ9_max_7cf53 : ByteArray := prog_11_method_65_code
def yJ9_max_7cf53 : MethodName := ⟨RJ9, "max", "(II)I"⟩
abbrev cJ9_min_7cf53 : ByteArray := prog_11_method_69_code
def yJ9_min_7cf53 : MethodName := ⟨RJ9, "min", "(II)I"⟩
def RJ10 : String := "java/lang/System"
def TJ10 : u_T := fun k => match k with
  | _ => ("", "", "", false)
def tyJ10 : Nat → FieldType := fun k => match k with
  | _ => .int
theorem nmJ10 : ∀ a, a < 0 → ∀ b, b < 0 → a ≠ b → (TJ10 a).2.1 ≠ (TJ10 b).2.1 := by decide +kernel
theorem tyJ10_ok : ∀ k, k < 0 → parseFieldDescriptor (TJ10 k).2.2.1 = some (tyJ10 k) := by decide +kernel
def RL : String := "TellKeysLaw"
abbrev cL_law : ByteArray := code
def yL_law : MethodName := ⟨RL, "law", "([I)Z"⟩
abbrev vwCl : List vw_C := [(RX0, TX0, 5), (RX1, TX1, 7), (RX2, TX2, 4), (RX3, TX3, 6), (RX4, TX4, 3), (RX5, TX5, 3), (RX6, TX6, 1), (RX7, TX7, 13), (RX8, TX8, 25)]
end
section
theorem dX0_init_0 : decode cX0_init 0 = .ok (.aload_n 0, 1) := by decide +kernel
theorem dX0_init_1 : decode cX0_init 1 = .ok (.invokespecial 1, 3) := by decide +kernel
theorem dX0_init_4 : decode cX0_init 4 = .ok (.aload_n 0, 1) := by decide +kernel
theorem dX0_init_5 : decode cX0_init 5 = .ok (.iconst 0, 1) := by decide +kernel
theorem dX0_init_6 : decode cX0_init 6 = .ok (.putfield 7, 3) := by decide +kernel
theorem dX0_init_9 : decode cX0_init 9 = .ok (.aload_n 0, 1) := by decide +kernel
theorem dX0_init_10 : decode cX0_init 10 = .ok (.iconst 0, 1) := by decide +kernel
theorem dX0_init_11 : decode cX0_init 11 = .ok (.putfield 13, 3) := by decide +kernel
theorem dX0_init_14 : decode cX0_init 14 = .ok (.aload_n 0, 1) := by decide +kernel
theorem dX0_init_15 : decode cX0_init 15 = .ok (.iconst 0, 1) := by decide +kernel
theorem dX0_init_16 : decode cX0_init 16 = .ok (.putfield 16, 3) := by decide +kernel
theorem dX0_init_19 : decode cX0_init 19 = .ok (.aload_n 0, 1) := by decide +kernel
theorem dX0_init_20 : decode cX0_init 20 = .ok (.iconst 0, 1) := by decide +kernel
theorem dX0_init_21 : decode cX0_init 21 = .ok (.putfield 19, 3) := by decide +kernel
theorem dX0_init_24 : decode cX0_init 24 = .ok (.aload_n 0, 1) := by decide +kernel
theorem dX0_init_25 : decode cX0_init 25 = .ok (.iconst 0, 1) := by decide +kernel
theorem dX0_init_26 : decode cX0_init 26 = .ok (.putfield 22, 3) := by decide +kernel
theorem dX0_init_29 : decode cX0_init 29 = .ok (.return_, 1) := by decide +kernel
theorem dX1_init_0 : decode cX1_init 0 = .ok (.aload_n 0, 1) := by decide +kernel
theorem dX1_init_1 : decode cX1_init 1 = .ok (.invokespecial 3, 3) := by decide +kernel
theorem dX1_init_4 : decode cX1_init 4 = .ok (.aload_n 0, 1) := by decide +kernel
theorem dX1_init_5 : decode cX1_init 5 = .ok (.iconst 0, 1) := by decide +kernel
theorem dX1_init_6 : decode cX1_init 6 = .ok (.putfield 9, 3) := by decide +kernel
theorem dX1_init_9 : decode cX1_init 9 = .ok (.aload_n 0, 1) := by decide +kernel
theorem dX1_init_10 : decode cX1_init 10 = .ok (.iconst (-1), 1) := by decide +kernel
theorem dX1_init_11 : decode cX1_init 11 = .ok (.putfield 15, 3) := by decide +kernel
theorem dX1_init_14 : decode cX1_init 14 = .ok (.aload_n 0, 1) := by decide +kernel
theorem dX1_init_15 : decode cX1_init 15 = .ok (.bipush 6, 2) := by decide +kernel
theorem dX1_init_17 : decode cX1_init 17 = .ok (.newarray .int, 2) := by decide +kernel
theorem dX1_init_19 : decode cX1_init 19 = .ok (.putfield 18, 3) := by decide +kernel
theorem dX1_init_22 : decode cX1_init 22 = .ok (.aload_n 0, 1) := by decide +kernel
theorem dX1_init_23 : decode cX1_init 23 = .ok (.bipush 6, 2) := by decide +kernel
theorem dX1_init_25 : decode cX1_init 25 = .ok (.newarray .int, 2) := by decide +kernel
theorem dX1_init_27 : decode cX1_init 27 = .ok (.putfield 22, 3) := by decide +kernel
theorem dX1_init_30 : decode cX1_init 30 = .ok (.aload_n 0, 1) := by decide +kernel
theorem dX1_init_31 : decode cX1_init 31 = .ok (.bipush 6, 2) := by decide +kernel
theorem dX1_init_33 : decode cX1_init 33 = .ok (.newarray .int, 2) := by decide +kernel
theorem dX1_init_35 : decode cX1_init 35 = .ok (.putfield 25, 3) := by decide +kernel
theorem dX1_init_38 : decode cX1_init 38 = .ok (.aload_n 0, 1) := by decide +kernel
theorem dX1_init_39 : decode cX1_init 39 = .ok (.bipush 6, 2) := by decide +kernel
theorem dX1_init_41 : decode cX1_init 41 = .ok (.newarray .int, 2) := by decide +kernel
theorem dX1_init_43 : decode cX1_init 43 = .ok (.putfield 28, 3) := by decide +kernel
theorem dX1_init_46 : decode cX1_init 46 = .ok (.aload_n 0, 1) := by decide +kernel
theorem dX1_init_47 : decode cX1_init 47 = .ok (.bipush 6, 2) := by decide +kernel
theorem dX1_init_49 : decode cX1_init 49 = .ok (.newarray .int, 2) := by decide +kernel
theorem dX1_init_51 : decode cX1_init 51 = .ok (.putfield 31, 3) := by decide +kernel
theorem dX1_init_54 : decode cX1_init 54 = .ok (.return_, 1) := by decide +kernel
theorem dX1_weigh_0 : decode cX1_weigh 0 = .ok (.aload_n 0, 1) := by decide +kernel
theorem dX1_weigh_1 : decode cX1_weigh 1 = .ok (.invokevirtual 34, 3) := by decide +kernel
theorem dX1_weigh_4 : decode cX1_weigh 4 = .ok (.istore_n 1, 1) := by decide +kernel
theorem dX1_weigh_5 : decode cX1_weigh 5 = .ok (.aload_n 0, 1) := by decide +kernel
theorem dX1_weigh_6 : decode cX1_weigh 6 = .ok (.getfield 15, 3) := by decide +kernel
theorem dX1_weigh_9 : decode cX1_weigh 9 = .ok (.iconst (-1), 1) := by decide +kernel
theorem dX1_weigh_10 : decode cX1_weigh 10 = .ok (.if_icmp .eq 11, 3) := by decide +kernel
theorem dX1_weigh_13 : decode cX1_weigh 13 = .ok (.iload_n 1, 1) := by decide +kernel
theorem dX1_weigh_14 : decode cX1_weigh 14 = .ok (.aload_n 0, 1) := by decide +kernel
theorem dX1_weigh_15 : decode cX1_weigh 15 = .ok (.getfield 15, 3) := by decide +kernel
theorem dX1_weigh_18 : decode cX1_weigh 18 = .ok (.if_icmp .ge 25, 3) := by decide +kernel
theorem dX1_weigh_21 : decode cX1_weigh 21 = .ok (.aload_n 0, 1) := by decide +kernel
theorem dX1_weigh_22 : decode cX1_weigh 22 = .ok (.iload_n 1, 1) := by decide +kernel
theorem dX1_weigh_23 : decode cX1_weigh 23 = .ok (.putfield 15, 3) := by decide +kernel
theorem dX1_weigh_26 : decode cX1_weigh 26 = .ok (.aload_n 0, 1) := by decide +kernel
theorem dX1_weigh_27 : decode cX1_weigh 27 = .ok (.getfield 28, 3) := by decide +kernel
theorem dX1_weigh_30 : decode cX1_weigh 30 = .ok (.iconst 0, 1) := by decide +kernel
theorem dX1_weigh_31 : decode cX1_weigh 31 = .ok (.aload_n 0, 1) := by decide +kernel
theorem dX1_weigh_32 : decode cX1_weigh 32 = .ok (.getfield 31, 3) := by decide +kernel
theorem dX1_weigh_35 : decode cX1_weigh 35 = .ok (.iconst 0, 1) := by decide +kernel
theorem dX1_weigh_36 : decode cX1_weigh 36 = .ok (.aload_n 0, 1) := by decide +kernel
theorem dX1_weigh_37 : decode cX1_weigh 37 = .ok (.getfield 9, 3) := by decide +kernel
theorem dX1_weigh_40 : decode cX1_weigh 40 = .ok (.invokestatic 38, 3) := by decide +kernel
theorem dX1_weigh_43 : decode cX1_weigh 43 = .ok (.return_, 1) := by decide +kernel
theorem dX1_changesTo_0 : decode cX1_changesTo 0 = .ok (.aload_n 0, 1) := by decide +kernel
theorem dX1_changesTo_1 : decode cX1_changesTo 1 = .ok (.getfield 9, 3) := by decide +kernel
theorem dX1_changesTo_4 : decode cX1_changesTo 4 = .ok (.istore_n 1, 1) := by decide +kernel
theorem dX1_changesTo_5 : decode cX1_changesTo 5 = .ok (.iconst 0, 1) := by decide +kernel
theorem dX1_changesTo_6 : decode cX1_changesTo 6 = .ok (.istore_n 2, 1) := by decide +kernel
theorem dX1_changesTo_7 : decode cX1_changesTo 7 = .ok (.iconst 0, 1) := by decide +kernel
theorem dX1_changesTo_8 : decode cX1_changesTo 8 = .ok (.istore_n 3, 1) := by decide +kernel
theorem dX1_changesTo_9 : decode cX1_changesTo 9 = .ok (.iload_n 3, 1) := by decide +kernel
theorem dX1_changesTo_10 : decode cX1_changesTo 10 = .ok (.aload_n 0, 1) := by decide +kernel
theorem dX1_changesTo_11 : decode cX1_changesTo 11 = .ok (.getfield 9, 3) := by decide +kernel
theorem dX1_changesTo_14 : decode cX1_changesTo 14 = .ok (.if_icmp .ge 66, 3) := by decide +kernel
theorem dX1_changesTo_17 : decode cX1_changesTo 17 = .ok (.iload_n 2, 1) := by decide +kernel
theorem dX1_changesTo_18 : decode cX1_changesTo 18 = .ok (.iload_n 3, 1) := by decide +kernel
theorem dX1_changesTo_19 : decode cX1_changesTo 19 = .ok (.ishr, 1) := by decide +kernel
theorem dX1_changesTo_20 : decode cX1_changesTo 20 = .ok (.iconst 1, 1) := by decide +kernel
theorem dX1_changesTo_21 : decode cX1_changesTo 21 = .ok (.iand, 1) := by decide +kernel
theorem dX1_changesTo_22 : decode cX1_changesTo 22 = .ok (.ifCond .ne 6, 3) := by decide +kernel
theorem dX1_changesTo_25 : decode cX1_changesTo 25 = .ok (.iinc 1 (-1), 3) := by decide +kernel
theorem dX1_changesTo_28 : decode cX1_changesTo 28 = .ok (.iload_n 3, 1) := by decide +kernel
theorem dX1_changesTo_29 : decode cX1_changesTo 29 = .ok (.istore 4, 2) := by decide +kernel
theorem dX1_changesTo_31 : decode cX1_changesTo 31 = .ok (.iconst 0, 1) := by decide +kernel
theorem dX1_changesTo_32 : decode cX1_changesTo 32 = .ok (.istore 5, 2) := by decide +kernel
theorem dX1_changesTo_34 : decode cX1_changesTo 34 = .ok (.iload 5, 2) := by decide +kernel
theorem dX1_changesTo_36 : decode cX1_changesTo 36 = .ok (.aload_n 0, 1) := by decide +kernel
theorem dX1_changesTo_37 : decode cX1_changesTo 37 = .ok (.getfield 9, 3) := by decide +kernel
theorem dX1_changesTo_40 : decode cX1_changesTo 40 = .ok (.if_icmp .ge 34, 3) := by decide +kernel
theorem dX1_changesTo_43 : decode cX1_changesTo 43 = .ok (.iload_n 2, 1) := by decide +kernel
theorem dX1_changesTo_44 : decode cX1_changesTo 44 = .ok (.iload 4, 2) := by decide +kernel
theorem dX1_changesTo_46 : decode cX1_changesTo 46 = .ok (.ishr, 1) := by decide +kernel
theorem dX1_changesTo_47 : decode cX1_changesTo 47 = .ok (.iconst 1, 1) := by decide +kernel
theorem dX1_changesTo_48 : decode cX1_changesTo 48 = .ok (.iand, 1) := by decide +kernel
theorem dX1_changesTo_49 : decode cX1_changesTo 49 = .ok (.ifCond .ne 25, 3) := by decide +kernel
theorem dX1_changesTo_52 : decode cX1_changesTo 52 = .ok (.iload_n 2, 1) := by decide +kernel
theorem dX1_changesTo_53 : decode cX1_changesTo 53 = .ok (.iconst 1, 1) := by decide +kernel
theorem dX1_changesTo_54 : decode cX1_changesTo 54 = .ok (.iload 4, 2) := by decide +kernel
theorem dX1_changesTo_56 : decode cX1_changesTo 56 = .ok (.ishl, 1) := by decide +kernel
theorem dX1_changesTo_57 : decode cX1_changesTo 57 = .ok (.ior, 1) := by decide +kernel
theorem dX1_changesTo_58 : decode cX1_changesTo 58 = .ok (.istore_n 2, 1) := by decide +kernel
theorem dX1_changesTo_59 : decode cX1_changesTo 59 = .ok (.aload_n 0, 1) := by decide +kernel
theorem dX1_changesTo_60 : decode cX1_changesTo 60 = .ok (.getfield 28, 3) := by decide +kernel
theorem dX1_changesTo_63 : decode cX1_changesTo 63 = .ok (.iload 4, 2) := by decide +kernel
theorem dX1_changesTo_65 : decode cX1_changesTo 65 = .ok (.iaload, 1) := by decide +kernel
theorem dX1_changesTo_66 : decode cX1_changesTo 66 = .ok (.istore 4, 2) := by decide +kernel
theorem dX1_changesTo_68 : decode cX1_changesTo 68 = .ok (.iinc 5 1, 3) := by decide +kernel
theorem dX1_changesTo_71 : decode cX1_changesTo 71 = .ok (.goto (-37), 3) := by decide +kernel
theorem dX1_changesTo_74 : decode cX1_changesTo 74 = .ok (.iinc 3 1, 3) := by decide +kernel
theorem dX1_changesTo_77 : decode cX1_changesTo 77 = .ok (.goto (-68), 3) := by decide +kernel
theorem dX1_changesTo_80 : decode cX1_changesTo 80 = .ok (.iload_n 1, 1) := by decide +kernel
theorem dX1_changesTo_81 : decode cX1_changesTo 81 = .ok (.ireturn, 1) := by decide +kernel
theorem dX2_init_0 : decode cX2_init 0 = .ok (.aload_n 0, 1) := by decide +kernel
theorem dX2_init_1 : decode cX2_init 1 = .ok (.invokespecial 3, 3) := by decide +kernel
theorem dX2_init_4 : decode cX2_init 4 = .ok (.aload_n 0, 1) := by decide +kernel
theorem dX2_init_5 : decode cX2_init 5 = .ok (.iconst 0, 1) := by decide +kernel
theorem dX2_init_6 : decode cX2_init 6 = .ok (.putfield 9, 3) := by decide +kernel
theorem dX2_init_9 : decode cX2_init 9 = .ok (.aload_n 0, 1) := by decide +kernel
theorem dX2_init_10 : decode cX2_init 10 = .ok (.bipush 17, 2) := by decide +kernel
theorem dX2_init_12 : decode cX2_init 12 = .ok (.newarray .int, 2) := by decide +kernel
theorem dX2_init_14 : decode cX2_init 14 = .ok (.putfield 15, 3) := by decide +kernel
theorem dX2_init_17 : decode cX2_init 17 = .ok (.aload_n 0, 1) := by decide +kernel
theorem dX2_init_18 : decode cX2_init 18 = .ok (.bipush 17, 2) := by decide +kernel
theorem dX2_init_20 : decode cX2_init 20 = .ok (.newarray .int, 2) := by decide +kernel
theorem dX2_init_22 : decode cX2_init 22 = .ok (.putfield 19, 3) := by decide +kernel
theorem dX2_init_25 : decode cX2_init 25 = .ok (.aload_n 0, 1) := by decide +kernel
theorem dX2_init_26 : decode cX2_init 26 = .ok (.bipush 17, 2) := by decide +kernel
theorem dX2_init_28 : decode cX2_init 28 = .ok (.newarray .int, 2) := by decide +kernel
theorem dX2_init_30 : decode cX2_init 30 = .ok (.putfield 22, 3) := by decide +kernel
theorem dX2_init_33 : decode cX2_init 33 = .ok (.aload_n 0, 1) := by decide +kernel
theorem dX2_init_34 : decode cX2_init 34 = .ok (.getfield 15, 3) := by decide +kernel
theorem dX2_init_37 : decode cX2_init 37 = .ok (.bipush 16, 2) := by decide +kernel
theorem dX2_init_39 : decode cX2_init 39 = .ok (.iconst 0, 1) := by decide +kernel
theorem dX2_init_40 : decode cX2_init 40 = .ok (.iastore, 1) := by decide +kernel
theorem dX2_init_41 : decode cX2_init 41 = .ok (.aload_n 0, 1) := by decide +kernel
theorem dX2_init_42 : decode cX2_init 42 = .ok (.getfield 19, 3) := by decide +kernel
theorem dX2_init_45 : decode cX2_init 45 = .ok (.bipush 16, 2) := by decide +kernel
theorem dX2_init_47 : decode cX2_init 47 = .ok (.bipush 10, 2) := by decide +kernel
theorem dX2_init_49 : decode cX2_init 49 = .ok (.iastore, 1) := by decide +kernel
theorem dX2_init_50 : decode cX2_init 50 = .ok (.aload_n 0, 1) := by decide +kernel
theorem dX2_init_51 : decode cX2_init 51 = .ok (.getfield 22, 3) := by decide +kernel
theorem dX2_init_54 : decode cX2_init 54 = .ok (.bipush 16, 2) := by decide +kernel
theorem dX2_init_56 : decode cX2_init 56 = .ok (.bipush 8, 2) := by decide +kernel
theorem dX2_init_58 : decode cX2_init 58 = .ok (.iastore, 1) := by decide +kernel
theorem dX2_init_59 : decode cX2_init 59 = .ok (.return_, 1) := by decide +kernel
theorem dX2_has_0 : decode cX2_has 0 = .ok (.iload_n 1, 1) := by decide +kernel
theorem dX2_has_1 : decode cX2_has 1 = .ok (.ifCond .lt 15, 3) := by decide +kernel
theorem dX2_has_4 : decode cX2_has 4 = .ok (.iload_n 1, 1) := by decide +kernel
theorem dX2_has_5 : decode cX2_has 5 = .ok (.aload_n 0, 1) := by decide +kernel
theorem dX2_has_6 : decode cX2_has 6 = .ok (.getfield 9, 3) := by decide +kernel
theorem dX2_has_9 : decode cX2_has 9 = .ok (.if_icmp .ge 7, 3) := by decide +kernel
theorem dX2_has_12 : decode cX2_has 12 = .ok (.iconst 1, 1) := by decide +kernel
theorem dX2_has_13 : decode cX2_has 13 = .ok (.goto 4, 3) := by decide +kernel
theorem dX2_has_16 : decode cX2_has 16 = .ok (.iconst 0, 1) := by decide +kernel
theorem dX2_has_17 : decode cX2_has 17 = .ok (.ireturn, 1) := by decide +kernel
theorem dX2_add_0 : decode cX2_add 0 = .ok (.aload_n 0, 1) := by decide +kernel
theorem dX2_add_1 : decode cX2_add 1 = .ok (.getfield 9, 3) := by decide +kernel
theorem dX2_add_4 : decode cX2_add 4 = .ok (.bipush 16, 2) := by decide +kernel
theorem dX2_add_6 : decode cX2_add 6 = .ok (.if_icmp .lt 6, 3) := by decide +kernel
theorem dX2_add_9 : decode cX2_add 9 = .ok (.bipush (-3), 2) := by decide +kernel
theorem dX2_add_11 : decode cX2_add 11 = .ok (.ireturn, 1) := by decide +kernel
theorem dX2_add_12 : decode cX2_add 12 = .ok (.aload_n 0, 1) := by decide +kernel
theorem dX2_add_13 : decode cX2_add 13 = .ok (.getfield 15, 3) := by decide +kernel
theorem dX2_add_16 : decode cX2_add 16 = .ok (.aload_n 0, 1) := by decide +kernel
theorem dX2_add_17 : decode cX2_add 17 = .ok (.getfield 9, 3) := by decide +kernel
theorem dX2_add_20 : decode cX2_add 20 = .ok (.iload_n 1, 1) := by decide +kernel
theorem dX2_add_21 : decode cX2_add 21 = .ok (.iastore, 1) := by decide +kernel
theorem dX2_add_22 : decode cX2_add 22 = .ok (.aload_n 0, 1) := by decide +kernel
theorem dX2_add_23 : decode cX2_add 23 = .ok (.getfield 19, 3) := by decide +kernel
theorem dX2_add_26 : decode cX2_add 26 = .ok (.aload_n 0, 1) := by decide +kernel
theorem dX2_add_27 : decode cX2_add 27 = .ok (.getfield 9, 3) := by decide +kernel
theorem dX2_add_30 : decode cX2_add 30 = .ok (.iload_n 2, 1) := by decide +kernel
theorem dX2_add_31 : decode cX2_add 31 = .ok (.iastore, 1) := by decide +kernel
theorem dX2_add_32 : decode cX2_add 32 = .ok (.aload_n 0, 1) := by decide +kernel
theorem dX2_add_33 : decode cX2_add 33 = .ok (.getfield 22, 3) := by decide +kernel
theorem dX2_add_36 : decode cX2_add 36 = .ok (.aload_n 0, 1) := by decide +kernel
theorem dX2_add_37 : decode cX2_add 37 = .ok (.getfield 9, 3) := by decide +kernel
theorem dX2_add_40 : decode cX2_add 40 = .ok (.iload_n 3, 1) := by decide +kernel
theorem dX2_add_41 : decode cX2_add 41 = .ok (.iastore, 1) := by decide +kernel
theorem dX2_add_42 : decode cX2_add 42 = .ok (.aload_n 0, 1) := by decide +kernel
theorem dX2_add_43 : decode cX2_add 43 = .ok (.dup, 1) := by decide +kernel
theorem dX2_add_44 : decode cX2_add 44 = .ok (.getfield 9, 3) := by decide +kernel
theorem dX2_add_47 : decode cX2_add 47 = .ok (.iconst 1, 1) := by decide +kernel
theorem dX2_add_48 : decode cX2_add 48 = .ok (.iadd, 1) := by decide +kernel
theorem dX2_add_49 : decode cX2_add 49 = .ok (.putfield 9, 3) := by decide +kernel
theorem dX2_add_52 : decode cX2_add 52 = .ok (.aload_n 0, 1) := by decide +kernel
theorem dX2_add_53 : decode cX2_add 53 = .ok (.getfield 9, 3) := by decide +kernel
theorem dX2_add_56 : decode cX2_add 56 = .ok (.iconst 1, 1) := by decide +kernel
theorem dX2_add_57 : decode cX2_add 57 = .ok (.isub, 1) := by decide +kernel
theorem dX2_add_58 : decode cX2_add 58 = .ok (.ireturn, 1) := by decide +kernel
theorem dX2_becomeLike_0 : decode cX2_becomeLike 0 = .ok (.aload_n 0, 1) := by decide +kernel
theorem dX2_becomeLike_1 : decode cX2_becomeLike 1 = .ok (.aload_n 1, 1) := by decide +kernel
theorem dX2_becomeLike_2 : decode cX2_becomeLike 2 = .ok (.getfield 9, 3) := by decide +kernel
theorem dX2_becomeLike_5 : decode cX2_becomeLike 5 = .ok (.putfield 9, 3) := by decide +kernel
theorem dX2_becomeLike_8 : decode cX2_becomeLike 8 = .ok (.aload_n 1, 1) := by decide +kernel
theorem dX2_becomeLike_9 : decode cX2_becomeLike 9 = .ok (.getfield 15, 3) := by decide +kernel
theorem dX2_becomeLike_12 : decode cX2_becomeLike 12 = .ok (.iconst 0, 1) := by decide +kernel
theorem dX2_becomeLike_13 : decode cX2_becomeLike 13 = .ok (.aload_n 0, 1) := by decide +kernel
theorem dX2_becomeLike_14 : decode cX2_becomeLike 14 = .ok (.getfield 15, 3) := by decide +kernel
theorem dX2_becomeLike_17 : decode cX2_becomeLike 17 = .ok (.iconst 0, 1) := by decide +kernel
theorem dX2_becomeLike_18 : decode cX2_becomeLike 18 = .ok (.bipush 16, 2) := by decide +kernel
theorem dX2_becomeLike_20 : decode cX2_becomeLike 20 = .ok (.invokestatic 25, 3) := by decide +kernel
theorem dX2_becomeLike_23 : decode cX2_becomeLike 23 = .ok (.aload_n 1, 1) := by decide +kernel
theorem dX2_becomeLike_24 : decode cX2_becomeLike 24 = .ok (.getfield 19, 3) := by decide +kernel
theorem dX2_becomeLike_27 : decode cX2_becomeLike 27 = .ok (.iconst 0, 1) := by decide +kernel
theorem dX2_becomeLike_28 : decode cX2_becomeLike 28 = .ok (.aload_n 0, 1) := by decide +kernel
theorem dX2_becomeLike_29 : decode cX2_becomeLike 29 = .ok (.getfield 19, 3) := by decide +kernel
theorem dX2_becomeLike_32 : decode cX2_becomeLike 32 = .ok (.iconst 0, 1) := by decide +kernel
theorem dX2_becomeLike_33 : decode cX2_becomeLike 33 = .ok (.bipush 16, 2) := by decide +kernel
theorem dX2_becomeLike_35 : decode cX2_becomeLike 35 = .ok (.invokestatic 25, 3) := by decide +kernel
theorem dX2_becomeLike_38 : decode cX2_becomeLike 38 = .ok (.aload_n 1, 1) := by decide +kernel
theorem dX2_becomeLike_39 : decode cX2_becomeLike 39 = .ok (.getfield 22, 3) := by decide +kernel
theorem dX2_becomeLike_42 : decode cX2_becomeLike 42 = .ok (.iconst 0, 1) := by decide +kernel
theorem dX2_becomeLike_43 : decode cX2_becomeLike 43 = .ok (.aload_n 0, 1) := by decide +kernel
theorem dX2_becomeLike_44 : decode cX2_becomeLike 44 = .ok (.getfield 22, 3) := by decide +kernel
theorem dX2_becomeLike_47 : decode cX2_becomeLike 47 = .ok (.iconst 0, 1) := by decide +kernel
theorem dX2_becomeLike_48 : decode cX2_becomeLike 48 = .ok (.bipush 16, 2) := by decide +kernel
theorem dX2_becomeLike_50 : decode cX2_becomeLike 50 = .ok (.invokestatic 25, 3) := by decide +kernel
theorem dX2_becomeLike_53 : decode cX2_becomeLike 53 = .ok (.return_, 1) := by decide +kernel
theorem dX2_isAt_0 : decode cX2_isAt 0 = .ok (.aload_n 0, 1) := by decide +kernel
theorem dX2_isAt_1 : decode cX2_isAt 1 = .ok (.getfield 15, 3) := by decide +kernel
theorem dX2_isAt_4 : decode cX2_isAt 4 = .ok (.iload_n 1, 1) := by decide +kernel
theorem dX2_isAt_5 : decode cX2_isAt 5 = .ok (.iaload, 1) := by decide +kernel
theorem dX2_isAt_6 : decode cX2_isAt 6 = .ok (.iload_n 2, 1) := by decide +kernel
theorem dX2_isAt_7 : decode cX2_isAt 7 = .ok (.if_icmp .eq 13, 3) := by decide +kernel
theorem dX2_isAt_10 : decode cX2_isAt 10 = .ok (.aload_n 0, 1) := by decide +kernel
theorem dX2_isAt_11 : decode cX2_isAt 11 = .ok (.getfield 19, 3) := by decide +kernel
theorem dX2_isAt_14 : decode cX2_isAt 14 = .ok (.iload_n 1, 1) := by decide +kernel
theorem dX2_isAt_15 : decode cX2_isAt 15 = .ok (.iaload, 1) := by decide +kernel
theorem dX2_isAt_16 : decode cX2_isAt 16 = .ok (.iload_n 2, 1) := by decide +kernel
theorem dX2_isAt_17 : decode cX2_isAt 17 = .ok (.if_icmp .ne 7, 3) := by decide +kernel
theorem dX2_isAt_20 : decode cX2_isAt 20 = .ok (.iconst 1, 1) := by decide +kernel
theorem dX2_isAt_21 : decode cX2_isAt 21 = .ok (.goto 4, 3) := by decide +kernel
theorem dX2_isAt_24 : decode cX2_isAt 24 = .ok (.iconst 0, 1) := by decide +kernel
theorem dX2_isAt_25 : decode cX2_isAt 25 = .ok (.ireturn, 1) := by decide +kernel
theorem dX2_at_0 : decode cX2_at 0 = .ok (.iconst 0, 1) := by decide +kernel
theorem dX2_at_1 : decode cX2_at 1 = .ok (.istore_n 2, 1) := by decide +kernel
theorem dX2_at_2 : decode cX2_at 2 = .ok (.iconst 0, 1) := by decide +kernel
theorem dX2_at_3 : decode cX2_at 3 = .ok (.istore_n 3, 1) := by decide +kernel
theorem dX2_at_4 : decode cX2_at 4 = .ok (.iload_n 3, 1) := by decide +kernel
theorem dX2_at_5 : decode cX2_at 5 = .ok (.aload_n 0, 1) := by decide +kernel
theorem dX2_at_6 : decode cX2_at 6 = .ok (.getfield 9, 3) := by decide +kernel
theorem dX2_at_9 : decode cX2_at 9 = .ok (.if_icmp .ge 26, 3) := by decide +kernel
theorem dX2_at_12 : decode cX2_at 12 = .ok (.iload_n 2, 1) := by decide +kernel
theorem dX2_at_13 : decode cX2_at 13 = .ok (.aload_n 0, 1) := by decide +kernel
theorem dX2_at_14 : decode cX2_at 14 = .ok (.iload_n 3, 1) := by decide +kernel
theorem dX2_at_15 : decode cX2_at 15 = .ok (.iload_n 1, 1) := by decide +kernel
theorem dX2_at_16 : decode cX2_at 16 = .ok (.invokevirtual 31, 3) := by decide +kernel
theorem dX2_at_19 : decode cX2_at 19 = .ok (.ifCond .eq 7, 3) := by decide +kernel
theorem dX2_at_22 : decode cX2_at 22 = .ok (.iconst 1, 1) := by decide +kernel
theorem dX2_at_23 : decode cX2_at 23 = .ok (.goto 4, 3) := by decide +kernel
theorem dX2_at_26 : decode cX2_at 26 = .ok (.iconst 0, 1) := by decide +kernel
theorem dX2_at_27 : decode cX2_at 27 = .ok (.iadd, 1) := by decide +kernel
theorem dX2_at_28 : decode cX2_at 28 = .ok (.istore_n 2, 1) := by decide +kernel
theorem dX2_at_29 : decode cX2_at 29 = .ok (.iinc 3 1, 3) := by decide +kernel
theorem dX2_at_32 : decode cX2_at 32 = .ok (.goto (-28), 3) := by decide +kernel
theorem dX2_at_35 : decode cX2_at 35 = .ok (.iload_n 2, 1) := by decide +kernel
theorem dX2_at_36 : decode cX2_at 36 = .ok (.ireturn, 1) := by decide +kernel
theorem dX2_hasLockAt_0 : decode cX2_hasLockAt 0 = .ok (.iconst 0, 1) := by decide +kernel
theorem dX2_hasLockAt_1 : decode cX2_hasLockAt 1 = .ok (.istore_n 3, 1) := by decide +kernel
theorem dX2_hasLockAt_2 : decode cX2_hasLockAt 2 = .ok (.iload_n 3, 1) := by decide +kernel
theorem dX2_hasLockAt_3 : decode cX2_hasLockAt 3 = .ok (.aload_n 0, 1) := by decide +kernel
theorem dX2_hasLockAt_4 : decode cX2_hasLockAt 4 = .ok (.getfield 9, 3) := by decide +kernel
theorem dX2_hasLockAt_7 : decode cX2_hasLockAt 7 = .ok (.if_icmp .ge 30, 3) := by decide +kernel
theorem dX2_hasLockAt_10 : decode cX2_hasLockAt 10 = .ok (.aload_n 0, 1) := by decide +kernel
theorem dX2_hasLockAt_11 : decode cX2_hasLockAt 11 = .ok (.iload_n 3, 1) := by decide +kernel
theorem dX2_hasLockAt_12 : decode cX2_hasLockAt 12 = .ok (.iload_n 1, 1) := by decide +kernel
theorem dX2_hasLockAt_13 : decode cX2_hasLockAt 13 = .ok (.invokevirtual 31, 3) := by decide +kernel
theorem dX2_hasLockAt_16 : decode cX2_hasLockAt 16 = .ok (.ifCond .eq 15, 3) := by decide +kernel
theorem dX2_hasLockAt_19 : decode cX2_hasLockAt 19 = .ok (.aload_n 0, 1) := by decide +kernel
theorem dX2_hasLockAt_20 : decode cX2_hasLockAt 20 = .ok (.getfield 22, 3) := by decide +kernel
theorem dX2_hasLockAt_23 : decode cX2_hasLockAt 23 = .ok (.iload_n 3, 1) := by decide +kernel
theorem dX2_hasLockAt_24 : decode cX2_hasLockAt 24 = .ok (.iaload, 1) := by decide +kernel
theorem dX2_hasLockAt_25 : decode cX2_hasLockAt 25 = .ok (.iload_n 2, 1) := by decide +kernel
theorem dX2_hasLockAt_26 : decode cX2_hasLockAt 26 = .ok (.if_icmp .ne 5, 3) := by decide +kernel
theorem dX2_hasLockAt_29 : decode cX2_hasLockAt 29 = .ok (.iconst 1, 1) := by decide +kernel
theorem dX2_hasLockAt_30 : decode cX2_hasLockAt 30 = .ok (.ireturn, 1) := by decide +kernel
theorem dX2_hasLockAt_31 : decode cX2_hasLockAt 31 = .ok (.iinc 3 1, 3) := by decide +kernel
theorem dX2_hasLockAt_34 : decode cX2_hasLockAt 34 = .ok (.goto (-32), 3) := by decide +kernel
theorem dX2_hasLockAt_37 : decode cX2_hasLockAt 37 = .ok (.iconst 0, 1) := by decide +kernel
theorem dX2_hasLockAt_38 : decode cX2_hasLockAt 38 = .ok (.ireturn, 1) := by decide +kernel
theorem dX2_canPass_0 : decode cX2_canPass 0 = .ok (.iload_n 1, 1) := by decide +kernel
theorem dX2_canPass_1 : decode cX2_canPass 1 = .ok (.ifCond .lt 11, 3) := by decide +kernel
theorem dX2_canPass_4 : decode cX2_canPass 4 = .ok (.iload_n 1, 1) := by decide +kernel
theorem dX2_canPass_5 : decode cX2_canPass 5 = .ok (.aload_n 0, 1) := by decide +kernel
theorem dX2_canPass_6 : decode cX2_canPass 6 = .ok (.getfield 9, 3) := by decide +kernel
theorem dX2_canPass_9 : decode cX2_canPass 9 = .ok (.if_icmp .lt 9, 3) := by decide +kernel
theorem dX2_canPass_12 : decode cX2_canPass 12 = .ok (.iload_n 1, 1) := by decide +kernel
theorem dX2_canPass_13 : decode cX2_canPass 13 = .ok (.bipush 16, 2) := by decide +kernel
theorem dX2_canPass_15 : decode cX2_canPass 15 = .ok (.if_icmp .ne 7, 3) := by decide +kernel
theorem dX2_canPass_18 : decode cX2_canPass 18 = .ok (.iconst 1, 1) := by decide +kernel
theorem dX2_canPass_19 : decode cX2_canPass 19 = .ok (.goto 4, 3) := by decide +kernel
theorem dX2_canPass_22 : decode cX2_canPass 22 = .ok (.iconst 0, 1) := by decide +kernel
theorem dX2_canPass_23 : decode cX2_canPass 23 = .ok (.istore_n 3, 1) := by decide +kernel
theorem dX2_canPass_24 : decode cX2_canPass 24 = .ok (.iload_n 3, 1) := by decide +kernel
theorem dX2_canPass_25 : decode cX2_canPass 25 = .ok (.ifCond .eq 31, 3) := by decide +kernel
theorem dX2_canPass_28 : decode cX2_canPass 28 = .ok (.aload_n 0, 1) := by decide +kernel
theorem dX2_canPass_29 : decode cX2_canPass 29 = .ok (.getfield 22, 3) := by decide +kernel
theorem dX2_canPass_32 : decode cX2_canPass 32 = .ok (.iload_n 1, 1) := by decide +kernel
theorem dX2_canPass_33 : decode cX2_canPass 33 = .ok (.iaload, 1) := by decide +kernel
theorem dX2_canPass_34 : decode cX2_canPass 34 = .ok (.bipush 8, 2) := by decide +kernel
theorem dX2_canPass_36 : decode cX2_canPass 36 = .ok (.if_icmp .eq 16, 3) := by decide +kernel
theorem dX2_canPass_39 : decode cX2_canPass 39 = .ok (.iload_n 2, 1) := by decide +kernel
theorem dX2_canPass_40 : decode cX2_canPass 40 = .ok (.aload_n 0, 1) := by decide +kernel
theorem dX2_canPass_41 : decode cX2_canPass 41 = .ok (.getfield 22, 3) := by decide +kernel
theorem dX2_canPass_44 : decode cX2_canPass 44 = .ok (.iload_n 1, 1) := by decide +kernel
theorem dX2_canPass_45 : decode cX2_canPass 45 = .ok (.iaload, 1) := by decide +kernel
theorem dX2_canPass_46 : decode cX2_canPass 46 = .ok (.ishr, 1) := by decide +kernel
theorem dX2_canPass_47 : decode cX2_canPass 47 = .ok (.iconst 1, 1) := by decide +kernel
theorem dX2_canPass_48 : decode cX2_canPass 48 = .ok (.iand, 1) := by decide +kernel
theorem dX2_canPass_49 : decode cX2_canPass 49 = .ok (.ifCond .eq 7, 3) := by decide +kernel
theorem dX2_canPass_52 : decode cX2_canPass 52 = .ok (.iconst 1, 1) := by decide +kernel
theorem dX2_canPass_53 : decode cX2_canPass 53 = .ok (.goto 4, 3) := by decide +kernel
theorem dX2_canPass_56 : decode cX2_canPass 56 = .ok (.iconst 0, 1) := by decide +kernel
theorem dX2_canPass_57 : decode cX2_canPass 57 = .ok (.ireturn, 1) := by decide +kernel
theorem dX3_init_0 : decode cX3_init 0 = .ok (.aload_n 0, 1) := by decide +kernel
theorem dX3_init_1 : decode cX3_init 1 = .ok (.invokespecial 3, 3) := by decide +kernel
theorem dX3_init_4 : decode cX3_init 4 = .ok (.aload_n 0, 1) := by decide +kernel
theorem dX3_init_5 : decode cX3_init 5 = .ok (.iconst 0, 1) := by decide +kernel
theorem dX3_init_6 : decode cX3_init 6 = .ok (.putfield 9, 3) := by decide +kernel
theorem dX3_init_9 : decode cX3_init 9 = .ok (.aload_n 0, 1) := by decide +kernel
theorem dX3_init_10 : decode cX3_init 10 = .ok (.bipush 8, 2) := by decide +kernel
theorem dX3_init_12 : decode cX3_init 12 = .ok (.newarray .int, 2) := by decide +kernel
theorem dX3_init_14 : decode cX3_init 14 = .ok (.putfield 15, 3) := by decide +kernel
theorem dX3_init_17 : decode cX3_init 17 = .ok (.aload_n 0, 1) := by decide +kernel
theorem dX3_init_18 : decode cX3_init 18 = .ok (.bipush 8, 2) := by decide +kernel
theorem dX3_init_20 : decode cX3_init 20 = .ok (.newarray .int, 2) := by decide +kernel
theorem dX3_init_22 : decode cX3_init 22 = .ok (.putfield 19, 3) := by decide +kernel
theorem dX3_init_25 : decode cX3_init 25 = .ok (.aload_n 0, 1) := by decide +kernel
theorem dX3_init_26 : decode cX3_init 26 = .ok (.bipush 8, 2) := by decide +kernel
theorem dX3_init_28 : decode cX3_init 28 = .ok (.newarray .int, 2) := by decide +kernel
theorem dX3_init_30 : decode cX3_init 30 = .ok (.putfield 22, 3) := by decide +kernel
theorem dX3_init_33 : decode cX3_init 33 = .ok (.aload_n 0, 1) := by decide +kernel
theorem dX3_init_34 : decode cX3_init 34 = .ok (.bipush 8, 2) := by decide +kernel
theorem dX3_init_36 : decode cX3_init 36 = .ok (.newarray .int, 2) := by decide +kernel
theorem dX3_init_38 : decode cX3_init 38 = .ok (.putfield 25, 3) := by decide +kernel
theorem dX3_init_41 : decode cX3_init 41 = .ok (.aload_n 0, 1) := by decide +kernel
theorem dX3_init_42 : decode cX3_init 42 = .ok (.bipush 8, 2) := by decide +kernel
theorem dX3_init_44 : decode cX3_init 44 = .ok (.newarray .int, 2) := by decide +kernel
theorem dX3_init_46 : decode cX3_init 46 = .ok (.putfield 28, 3) := by decide +kernel
theorem dX3_init_49 : decode cX3_init 49 = .ok (.return_, 1) := by decide +kernel
theorem dX3_has_0 : decode cX3_has 0 = .ok (.iload_n 1, 1) := by decide +kernel
theorem dX3_has_1 : decode cX3_has 1 = .ok (.ifCond .lt 15, 3) := by decide +kernel
theorem dX3_has_4 : decode cX3_has 4 = .ok (.iload_n 1, 1) := by decide +kernel
theorem dX3_has_5 : decode cX3_has 5 = .ok (.aload_n 0, 1) := by decide +kernel
theorem dX3_has_6 : decode cX3_has 6 = .ok (.getfield 9, 3) := by decide +kernel
theorem dX3_has_9 : decode cX3_has 9 = .ok (.if_icmp .ge 7, 3) := by decide +kernel
theorem dX3_has_12 : decode cX3_has 12 = .ok (.iconst 1, 1) := by decide +kernel
theorem dX3_has_13 : decode cX3_has 13 = .ok (.goto 4, 3) := by decide +kernel
theorem dX3_has_16 : decode cX3_has 16 = .ok (.iconst 0, 1) := by decide +kernel
theorem dX3_has_17 : decode cX3_has 17 = .ok (.ireturn, 1) := by decide +kernel
theorem dX3_add_0 : decode cX3_add 0 = .ok (.aload_n 0, 1) := by decide +kernel
theorem dX3_add_1 : decode cX3_add 1 = .ok (.getfield 9, 3) := by decide +kernel
theorem dX3_add_4 : decode cX3_add 4 = .ok (.bipush 8, 2) := by decide +kernel
theorem dX3_add_6 : decode cX3_add 6 = .ok (.if_icmp .lt 6, 3) := by decide +kernel
theorem dX3_add_9 : decode cX3_add 9 = .ok (.bipush (-3), 2) := by decide +kernel
theorem dX3_add_11 : decode cX3_add 11 = .ok (.ireturn, 1) := by decide +kernel
theorem dX3_add_12 : decode cX3_add 12 = .ok (.aload_n 0, 1) := by decide +kernel
theorem dX3_add_13 : decode cX3_add 13 = .ok (.getfield 15, 3) := by decide +kernel
theorem dX3_add_16 : decode cX3_add 16 = .ok (.aload_n 0, 1) := by decide +kernel
theorem dX3_add_17 : decode cX3_add 17 = .ok (.getfield 9, 3) := by decide +kernel
theorem dX3_add_20 : decode cX3_add 20 = .ok (.iload_n 1, 1) := by decide +kernel
theorem dX3_add_21 : decode cX3_add 21 = .ok (.iastore, 1) := by decide +kernel
theorem dX3_add_22 : decode cX3_add 22 = .ok (.aload_n 0, 1) := by decide +kernel
theorem dX3_add_23 : decode cX3_add 23 = .ok (.getfield 19, 3) := by decide +kernel
theorem dX3_add_26 : decode cX3_add 26 = .ok (.aload_n 0, 1) := by decide +kernel
theorem dX3_add_27 : decode cX3_add 27 = .ok (.getfield 9, 3) := by decide +kernel
theorem dX3_add_30 : decode cX3_add 30 = .ok (.iload_n 2, 1) := by decide +kernel
theorem dX3_add_31 : decode cX3_add 31 = .ok (.iastore, 1) := by decide +kernel
theorem dX3_add_32 : decode cX3_add 32 = .ok (.aload_n 0, 1) := by decide +kernel
theorem dX3_add_33 : decode cX3_add 33 = .ok (.getfield 22, 3) := by decide +kernel
theorem dX3_add_36 : decode cX3_add 36 = .ok (.aload_n 0, 1) := by decide +kernel
theorem dX3_add_37 : decode cX3_add 37 = .ok (.getfield 9, 3) := by decide +kernel
theorem dX3_add_40 : decode cX3_add 40 = .ok (.iconst 4, 1) := by decide +kernel
theorem dX3_add_41 : decode cX3_add 41 = .ok (.iastore, 1) := by decide +kernel
theorem dX3_add_42 : decode cX3_add 42 = .ok (.aload_n 0, 1) := by decide +kernel
theorem dX3_add_43 : decode cX3_add 43 = .ok (.getfield 25, 3) := by decide +kernel
theorem dX3_add_46 : decode cX3_add 46 = .ok (.aload_n 0, 1) := by decide +kernel
theorem dX3_add_47 : decode cX3_add 47 = .ok (.getfield 9, 3) := by decide +kernel
theorem dX3_add_50 : decode cX3_add 50 = .ok (.iconst 0, 1) := by decide +kernel
theorem dX3_add_51 : decode cX3_add 51 = .ok (.iastore, 1) := by decide +kernel
theorem dX3_add_52 : decode cX3_add 52 = .ok (.aload_n 0, 1) := by decide +kernel
theorem dX3_add_53 : decode cX3_add 53 = .ok (.getfield 28, 3) := by decide +kernel
theorem dX3_add_56 : decode cX3_add 56 = .ok (.aload_n 0, 1) := by decide +kernel
theorem dX3_add_57 : decode cX3_add 57 = .ok (.getfield 9, 3) := by decide +kernel
theorem dX3_add_60 : decode cX3_add 60 = .ok (.iconst 0, 1) := by decide +kernel
theorem dX3_add_61 : decode cX3_add 61 = .ok (.iastore, 1) := by decide +kernel
theorem dX3_add_62 : decode cX3_add 62 = .ok (.aload_n 0, 1) := by decide +kernel
theorem dX3_add_63 : decode cX3_add 63 = .ok (.dup, 1) := by decide +kernel
theorem dX3_add_64 : decode cX3_add 64 = .ok (.getfield 9, 3) := by decide +kernel
theorem dX3_add_67 : decode cX3_add 67 = .ok (.iconst 1, 1) := by decide +kernel
theorem dX3_add_68 : decode cX3_add 68 = .ok (.iadd, 1) := by decide +kernel
theorem dX3_add_69 : decode cX3_add 69 = .ok (.putfield 9, 3) := by decide +kernel
theorem dX3_add_72 : decode cX3_add 72 = .ok (.aload_n 0, 1) := by decide +kernel
theorem dX3_add_73 : decode cX3_add 73 = .ok (.getfield 9, 3) := by decide +kernel
theorem dX3_add_76 : decode cX3_add 76 = .ok (.iconst 1, 1) := by decide +kernel
theorem dX3_add_77 : decode cX3_add 77 = .ok (.isub, 1) := by decide +kernel
theorem dX3_add_78 : decode cX3_add 78 = .ok (.ireturn, 1) := by decide +kernel
theorem dX3_becomeLike_0 : decode cX3_becomeLike 0 = .ok (.aload_n 0, 1) := by decide +kernel
theorem dX3_becomeLike_1 : decode cX3_becomeLike 1 = .ok (.aload_n 1, 1) := by decide +kernel
theorem dX3_becomeLike_2 : decode cX3_becomeLike 2 = .ok (.getfield 9, 3) := by decide +kernel
theorem dX3_becomeLike_5 : decode cX3_becomeLike 5 = .ok (.putfield 9, 3) := by decide +kernel
theorem dX3_becomeLike_8 : decode cX3_becomeLike 8 = .ok (.aload_n 1, 1) := by decide +kernel
theorem dX3_becomeLike_9 : decode cX3_becomeLike 9 = .ok (.getfield 15, 3) := by decide +kernel
theorem dX3_becomeLike_12 : decode cX3_becomeLike 12 = .ok (.iconst 0, 1) := by decide +kernel
theorem dX3_becomeLike_13 : decode cX3_becomeLike 13 = .ok (.aload_n 0, 1) := by decide +kernel
theorem dX3_becomeLike_14 : decode cX3_becomeLike 14 = .ok (.getfield 15, 3) := by decide +kernel
theorem dX3_becomeLike_17 : decode cX3_becomeLike 17 = .ok (.iconst 0, 1) := by decide +kernel
theorem dX3_becomeLike_18 : decode cX3_becomeLike 18 = .ok (.bipush 8, 2) := by decide +kernel
theorem dX3_becomeLike_20 : decode cX3_becomeLike 20 = .ok (.invokestatic 31, 3) := by decide +kernel
theorem dX3_becomeLike_23 : decode cX3_becomeLike 23 = .ok (.aload_n 1, 1) := by decide +kernel
theorem dX3_becomeLike_24 : decode cX3_becomeLike 24 = .ok (.getfield 19, 3) := by decide +kernel
theorem dX3_becomeLike_27 : decode cX3_becomeLike 27 = .ok (.iconst 0, 1) := by decide +kernel
theorem dX3_becomeLike_28 : decode cX3_becomeLike 28 = .ok (.aload_n 0, 1) := by decide +kernel
theorem dX3_becomeLike_29 : decode cX3_becomeLike 29 = .ok (.getfield 19, 3) := by decide +kernel
theorem dX3_becomeLike_32 : decode cX3_becomeLike 32 = .ok (.iconst 0, 1) := by decide +kernel
theorem dX3_becomeLike_33 : decode cX3_becomeLike 33 = .ok (.bipush 8, 2) := by decide +kernel
theorem dX3_becomeLike_35 : decode cX3_becomeLike 35 = .ok (.invokestatic 31, 3) := by decide +kernel
theorem dX3_becomeLike_38 : decode cX3_becomeLike 38 = .ok (.aload_n 1, 1) := by decide +kernel
theorem dX3_becomeLike_39 : decode cX3_becomeLike 39 = .ok (.getfield 22, 3) := by decide +kernel
theorem dX3_becomeLike_42 : decode cX3_becomeLike 42 = .ok (.iconst 0, 1) := by decide +kernel
theorem dX3_becomeLike_43 : decode cX3_becomeLike 43 = .ok (.aload_n 0, 1) := by decide +kernel
theorem dX3_becomeLike_44 : decode cX3_becomeLike 44 = .ok (.getfield 22, 3) := by decide +kernel
theorem dX3_becomeLike_47 : decode cX3_becomeLike 47 = .ok (.iconst 0, 1) := by decide +kernel
theorem dX3_becomeLike_48 : decode cX3_becomeLike 48 = .ok (.bipush 8, 2) := by decide +kernel
theorem dX3_becomeLike_50 : decode cX3_becomeLike 50 = .ok (.invokestatic 31, 3) := by decide +kernel
theorem dX3_becomeLike_53 : decode cX3_becomeLike 53 = .ok (.aload_n 1, 1) := by decide +kernel
theorem dX3_becomeLike_54 : decode cX3_becomeLike 54 = .ok (.getfield 25, 3) := by decide +kernel
theorem dX3_becomeLike_57 : decode cX3_becomeLike 57 = .ok (.iconst 0, 1) := by decide +kernel
theorem dX3_becomeLike_58 : decode cX3_becomeLike 58 = .ok (.aload_n 0, 1) := by decide +kernel
theorem dX3_becomeLike_59 : decode cX3_becomeLike 59 = .ok (.getfield 25, 3) := by decide +kernel
theorem dX3_becomeLike_62 : decode cX3_becomeLike 62 = .ok (.iconst 0, 1) := by decide +kernel
theorem dX3_becomeLike_63 : decode cX3_becomeLike 63 = .ok (.bipush 8, 2) := by decide +kernel
theorem dX3_becomeLike_65 : decode cX3_becomeLike 65 = .ok (.invokestatic 31, 3) := by decide +kernel
theorem dX3_becomeLike_68 : decode cX3_becomeLike 68 = .ok (.aload_n 1, 1) := by decide +kernel
theorem dX3_becomeLike_69 : decode cX3_becomeLike 69 = .ok (.getfield 28, 3) := by decide +kernel
theorem dX3_becomeLike_72 : decode cX3_becomeLike 72 = .ok (.iconst 0, 1) := by decide +kernel
theorem dX3_becomeLike_73 : decode cX3_becomeLike 73 = .ok (.aload_n 0, 1) := by decide +kernel
theorem dX3_becomeLike_74 : decode cX3_becomeLike 74 = .ok (.getfield 28, 3) := by decide +kernel
theorem dX3_becomeLike_77 : decode cX3_becomeLike 77 = .ok (.iconst 0, 1) := by decide +kernel
theorem dX3_becomeLike_78 : decode cX3_becomeLike 78 = .ok (.bipush 8, 2) := by decide +kernel
theorem dX3_becomeLike_80 : decode cX3_becomeLike 80 = .ok (.invokestatic 31, 3) := by decide +kernel
theorem dX3_becomeLike_83 : decode cX3_becomeLike 83 = .ok (.return_, 1) := by decide +kernel
theorem dX3_ring_0 : decode cX3_ring 0 = .ok (.iconst 0, 1) := by decide +kernel
theorem dX3_ring_1 : decode cX3_ring 1 = .ok (.istore_n 3, 1) := by decide +kernel
theorem dX3_ring_2 : decode cX3_ring 2 = .ok (.iconst 0, 1) := by decide +kernel
theorem dX3_ring_3 : decode cX3_ring 3 = .ok (.istore 4, 2) := by decide +kernel
theorem dX3_ring_5 : decode cX3_ring 5 = .ok (.iload 4, 2) := by decide +kernel
theorem dX3_ring_7 : decode cX3_ring 7 = .ok (.aload_n 0, 1) := by decide +kernel
theorem dX3_ring_8 : decode cX3_ring 8 = .ok (.getfield 9, 3) := by decide +kernel
theorem dX3_ring_11 : decode cX3_ring 11 = .ok (.if_icmp .ge 42, 3) := by decide +kernel
theorem dX3_ring_14 : decode cX3_ring 14 = .ok (.aload_n 0, 1) := by decide +kernel
theorem dX3_ring_15 : decode cX3_ring 15 = .ok (.getfield 22, 3) := by decide +kernel
theorem dX3_ring_18 : decode cX3_ring 18 = .ok (.iload 4, 2) := by decide +kernel
theorem dX3_ring_20 : decode cX3_ring 20 = .ok (.iaload, 1) := by decide +kernel
theorem dX3_ring_21 : decode cX3_ring 21 = .ok (.iload_n 1, 1) := by decide +kernel
theorem dX3_ring_22 : decode cX3_ring 22 = .ok (.if_icmp .ne 25, 3) := by decide +kernel
theorem dX3_ring_25 : decode cX3_ring 25 = .ok (.iload_n 2, 1) := by decide +kernel
theorem dX3_ring_26 : decode cX3_ring 26 = .ok (.ifCond .eq 14, 3) := by decide +kernel
theorem dX3_ring_29 : decode cX3_ring 29 = .ok (.aload_n 0, 1) := by decide +kernel
theorem dX3_ring_30 : decode cX3_ring 30 = .ok (.getfield 19, 3) := by decide +kernel
theorem dX3_ring_33 : decode cX3_ring 33 = .ok (.iload 4, 2) := by decide +kernel
theorem dX3_ring_35 : decode cX3_ring 35 = .ok (.iaload, 1) := by decide +kernel
theorem dX3_ring_36 : decode cX3_ring 36 = .ok (.iconst 1, 1) := by decide +kernel
theorem dX3_ring_37 : decode cX3_ring 37 = .ok (.if_icmp .eq 10, 3) := by decide +kernel
theorem dX3_ring_40 : decode cX3_ring 40 = .ok (.iload_n 3, 1) := by decide +kernel
theorem dX3_ring_41 : decode cX3_ring 41 = .ok (.iconst 1, 1) := by decide +kernel
theorem dX3_ring_42 : decode cX3_ring 42 = .ok (.iload 4, 2) := by decide +kernel
theorem dX3_ring_44 : decode cX3_ring 44 = .ok (.ishl, 1) := by decide +kernel
theorem dX3_ring_45 : decode cX3_ring 45 = .ok (.ior, 1) := by decide +kernel
theorem dX3_ring_46 : decode cX3_ring 46 = .ok (.istore_n 3, 1) := by decide +kernel
theorem dX3_ring_47 : decode cX3_ring 47 = .ok (.iinc 4 1, 3) := by decide +kernel
theorem dX3_ring_50 : decode cX3_ring 50 = .ok (.goto (-45), 3) := by decide +kernel
theorem dX3_ring_53 : decode cX3_ring 53 = .ok (.iload_n 3, 1) := by decide +kernel
theorem dX3_ring_54 : decode cX3_ring 54 = .ok (.ireturn, 1) := by decide +kernel
theorem dX3_stain_0 : decode cX3_stain 0 = .ok (.iconst 0, 1) := by decide +kernel
theorem dX3_stain_1 : decode cX3_stain 1 = .ok (.istore 4, 2) := by decide +kernel
theorem dX3_stain_3 : decode cX3_stain 3 = .ok (.iload 4, 2) := by decide +kernel
theorem dX3_stain_5 : decode cX3_stain 5 = .ok (.aload_n 0, 1) := by decide +kernel
theorem dX3_stain_6 : decode cX3_stain 6 = .ok (.getfield 9, 3) := by decide +kernel
theorem dX3_stain_9 : decode cX3_stain 9 = .ok (.if_icmp .ge 56, 3) := by decide +kernel
theorem dX3_stain_12 : decode cX3_stain 12 = .ok (.iload_n 1, 1) := by decide +kernel
theorem dX3_stain_13 : decode cX3_stain 13 = .ok (.iload 4, 2) := by decide +kernel
theorem dX3_stain_15 : decode cX3_stain 15 = .ok (.ishr, 1) := by decide +kernel
theorem dX3_stain_16 : decode cX3_stain 16 = .ok (.iconst 1, 1) := by decide +kernel
theorem dX3_stain_17 : decode cX3_stain 17 = .ok (.iand, 1) := by decide +kernel
theorem dX3_stain_18 : decode cX3_stain 18 = .ok (.ifCond .eq 41, 3) := by decide +kernel
theorem dX3_stain_21 : decode cX3_stain 21 = .ok (.aload_n 0, 1) := by decide +kernel
theorem dX3_stain_22 : decode cX3_stain 22 = .ok (.getfield 19, 3) := by decide +kernel
theorem dX3_stain_25 : decode cX3_stain 25 = .ok (.iload 4, 2) := by decide +kernel
theorem dX3_stain_27 : decode cX3_stain 27 = .ok (.iaload, 1) := by decide +kernel
theorem dX3_stain_28 : decode cX3_stain 28 = .ok (.iconst 1, 1) := by decide +kernel
theorem dX3_stain_29 : decode cX3_stain 29 = .ok (.if_icmp .ne 30, 3) := by decide +kernel
theorem dX3_stain_32 : decode cX3_stain 32 = .ok (.aload_n 0, 1) := by decide +kernel
theorem dX3_stain_33 : decode cX3_stain 33 = .ok (.getfield 25, 3) := by decide +kernel
theorem dX3_stain_36 : decode cX3_stain 36 = .ok (.iload 4, 2) := by decide +kernel
theorem dX3_stain_38 : decode cX3_stain 38 = .ok (.iaload, 1) := by decide +kernel
theorem dX3_stain_39 : decode cX3_stain 39 = .ok (.iload_n 2, 1) := by decide +kernel
theorem dX3_stain_40 : decode cX3_stain 40 = .ok (.if_icmp .ge 19, 3) := by decide +kernel
theorem dX3_stain_43 : decode cX3_stain 43 = .ok (.aload_n 0, 1) := by decide +kernel
theorem dX3_stain_44 : decode cX3_stain 44 = .ok (.getfield 25, 3) := by decide +kernel
theorem dX3_stain_47 : decode cX3_stain 47 = .ok (.iload 4, 2) := by decide +kernel
theorem dX3_stain_49 : decode cX3_stain 49 = .ok (.iload_n 2, 1) := by decide +kernel
theorem dX3_stain_50 : decode cX3_stain 50 = .ok (.iastore, 1) := by decide +kernel
theorem dX3_stain_51 : decode cX3_stain 51 = .ok (.aload_n 0, 1) := by decide +kernel
theorem dX3_stain_52 : decode cX3_stain 52 = .ok (.getfield 28, 3) := by decide +kernel
theorem dX3_stain_55 : decode cX3_stain 55 = .ok (.iload 4, 2) := by decide +kernel
theorem dX3_stain_57 : decode cX3_stain 57 = .ok (.iload_n 3, 1) := by decide +kernel
theorem dX3_stain_58 : decode cX3_stain 58 = .ok (.iastore, 1) := by decide +kernel
theorem dX3_stain_59 : decode cX3_stain 59 = .ok (.iinc 4 1, 3) := by decide +kernel
theorem dX3_stain_62 : decode cX3_stain 62 = .ok (.goto (-59), 3) := by decide +kernel
theorem dX3_stain_65 : decode cX3_stain 65 = .ok (.return_, 1) := by decide +kernel
theorem dX3_halve_0 : decode cX3_halve 0 = .ok (.aload_n 0, 1) := by decide +kernel
theorem dX3_halve_1 : decode cX3_halve 1 = .ok (.getfield 25, 3) := by decide +kernel
theorem dX3_halve_4 : decode cX3_halve 4 = .ok (.iload_n 1, 1) := by decide +kernel
theorem dX3_halve_5 : decode cX3_halve 5 = .ok (.aload_n 0, 1) := by decide +kernel
theorem dX3_halve_6 : decode cX3_halve 6 = .ok (.getfield 25, 3) := by decide +kernel
theorem dX3_halve_9 : decode cX3_halve 9 = .ok (.iload_n 1, 1) := by decide +kernel
theorem dX3_halve_10 : decode cX3_halve 10 = .ok (.iaload, 1) := by decide +kernel
theorem dX3_halve_11 : decode cX3_halve 11 = .ok (.iconst 2, 1) := by decide +kernel
theorem dX3_halve_12 : decode cX3_halve 12 = .ok (.idiv, 1) := by decide +kernel
theorem dX3_halve_13 : decode cX3_halve 13 = .ok (.iastore, 1) := by decide +kernel
theorem dX3_halve_14 : decode cX3_halve 14 = .ok (.aload_n 0, 1) := by decide +kernel
theorem dX3_halve_15 : decode cX3_halve 15 = .ok (.getfield 25, 3) := by decide +kernel
theorem dX3_halve_18 : decode cX3_halve 18 = .ok (.iload_n 1, 1) := by decide +kernel
theorem dX3_halve_19 : decode cX3_halve 19 = .ok (.iaload, 1) := by decide +kernel
theorem dX3_halve_20 : decode cX3_halve 20 = .ok (.ifCond .ne 10, 3) := by decide +kernel
theorem dX3_halve_23 : decode cX3_halve 23 = .ok (.aload_n 0, 1) := by decide +kernel
theorem dX3_halve_24 : decode cX3_halve 24 = .ok (.getfield 28, 3) := by decide +kernel
theorem dX3_halve_27 : decode cX3_halve 27 = .ok (.iload_n 1, 1) := by decide +kernel
theorem dX3_halve_28 : decode cX3_halve 28 = .ok (.iconst 0, 1) := by decide +kernel
theorem dX3_halve_29 : decode cX3_halve 29 = .ok (.iastore, 1) := by decide +kernel
theorem dX3_halve_30 : decode cX3_halve 30 = .ok (.return_, 1) := by decide +kernel
theorem dX3_stained_0 : decode cX3_stained 0 = .ok (.iconst 0, 1) := by decide +kernel
theorem dX3_stained_1 : decode cX3_stained 1 = .ok (.istore_n 1, 1) := by decide +kernel
theorem dX3_stained_2 : decode cX3_stained 2 = .ok (.iconst 0, 1) := by decide +kernel
theorem dX3_stained_3 : decode cX3_stained 3 = .ok (.istore_n 2, 1) := by decide +kernel
theorem dX3_stained_4 : decode cX3_stained 4 = .ok (.iload_n 2, 1) := by decide +kernel
theorem dX3_stained_5 : decode cX3_stained 5 = .ok (.aload_n 0, 1) := by decide +kernel
theorem dX3_stained_6 : decode cX3_stained 6 = .ok (.getfield 9, 3) := by decide +kernel
theorem dX3_stained_9 : decode cX3_stained 9 = .ok (.if_icmp .ge 26, 3) := by decide +kernel
theorem dX3_stained_12 : decode cX3_stained 12 = .ok (.iload_n 1, 1) := by decide +kernel
theorem dX3_stained_13 : decode cX3_stained 13 = .ok (.aload_n 0, 1) := by decide +kernel
theorem dX3_stained_14 : decode cX3_stained 14 = .ok (.getfield 25, 3) := by decide +kernel
theorem dX3_stained_17 : decode cX3_stained 17 = .ok (.iload_n 2, 1) := by decide +kernel
theorem dX3_stained_18 : decode cX3_stained 18 = .ok (.iaload, 1) := by decide +kernel
theorem dX3_stained_19 : decode cX3_stained 19 = .ok (.ifCond .le 7, 3) := by decide +kernel
theorem dX3_stained_22 : decode cX3_stained 22 = .ok (.iconst 1, 1) := by decide +kernel
theorem dX3_stained_23 : decode cX3_stained 23 = .ok (.goto 4, 3) := by decide +kernel
theorem dX3_stained_26 : decode cX3_stained 26 = .ok (.iconst 0, 1) := by decide +kernel
theorem dX3_stained_27 : decode cX3_stained 27 = .ok (.iadd, 1) := by decide +kernel
theorem dX3_stained_28 : decode cX3_stained 28 = .ok (.istore_n 1, 1) := by decide +kernel
theorem dX3_stained_29 : decode cX3_stained 29 = .ok (.iinc 2 1, 3) := by decide +kernel
theorem dX3_stained_32 : decode cX3_stained 32 = .ok (.goto (-28), 3) := by decide +kernel
theorem dX3_stained_35 : decode cX3_stained 35 = .ok (.iload_n 1, 1) := by decide +kernel
theorem dX3_stained_36 : decode cX3_stained 36 = .ok (.ireturn, 1) := by decide +kernel
theorem dX3_showing_0 : decode cX3_showing 0 = .ok (.iconst 0, 1) := by decide +kernel
theorem dX3_showing_1 : decode cX3_showing 1 = .ok (.istore_n 2, 1) := by decide +kernel
theorem dX3_showing_2 : decode cX3_showing 2 = .ok (.iconst 0, 1) := by decide +kernel
theorem dX3_showing_3 : decode cX3_showing 3 = .ok (.istore_n 3, 1) := by decide +kernel
theorem dX3_showing_4 : decode cX3_showing 4 = .ok (.iload_n 3, 1) := by decide +kernel
theorem dX3_showing_5 : decode cX3_showing 5 = .ok (.aload_n 0, 1) := by decide +kernel
theorem dX3_showing_6 : decode cX3_showing 6 = .ok (.getfield 9, 3) := by decide +kernel
theorem dX3_showing_9 : decode cX3_showing 9 = .ok (.if_icmp .ge 26, 3) := by decide +kernel
theorem dX3_showing_12 : decode cX3_showing 12 = .ok (.iload_n 2, 1) := by decide +kernel
theorem dX3_showing_13 : decode cX3_showing 13 = .ok (.aload_n 0, 1) := by decide +kernel
theorem dX3_showing_14 : decode cX3_showing 14 = .ok (.iload_n 3, 1) := by decide +kernel
theorem dX3_showing_15 : decode cX3_showing 15 = .ok (.iload_n 1, 1) := by decide +kernel
theorem dX3_showing_16 : decode cX3_showing 16 = .ok (.invokevirtual 37, 3) := by decide +kernel
theorem dX3_showing_19 : decode cX3_showing 19 = .ok (.ifCond .le 7, 3) := by decide +kernel
theorem dX3_showing_22 : decode cX3_showing 22 = .ok (.iconst 1, 1) := by decide +kernel
theorem dX3_showing_23 : decode cX3_showing 23 = .ok (.goto 4, 3) := by decide +kernel
theorem dX3_showing_26 : decode cX3_showing 26 = .ok (.iconst 0, 1) := by decide +kernel
theorem dX3_showing_27 : decode cX3_showing 27 = .ok (.iadd, 1) := by decide +kernel
theorem dX3_showing_28 : decode cX3_showing 28 = .ok (.istore_n 2, 1) := by decide +kernel
theorem dX3_showing_29 : decode cX3_showing 29 = .ok (.iinc 3 1, 3) := by decide +kernel
theorem dX3_showing_32 : decode cX3_showing 32 = .ok (.goto (-28), 3) := by decide +kernel
theorem dX3_showing_35 : decode cX3_showing 35 = .ok (.iload_n 2, 1) := by decide +kernel
theorem dX3_showing_36 : decode cX3_showing 36 = .ok (.ireturn, 1) := by decide +kernel
theorem dX3_showsOn_0 : decode cX3_showsOn 0 = .ok (.aload_n 0, 1) := by decide +kernel
theorem dX3_showsOn_1 : decode cX3_showsOn 1 = .ok (.getfield 15, 3) := by decide +kernel
theorem dX3_showsOn_4 : decode cX3_showsOn 4 = .ok (.iload_n 1, 1) := by decide +kernel
theorem dX3_showsOn_5 : decode cX3_showsOn 5 = .ok (.iaload, 1) := by decide +kernel
theorem dX3_showsOn_6 : decode cX3_showsOn 6 = .ok (.aload_n 0, 1) := by decide +kernel
theorem dX3_showsOn_7 : decode cX3_showsOn 7 = .ok (.getfield 25, 3) := by decide +kernel
theorem dX3_showsOn_10 : decode cX3_showsOn 10 = .ok (.iload_n 1, 1) := by decide +kernel
theorem dX3_showsOn_11 : decode cX3_showsOn 11 = .ok (.iaload, 1) := by decide +kernel
theorem dX3_showsOn_12 : decode cX3_showsOn 12 = .ok (.iload_n 2, 1) := by decide +kernel
theorem dX3_showsOn_13 : decode cX3_showsOn 13 = .ok (.aload_n 0, 1) := by decide +kernel
theorem dX3_showsOn_14 : decode cX3_showsOn 14 = .ok (.getfield 28, 3) := by decide +kernel
theorem dX3_showsOn_17 : decode cX3_showsOn 17 = .ok (.iload_n 1, 1) := by decide +kernel
theorem dX3_showsOn_18 : decode cX3_showsOn 18 = .ok (.iaload, 1) := by decide +kernel
theorem dX3_showsOn_19 : decode cX3_showsOn 19 = .ok (.isub, 1) := by decide +kernel
theorem dX3_showsOn_20 : decode cX3_showsOn 20 = .ok (.invokestatic 41, 3) := by decide +kernel
theorem dX3_showsOn_23 : decode cX3_showsOn 23 = .ok (.ireturn, 1) := by decide +kernel
theorem dX3_shows_0 : decode cX3_shows 0 = .ok (.iload_n 2, 1) := by decide +kernel
theorem dX3_shows_1 : decode cX3_shows 1 = .ok (.istore_n 3, 1) := by decide +kernel
theorem dX3_shows_2 : decode cX3_shows 2 = .ok (.iload_n 0, 1) := by decide +kernel
theorem dX3_shows_3 : decode cX3_shows 3 = .ok (.iconst 1, 1) := by decide +kernel
theorem dX3_shows_4 : decode cX3_shows 4 = .ok (.if_icmp .eq 8, 3) := by decide +kernel
theorem dX3_shows_7 : decode cX3_shows 7 = .ok (.iload_n 0, 1) := by decide +kernel
theorem dX3_shows_8 : decode cX3_shows 8 = .ok (.iconst 3, 1) := by decide +kernel
theorem dX3_shows_9 : decode cX3_shows 9 = .ok (.if_icmp .ne 14, 3) := by decide +kernel
theorem dX3_shows_12 : decode cX3_shows 12 = .ok (.iconst 0, 1) := by decide +kernel
theorem dX3_shows_13 : decode cX3_shows 13 = .ok (.iload_n 2, 1) := by decide +kernel
theorem dX3_shows_14 : decode cX3_shows 14 = .ok (.iconst 2, 1) := by decide +kernel
theorem dX3_shows_15 : decode cX3_shows 15 = .ok (.isub, 1) := by decide +kernel
theorem dX3_shows_16 : decode cX3_shows 16 = .ok (.invokestatic 45, 3) := by decide +kernel
theorem dX3_shows_19 : decode cX3_shows 19 = .ok (.istore_n 3, 1) := by decide +kernel
theorem dX3_shows_20 : decode cX3_shows 20 = .ok (.goto 12, 3) := by decide +kernel
theorem dX3_shows_23 : decode cX3_shows 23 = .ok (.iload_n 0, 1) := by decide +kernel
theorem dX3_shows_24 : decode cX3_shows 24 = .ok (.iconst 2, 1) := by decide +kernel
theorem dX3_shows_25 : decode cX3_shows 25 = .ok (.if_icmp .ne 7, 3) := by decide +kernel
theorem dX3_shows_28 : decode cX3_shows 28 = .ok (.iconst 2, 1) := by decide +kernel
theorem dX3_shows_29 : decode cX3_shows 29 = .ok (.iload_n 2, 1) := by decide +kernel
theorem dX3_shows_30 : decode cX3_shows 30 = .ok (.imul, 1) := by decide +kernel
theorem dX3_shows_31 : decode cX3_shows 31 = .ok (.istore_n 3, 1) := by decide +kernel
theorem dX3_shows_32 : decode cX3_shows 32 = .ok (.iload_n 1, 1) := by decide +kernel
theorem dX3_shows_33 : decode cX3_shows 33 = .ok (.iload_n 3, 1) := by decide +kernel
theorem dX3_shows_34 : decode cX3_shows 34 = .ok (.invokestatic 50, 3) := by decide +kernel
theorem dX3_shows_37 : decode cX3_shows 37 = .ok (.ireturn, 1) := by decide +kernel
theorem dX4_init_0 : decode cX4_init 0 = .ok (.aload_n 0, 1) := by decide +kernel
theorem dX4_init_1 : decode cX4_init 1 = .ok (.invokespecial 3, 3) := by decide +kernel
theorem dX4_init_4 : decode cX4_init 4 = .ok (.aload_n 0, 1) := by decide +kernel
theorem dX4_init_5 : decode cX4_init 5 = .ok (.iconst 0, 1) := by decide +kernel
theorem dX4_init_6 : decode cX4_init 6 = .ok (.putfield 9, 3) := by decide +kernel
theorem dX4_init_9 : decode cX4_init 9 = .ok (.aload_n 0, 1) := by decide +kernel
theorem dX4_init_10 : decode cX4_init 10 = .ok (.iconst (-1), 1) := by decide +kernel
theorem dX4_init_11 : decode cX4_init 11 = .ok (.putfield 15, 3) := by decide +kernel
theorem dX4_init_14 : decode cX4_init 14 = .ok (.aload_n 0, 1) := by decide +kernel
theorem dX4_init_15 : decode cX4_init 15 = .ok (.bipush 24, 2) := by decide +kernel
theorem dX4_init_17 : decode cX4_init 17 = .ok (.newarray .int, 2) := by decide +kernel
theorem dX4_init_19 : decode cX4_init 19 = .ok (.putfield 18, 3) := by decide +kernel
theorem dX4_init_22 : decode cX4_init 22 = .ok (.return_, 1) := by decide +kernel
theorem dX4_renew_0 : decode cX4_renew 0 = .ok (.aload_n 0, 1) := by decide +kernel
theorem dX4_renew_1 : decode cX4_renew 1 = .ok (.iload_n 1, 1) := by decide +kernel
theorem dX4_renew_2 : decode cX4_renew 2 = .ok (.putfield 9, 3) := by decide +kernel
theorem dX4_renew_5 : decode cX4_renew 5 = .ok (.aload_n 0, 1) := by decide +kernel
theorem dX4_renew_6 : decode cX4_renew 6 = .ok (.iload_n 2, 1) := by decide +kernel
theorem dX4_renew_7 : decode cX4_renew 7 = .ok (.putfield 15, 3) := by decide +kernel
theorem dX4_renew_10 : decode cX4_renew 10 = .ok (.iconst 0, 1) := by decide +kernel
theorem dX4_renew_11 : decode cX4_renew 11 = .ok (.istore_n 3, 1) := by decide +kernel
theorem dX4_renew_12 : decode cX4_renew 12 = .ok (.iload_n 3, 1) := by decide +kernel
theorem dX4_renew_13 : decode cX4_renew 13 = .ok (.bipush 24, 2) := by decide +kernel
theorem dX4_renew_15 : decode cX4_renew 15 = .ok (.if_icmp .ge 16, 3) := by decide +kernel
theorem dX4_renew_18 : decode cX4_renew 18 = .ok (.aload_n 0, 1) := by decide +kernel
theorem dX4_renew_19 : decode cX4_renew 19 = .ok (.getfield 18, 3) := by decide +kernel
theorem dX4_renew_22 : decode cX4_renew 22 = .ok (.iload_n 3, 1) := by decide +kernel
theorem dX4_renew_23 : decode cX4_renew 23 = .ok (.iconst 0, 1) := by decide +kernel
theorem dX4_renew_24 : decode cX4_renew 24 = .ok (.iastore, 1) := by decide +kernel
theorem dX4_renew_25 : decode cX4_renew 25 = .ok (.iinc 3 1, 3) := by decide +kernel
theorem dX4_renew_28 : decode cX4_renew 28 = .ok (.goto (-16), 3) := by decide +kernel
theorem dX4_renew_31 : decode cX4_renew 31 = .ok (.return_, 1) := by decide +kernel
theorem dX4_holds_0 : decode cX4_holds 0 = .ok (.iload_n 1, 1) := by decide +kernel
theorem dX4_holds_1 : decode cX4_holds 1 = .ok (.ifCond .lt 29, 3) := by decide +kernel
theorem dX4_holds_4 : decode cX4_holds 4 = .ok (.iload_n 2, 1) := by decide +kernel
theorem dX4_holds_5 : decode cX4_holds 5 = .ok (.ifCond .lt 25, 3) := by decide +kernel
theorem dX4_holds_8 : decode cX4_holds 8 = .ok (.iload_n 1, 1) := by decide +kernel
theorem dX4_holds_9 : decode cX4_holds 9 = .ok (.aload_n 0, 1) := by decide +kernel
theorem dX4_holds_10 : decode cX4_holds 10 = .ok (.getfield 15, 3) := by decide +kernel
theorem dX4_holds_13 : decode cX4_holds 13 = .ok (.if_icmp .gt 17, 3) := by decide +kernel
theorem dX4_holds_16 : decode cX4_holds 16 = .ok (.iload_n 2, 1) := by decide +kernel
theorem dX4_holds_17 : decode cX4_holds 17 = .ok (.aload_n 0, 1) := by decide +kernel
theorem dX4_holds_18 : decode cX4_holds 18 = .ok (.getfield 15, 3) := by decide +kernel
theorem dX4_holds_21 : decode cX4_holds 21 = .ok (.iload_n 1, 1) := by decide +kernel
theorem dX4_holds_22 : decode cX4_holds 22 = .ok (.isub, 1) := by decide +kernel
theorem dX4_holds_23 : decode cX4_holds 23 = .ok (.if_icmp .gt 7, 3) := by decide +kernel
theorem dX4_holds_26 : decode cX4_holds 26 = .ok (.iconst 1, 1) := by decide +kernel
theorem dX4_holds_27 : decode cX4_holds 27 = .ok (.goto 4, 3) := by decide +kernel
theorem dX4_holds_30 : decode cX4_holds 30 = .ok (.iconst 0, 1) := by decide +kernel
theorem dX4_holds_31 : decode cX4_holds 31 = .ok (.ireturn, 1) := by decide +kernel
theorem dX4_put_0 : decode cX4_put 0 = .ok (.aload_n 0, 1) := by decide +kernel
theorem dX4_put_1 : decode cX4_put 1 = .ok (.getfield 9, 3) := by decide +kernel
theorem dX4_put_4 : decode cX4_put 4 = .ok (.ifCond .ne 14, 3) := by decide +kernel
theorem dX4_put_7 : decode cX4_put 7 = .ok (.aload_n 0, 1) := by decide +kernel
theorem dX4_put_8 : decode cX4_put 8 = .ok (.getfield 18, 3) := by decide +kernel
theorem dX4_put_11 : decode cX4_put 11 = .ok (.iload_n 1, 1) := by decide +kernel
theorem dX4_put_12 : decode cX4_put 12 = .ok (.iload_n 2, 1) := by decide +kernel
theorem dX4_put_13 : decode cX4_put 13 = .ok (.i2b, 1) := by decide +kernel
theorem dX4_put_14 : decode cX4_put 14 = .ok (.iastore, 1) := by decide +kernel
theorem dX4_put_15 : decode cX4_put 15 = .ok (.goto 23, 3) := by decide +kernel
theorem dX4_put_18 : decode cX4_put 18 = .ok (.aload_n 0, 1) := by decide +kernel
theorem dX4_put_19 : decode cX4_put 19 = .ok (.getfield 18, 3) := by decide +kernel
theorem dX4_put_22 : decode cX4_put 22 = .ok (.iload_n 1, 1) := by decide +kernel
theorem dX4_put_23 : decode cX4_put 23 = .ok (.aload_n 0, 1) := by decide +kernel
theorem dX4_put_24 : decode cX4_put 24 = .ok (.getfield 9, 3) := by decide +kernel
theorem dX4_put_27 : decode cX4_put 27 = .ok (.iconst 1, 1) := by decide +kernel
theorem dX4_put_28 : decode cX4_put 28 = .ok (.if_icmp .ne 8, 3) := by decide +kernel
theorem dX4_put_31 : decode cX4_put 31 = .ok (.iload_n 2, 1) := by decide +kernel
theorem dX4_put_32 : decode cX4_put 32 = .ok (.i2s, 1) := by decide +kernel
theorem dX4_put_33 : decode cX4_put 33 = .ok (.goto 4, 3) := by decide +kernel
theorem dX4_put_36 : decode cX4_put 36 = .ok (.iload_n 2, 1) := by decide +kernel
theorem dX4_put_37 : decode cX4_put 37 = .ok (.iastore, 1) := by decide +kernel
theorem dX4_put_38 : decode cX4_put 38 = .ok (.return_, 1) := by decide +kernel
theorem dX5_init_0 : decode cX5_init 0 = .ok (.aload_n 0, 1) := by decide +kernel
theorem dX5_init_1 : decode cX5_init 1 = .ok (.invokespecial 3, 3) := by decide +kernel
theorem dX5_init_4 : decode cX5_init 4 = .ok (.aload_n 0, 1) := by decide +kernel
theorem dX5_init_5 : decode cX5_init 5 = .ok (.iconst 0, 1) := by decide +kernel
theorem dX5_init_6 : decode cX5_init 6 = .ok (.putfield 9, 3) := by decide +kernel
theorem dX5_init_9 : decode cX5_init 9 = .ok (.aload_n 0, 1) := by decide +kernel
theorem dX5_init_10 : decode cX5_init 10 = .ok (.iconst 0, 1) := by decide +kernel
theorem dX5_init_11 : decode cX5_init 11 = .ok (.putfield 15, 3) := by decide +kernel
theorem dX5_init_14 : decode cX5_init 14 = .ok (.aload_n 0, 1) := by decide +kernel
theorem dX5_init_15 : decode cX5_init 15 = .ok (.sipush 160, 3) := by decide +kernel
theorem dX5_init_18 : decode cX5_init 18 = .ok (.newarray .byte, 2) := by decide +kernel
theorem dX5_init_20 : decode cX5_init 20 = .ok (.putfield 18, 3) := by decide +kernel
theorem dX5_init_23 : decode cX5_init 23 = .ok (.return_, 1) := by decide +kernel
theorem dX5_add_0 : decode cX5_add 0 = .ok (.aload_n 0, 1) := by decide +kernel
theorem dX5_add_1 : decode cX5_add 1 = .ok (.getfield 9, 3) := by decide +kernel
theorem dX5_add_4 : decode cX5_add 4 = .ok (.sipush 160, 3) := by decide +kernel
theorem dX5_add_7 : decode cX5_add 7 = .ok (.if_icmp .ge 24, 3) := by decide +kernel
theorem dX5_add_10 : decode cX5_add 10 = .ok (.aload_n 0, 1) := by decide +kernel
theorem dX5_add_11 : decode cX5_add 11 = .ok (.getfield 18, 3) := by decide +kernel
theorem dX5_add_14 : decode cX5_add 14 = .ok (.aload_n 0, 1) := by decide +kernel
theorem dX5_add_15 : decode cX5_add 15 = .ok (.getfield 9, 3) := by decide +kernel
theorem dX5_add_18 : decode cX5_add 18 = .ok (.iload_n 1, 1) := by decide +kernel
theorem dX5_add_19 : decode cX5_add 19 = .ok (.i2b, 1) := by decide +kernel
theorem dX5_add_20 : decode cX5_add 20 = .ok (.bastore, 1) := by decide +kernel
theorem dX5_add_21 : decode cX5_add 21 = .ok (.aload_n 0, 1) := by decide +kernel
theorem dX5_add_22 : decode cX5_add 22 = .ok (.dup, 1) := by decide +kernel
theorem dX5_add_23 : decode cX5_add 23 = .ok (.getfield 9, 3) := by decide +kernel
theorem dX5_add_26 : decode cX5_add 26 = .ok (.iconst 1, 1) := by decide +kernel
theorem dX5_add_27 : decode cX5_add 27 = .ok (.iadd, 1) := by decide +kernel
theorem dX5_add_28 : decode cX5_add 28 = .ok (.putfield 9, 3) := by decide +kernel
theorem dX5_add_31 : decode cX5_add 31 = .ok (.return_, 1) := by decide +kernel
theorem dX5_empty_0 : decode cX5_empty 0 = .ok (.aload_n 0, 1) := by decide +kernel
theorem dX5_empty_1 : decode cX5_empty 1 = .ok (.iconst 0, 1) := by decide +kernel
theorem dX5_empty_2 : decode cX5_empty 2 = .ok (.putfield 9, 3) := by decide +kernel
theorem dX5_empty_5 : decode cX5_empty 5 = .ok (.return_, 1) := by decide +kernel
theorem dX5_ahead_0 : decode cX5_ahead 0 = .ok (.aload_n 0, 1) := by decide +kernel
theorem dX5_ahead_1 : decode cX5_ahead 1 = .ok (.getfield 15, 3) := by decide +kernel
theorem dX5_ahead_4 : decode cX5_ahead 4 = .ok (.aload_n 0, 1) := by decide +kernel
theorem dX5_ahead_5 : decode cX5_ahead 5 = .ok (.getfield 9, 3) := by decide +kernel
theorem dX5_ahead_8 : decode cX5_ahead 8 = .ok (.if_icmp .ge 30, 3) := by decide +kernel
theorem dX5_ahead_11 : decode cX5_ahead 11 = .ok (.aload_n 0, 1) := by decide +kernel
theorem dX5_ahead_12 : decode cX5_ahead 12 = .ok (.getfield 18, 3) := by decide +kernel
theorem dX5_ahead_15 : decode cX5_ahead 15 = .ok (.aload_n 0, 1) := by decide +kernel
theorem dX5_ahead_16 : decode cX5_ahead 16 = .ok (.getfield 15, 3) := by decide +kernel
theorem dX5_ahead_19 : decode cX5_ahead 19 = .ok (.baload, 1) := by decide +kernel
theorem dX5_ahead_20 : decode cX5_ahead 20 = .ok (.bipush 32, 2) := by decide +kernel
theorem dX5_ahead_22 : decode cX5_ahead 22 = .ok (.if_icmp .ne 16, 3) := by decide +kernel
theorem dX5_ahead_25 : decode cX5_ahead 25 = .ok (.aload_n 0, 1) := by decide +kernel
theorem dX5_ahead_26 : decode cX5_ahead 26 = .ok (.dup, 1) := by decide +kernel
theorem dX5_ahead_27 : decode cX5_ahead 27 = .ok (.getfield 15, 3) := by decide +kernel
theorem dX5_ahead_30 : decode cX5_ahead 30 = .ok (.iconst 1, 1) := by decide +kernel
theorem dX5_ahead_31 : decode cX5_ahead 31 = .ok (.iadd, 1) := by decide +kernel
theorem dX5_ahead_32 : decode cX5_ahead 32 = .ok (.putfield 15, 3) := by decide +kernel
theorem dX5_ahead_35 : decode cX5_ahead 35 = .ok (.goto (-35), 3) := by decide +kernel
theorem dX5_ahead_38 : decode cX5_ahead 38 = .ok (.aload_n 0, 1) := by decide +kernel
theorem dX5_ahead_39 : decode cX5_ahead 39 = .ok (.getfield 15, 3) := by decide +kernel
theorem dX5_ahead_42 : decode cX5_ahead 42 = .ok (.aload_n 0, 1) := by decide +kernel
theorem dX5_ahead_43 : decode cX5_ahead 43 = .ok (.getfield 9, 3) := by decide +kernel
theorem dX5_ahead_46 : decode cX5_ahead 46 = .ok (.if_icmp .ge 15, 3) := by decide +kernel
theorem dX5_ahead_49 : decode cX5_ahead 49 = .ok (.aload_n 0, 1) := by decide +kernel
theorem dX5_ahead_50 : decode cX5_ahead 50 = .ok (.getfield 18, 3) := by decide +kernel
theorem dX5_ahead_53 : decode cX5_ahead 53 = .ok (.aload_n 0, 1) := by decide +kernel
theorem dX5_ahead_54 : decode cX5_ahead 54 = .ok (.getfield 15, 3) := by decide +kernel
theorem dX5_ahead_57 : decode cX5_ahead 57 = .ok (.baload, 1) := by decide +kernel
theorem dX5_ahead_58 : decode cX5_ahead 58 = .ok (.goto 4, 3) := by decide +kernel
theorem dX5_ahead_61 : decode cX5_ahead 61 = .ok (.iconst (-1), 1) := by decide +kernel
theorem dX5_ahead_62 : decode cX5_ahead 62 = .ok (.ireturn, 1) := by decide +kernel
theorem dX5_fault_0 : decode cX5_fault 0 = .ok (.aload_n 0, 1) := by decide +kernel
theorem dX5_fault_1 : decode cX5_fault 1 = .ok (.invokevirtual 22, 3) := by decide +kernel
theorem dX5_fault_4 : decode cX5_fault 4 = .ok (.pop, 1) := by decide +kernel
theorem dX5_fault_5 : decode cX5_fault 5 = .ok (.bipush (-20), 2) := by decide +kernel
theorem dX5_fault_7 : decode cX5_fault 7 = .ok (.aload_n 0, 1) := by decide +kernel
theorem dX5_fault_8 : decode cX5_fault 8 = .ok (.getfield 15, 3) := by decide +kernel
theorem dX5_fault_11 : decode cX5_fault 11 = .ok (.isub, 1) := by decide +kernel
theorem dX5_fault_12 : decode cX5_fault 12 = .ok (.ireturn, 1) := by decide +kernel
theorem dX5_take_0 : decode cX5_take 0 = .ok (.aload_n 0, 1) := by decide +kernel
theorem dX5_take_1 : decode cX5_take 1 = .ok (.invokevirtual 22, 3) := by decide +kernel
theorem dX5_take_4 : decode cX5_take 4 = .ok (.iload_n 1, 1) := by decide +kernel
theorem dX5_take_5 : decode cX5_take 5 = .ok (.if_icmp .eq 5, 3) := by decide +kernel
theorem dX5_take_8 : decode cX5_take 8 = .ok (.iconst 0, 1) := by decide +kernel
theorem dX5_take_9 : decode cX5_take 9 = .ok (.ireturn, 1) := by decide +kernel
theorem dX5_take_10 : decode cX5_take 10 = .ok (.aload_n 0, 1) := by decide +kernel
theorem dX5_take_11 : decode cX5_take 11 = .ok (.dup, 1) := by decide +kernel
theorem dX5_take_12 : decode cX5_take 12 = .ok (.getfield 15, 3) := by decide +kernel
theorem dX5_take_15 : decode cX5_take 15 = .ok (.iconst 1, 1) := by decide +kernel
theorem dX5_take_16 : decode cX5_take 16 = .ok (.iadd, 1) := by decide +kernel
theorem dX5_take_17 : decode cX5_take 17 = .ok (.putfield 15, 3) := by decide +kernel
theorem dX5_take_20 : decode cX5_take 20 = .ok (.iconst 1, 1) := by decide +kernel
theorem dX5_take_21 : decode cX5_take 21 = .ok (.ireturn, 1) := by decide +kernel
theorem dX5_placeAhead_0 : decode cX5_placeAhead 0 = .ok (.aload_n 0, 1) := by decide +kernel
theorem dX5_placeAhead_1 : decode cX5_placeAhead 1 = .ok (.invokevirtual 22, 3) := by decide +kernel
theorem dX5_placeAhead_4 : decode cX5_placeAhead 4 = .ok (.istore_n 1, 1) := by decide +kernel
theorem dX5_placeAhead_5 : decode cX5_placeAhead 5 = .ok (.iload_n 1, 1) := by decide +kernel
theorem dX5_placeAhead_6 : decode cX5_placeAhead 6 = .ok (.bipush 103, 2) := by decide +kernel
theorem dX5_placeAhead_8 : decode cX5_placeAhead 8 = .ok (.if_icmp .ne 6, 3) := by decide +kernel
theorem dX5_placeAhead_11 : decode cX5_placeAhead 11 = .ok (.bipush 10, 2) := by decide +kernel
theorem dX5_placeAhead_13 : decode cX5_placeAhead 13 = .ok (.ireturn, 1) := by decide +kernel
theorem dX5_placeAhead_14 : decode cX5_placeAhead 14 = .ok (.iload_n 1, 1) := by decide +kernel
theorem dX5_placeAhead_15 : decode cX5_placeAhead 15 = .ok (.invokestatic 26, 3) := by decide +kernel
theorem dX5_placeAhead_18 : decode cX5_placeAhead 18 = .ok (.ifCond .eq 10, 3) := by decide +kernel
theorem dX5_placeAhead_21 : decode cX5_placeAhead 21 = .ok (.iload_n 1, 1) := by decide +kernel
theorem dX5_placeAhead_22 : decode cX5_placeAhead 22 = .ok (.bipush 48, 2) := by decide +kernel
theorem dX5_placeAhead_24 : decode cX5_placeAhead 24 = .ok (.isub, 1) := by decide +kernel
theorem dX5_placeAhead_25 : decode cX5_placeAhead 25 = .ok (.goto 4, 3) := by decide +kernel
theorem dX5_placeAhead_28 : decode cX5_placeAhead 28 = .ok (.iconst (-1), 1) := by decide +kernel
theorem dX5_placeAhead_29 : decode cX5_placeAhead 29 = .ok (.ireturn, 1) := by decide +kernel
theorem dX5_digit_0 : decode cX5_digit 0 = .ok (.aload_n 0, 1) := by decide +kernel
theorem dX5_digit_1 : decode cX5_digit 1 = .ok (.invokevirtual 22, 3) := by decide +kernel
theorem dX5_digit_4 : decode cX5_digit 4 = .ok (.istore_n 2, 1) := by decide +kernel
theorem dX5_digit_5 : decode cX5_digit 5 = .ok (.iload_n 2, 1) := by decide +kernel
theorem dX5_digit_6 : decode cX5_digit 6 = .ok (.invokestatic 26, 3) := by decide +kernel
theorem dX5_digit_9 : decode cX5_digit 9 = .ok (.ifCond .eq 11, 3) := by decide +kernel
theorem dX5_digit_12 : decode cX5_digit 12 = .ok (.iload_n 2, 1) := by decide +kernel
theorem dX5_digit_13 : decode cX5_digit 13 = .ok (.bipush 48, 2) := by decide +kernel
theorem dX5_digit_15 : decode cX5_digit 15 = .ok (.isub, 1) := by decide +kernel
theorem dX5_digit_16 : decode cX5_digit 16 = .ok (.iload_n 1, 1) := by decide +kernel
theorem dX5_digit_17 : decode cX5_digit 17 = .ok (.if_icmp .lt 5, 3) := by decide +kernel
theorem dX5_digit_20 : decode cX5_digit 20 = .ok (.iconst (-1), 1) := by decide +kernel
theorem dX5_digit_21 : decode cX5_digit 21 = .ok (.ireturn, 1) := by decide +kernel
theorem dX5_digit_22 : decode cX5_digit 22 = .ok (.aload_n 0, 1) := by decide +kernel
theorem dX5_digit_23 : decode cX5_digit 23 = .ok (.dup, 1) := by decide +kernel
theorem dX5_digit_24 : decode cX5_digit 24 = .ok (.getfield 15, 3) := by decide +kernel
theorem dX5_digit_27 : decode cX5_digit 27 = .ok (.iconst 1, 1) := by decide +kernel
theorem dX5_digit_28 : decode cX5_digit 28 = .ok (.iadd, 1) := by decide +kernel
theorem dX5_digit_29 : decode cX5_digit 29 = .ok (.putfield 15, 3) := by decide +kernel
theorem dX5_digit_32 : decode cX5_digit 32 = .ok (.iload_n 2, 1) := by decide +kernel
theorem dX5_digit_33 : decode cX5_digit 33 = .ok (.bipush 48, 2) := by decide +kernel
theorem dX5_digit_35 : decode cX5_digit 35 = .ok (.isub, 1) := by decide +kernel
theorem dX5_digit_36 : decode cX5_digit 36 = .ok (.ireturn, 1) := by decide +kernel
theorem dX5_numberUpTo_0 : decode cX5_numberUpTo 0 = .ok (.aload_n 0, 1) := by decide +kernel
theorem dX5_numberUpTo_1 : decode cX5_numberUpTo 1 = .ok (.invokevirtual 22, 3) := by decide +kernel
theorem dX5_numberUpTo_4 : decode cX5_numberUpTo 4 = .ok (.invokestatic 26, 3) := by decide +kernel
theorem dX5_numberUpTo_7 : decode cX5_numberUpTo 7 = .ok (.ifCond .ne 5, 3) := by decide +kernel
theorem dX5_numberUpTo_10 : decode cX5_numberUpTo 10 = .ok (.iconst (-1), 1) := by decide +kernel
theorem dX5_numberUpTo_11 : decode cX5_numberUpTo 11 = .ok (.ireturn, 1) := by decide +kernel
theorem dX5_numberUpTo_12 : decode cX5_numberUpTo 12 = .ok (.aload_n 0, 1) := by decide +kernel
theorem dX5_numberUpTo_13 : decode cX5_numberUpTo 13 = .ok (.getfield 15, 3) := by decide +kernel
theorem dX5_numberUpTo_16 : decode cX5_numberUpTo 16 = .ok (.istore_n 2, 1) := by decide +kernel
theorem dX5_numberUpTo_17 : decode cX5_numberUpTo 17 = .ok (.iconst 0, 1) := by decide +kernel
theorem dX5_numberUpTo_18 : decode cX5_numberUpTo 18 = .ok (.istore_n 3, 1) := by decide +kernel
theorem dX5_numberUpTo_19 : decode cX5_numberUpTo 19 = .ok (.aload_n 0, 1) := by decide +kernel
theorem dX5_numberUpTo_20 : decode cX5_numberUpTo 20 = .ok (.getfield 15, 3) := by decide +kernel
theorem dX5_numberUpTo_23 : decode cX5_numberUpTo 23 = .ok (.aload_n 0, 1) := by decide +kernel
theorem dX5_numberUpTo_24 : decode cX5_numberUpTo 24 = .ok (.getfield 9, 3) := by decide +kernel
theorem dX5_numberUpTo_27 : decode cX5_numberUpTo 27 = .ok (.if_icmp .ge 55, 3) := by decide +kernel
theorem dX5_numberUpTo_30 : decode cX5_numberUpTo 30 = .ok (.aload_n 0, 1) := by decide +kernel
theorem dX5_numberUpTo_31 : decode cX5_numberUpTo 31 = .ok (.getfield 18, 3) := by decide +kernel
theorem dX5_numberUpTo_34 : decode cX5_numberUpTo 34 = .ok (.aload_n 0, 1) := by decide +kernel
theorem dX5_numberUpTo_35 : decode cX5_numberUpTo 35 = .ok (.getfield 15, 3) := by decide +kernel
theorem dX5_numberUpTo_38 : decode cX5_numberUpTo 38 = .ok (.baload, 1) := by decide +kernel
theorem dX5_numberUpTo_39 : decode cX5_numberUpTo 39 = .ok (.invokestatic 26, 3) := by decide +kernel
theorem dX5_numberUpTo_42 : decode cX5_numberUpTo 42 = .ok (.ifCond .eq 40, 3) := by decide +kernel
theorem dX5_numberUpTo_45 : decode cX5_numberUpTo 45 = .ok (.bipush 10, 2) := by decide +kernel
theorem dX5_numberUpTo_47 : decode cX5_numberUpTo 47 = .ok (.iload_n 3, 1) := by decide +kernel
theorem dX5_numberUpTo_48 : decode cX5_numberUpTo 48 = .ok (.imul, 1) := by decide +kernel
theorem dX5_numberUpTo_49 : decode cX5_numberUpTo 49 = .ok (.aload_n 0, 1) := by decide +kernel
theorem dX5_numberUpTo_50 : decode cX5_numberUpTo 50 = .ok (.getfield 18, 3) := by decide +kernel
theorem dX5_numberUpTo_53 : decode cX5_numberUpTo 53 = .ok (.aload_n 0, 1) := by decide +kernel
theorem dX5_numberUpTo_54 : decode cX5_numberUpTo 54 = .ok (.getfield 15, 3) := by decide +kernel
theorem dX5_numberUpTo_57 : decode cX5_numberUpTo 57 = .ok (.baload, 1) := by decide +kernel
theorem dX5_numberUpTo_58 : decode cX5_numberUpTo 58 = .ok (.iadd, 1) := by decide +kernel
theorem dX5_numberUpTo_59 : decode cX5_numberUpTo 59 = .ok (.bipush 48, 2) := by decide +kernel
theorem dX5_numberUpTo_61 : decode cX5_numberUpTo 61 = .ok (.isub, 1) := by decide +kernel
theorem dX5_numberUpTo_62 : decode cX5_numberUpTo 62 = .ok (.iload_n 1, 1) := by decide +kernel
theorem dX5_numberUpTo_63 : decode cX5_numberUpTo 63 = .ok (.iconst 1, 1) := by decide +kernel
theorem dX5_numberUpTo_64 : decode cX5_numberUpTo 64 = .ok (.iadd, 1) := by decide +kernel
theorem dX5_numberUpTo_65 : decode cX5_numberUpTo 65 = .ok (.invokestatic 30, 3) := by decide +kernel
theorem dX5_numberUpTo_68 : decode cX5_numberUpTo 68 = .ok (.istore_n 3, 1) := by decide +kernel
theorem dX5_numberUpTo_69 : decode cX5_numberUpTo 69 = .ok (.aload_n 0, 1) := by decide +kernel
theorem dX5_numberUpTo_70 : decode cX5_numberUpTo 70 = .ok (.dup, 1) := by decide +kernel
theorem dX5_numberUpTo_71 : decode cX5_numberUpTo 71 = .ok (.getfield 15, 3) := by decide +kernel
theorem dX5_numberUpTo_74 : decode cX5_numberUpTo 74 = .ok (.iconst 1, 1) := by decide +kernel
theorem dX5_numberUpTo_75 : decode cX5_numberUpTo 75 = .ok (.iadd, 1) := by decide +kernel
theorem dX5_numberUpTo_76 : decode cX5_numberUpTo 76 = .ok (.putfield 15, 3) := by decide +kernel
theorem dX5_numberUpTo_79 : decode cX5_numberUpTo 79 = .ok (.goto (-60), 3) := by decide +kernel
theorem dX5_numberUpTo_82 : decode cX5_numberUpTo 82 = .ok (.iload_n 3, 1) := by decide +kernel
theorem dX5_numberUpTo_83 : decode cX5_numberUpTo 83 = .ok (.iload_n 1, 1) := by decide +kernel
theorem dX5_numberUpTo_84 : decode cX5_numberUpTo 84 = .ok (.if_icmp .le 10, 3) := by decide +kernel
theorem dX5_numberUpTo_87 : decode cX5_numberUpTo 87 = .ok (.aload_n 0, 1) := by decide +kernel
theorem dX5_numberUpTo_88 : decode cX5_numberUpTo 88 = .ok (.iload_n 2, 1) := by decide +kernel
theorem dX5_numberUpTo_89 : decode cX5_numberUpTo 89 = .ok (.putfield 15, 3) := by decide +kernel
theorem dX5_numberUpTo_92 : decode cX5_numberUpTo 92 = .ok (.iconst (-1), 1) := by decide +kernel
theorem dX5_numberUpTo_93 : decode cX5_numberUpTo 93 = .ok (.ireturn, 1) := by decide +kernel
theorem dX5_numberUpTo_94 : decode cX5_numberUpTo 94 = .ok (.iload_n 3, 1) := by decide +kernel
theorem dX5_numberUpTo_95 : decode cX5_numberUpTo 95 = .ok (.ireturn, 1) := by decide +kernel
theorem dX5_isDigit_0 : decode cX5_isDigit 0 = .ok (.iload_n 0, 1) := by decide +kernel
theorem dX5_isDigit_1 : decode cX5_isDigit 1 = .ok (.bipush 48, 2) := by decide +kernel
theorem dX5_isDigit_3 : decode cX5_isDigit 3 = .ok (.if_icmp .lt 13, 3) := by decide +kernel
theorem dX5_isDigit_6 : decode cX5_isDigit 6 = .ok (.iload_n 0, 1) := by decide +kernel
theorem dX5_isDigit_7 : decode cX5_isDigit 7 = .ok (.bipush 57, 2) := by decide +kernel
theorem dX5_isDigit_9 : decode cX5_isDigit 9 = .ok (.if_icmp .gt 7, 3) := by decide +kernel
theorem dX5_isDigit_12 : decode cX5_isDigit 12 = .ok (.iconst 1, 1) := by decide +kernel
theorem dX5_isDigit_13 : decode cX5_isDigit 13 = .ok (.goto 4, 3) := by decide +kernel
theorem dX5_isDigit_16 : decode cX5_isDigit 16 = .ok (.iconst 0, 1) := by decide +kernel
theorem dX5_isDigit_17 : decode cX5_isDigit 17 = .ok (.ireturn, 1) := by decide +kernel
theorem dX6_init_0 : decode cX6_init 0 = .ok (.aload_n 0, 1) := by decide +kernel
theorem dX6_init_1 : decode cX6_init 1 = .ok (.invokespecial 3, 3) := by decide +kernel
theorem dX6_init_4 : decode cX6_init 4 = .ok (.aload_n 0, 1) := by decide +kernel
theorem dX6_init_5 : decode cX6_init 5 = .ok (.bipush 11, 2) := by decide +kernel
theorem dX6_init_7 : decode cX6_init 7 = .ok (.newarray .int, 2) := by decide +kernel
theorem dX6_init_9 : decode cX6_init 9 = .ok (.putfield 9, 3) := by decide +kernel
theorem dX6_init_12 : decode cX6_init 12 = .ok (.return_, 1) := by decide +kernel
theorem dX6_measure_0 : decode cX6_measure 0 = .ok (.iconst 0, 1) := by decide +kernel
theorem dX6_measure_1 : decode cX6_measure 1 = .ok (.istore 4, 2) := by decide +kernel
theorem dX6_measure_3 : decode cX6_measure 3 = .ok (.iload 4, 2) := by decide +kernel
theorem dX6_measure_5 : decode cX6_measure 5 = .ok (.bipush 11, 2) := by decide +kernel
theorem dX6_measure_7 : decode cX6_measure 7 = .ok (.if_icmp .ge 27, 3) := by decide +kernel
theorem dX6_measure_10 : decode cX6_measure 10 = .ok (.aload_n 0, 1) := by decide +kernel
theorem dX6_measure_11 : decode cX6_measure 11 = .ok (.getfield 9, 3) := by decide +kernel
theorem dX6_measure_14 : decode cX6_measure 14 = .ok (.iload 4, 2) := by decide +kernel
theorem dX6_measure_16 : decode cX6_measure 16 = .ok (.iload 4, 2) := by decide +kernel
theorem dX6_measure_18 : decode cX6_measure 18 = .ok (.iload_n 2, 1) := by decide +kernel
theorem dX6_measure_19 : decode cX6_measure 19 = .ok (.if_icmp .ne 7, 3) := by decide +kernel
theorem dX6_measure_22 : decode cX6_measure 22 = .ok (.iconst 0, 1) := by decide +kernel
theorem dX6_measure_23 : decode cX6_measure 23 = .ok (.goto 4, 3) := by decide +kernel
theorem dX6_measure_26 : decode cX6_measure 26 = .ok (.iconst (-1), 1) := by decide +kernel
theorem dX6_measure_27 : decode cX6_measure 27 = .ok (.iastore, 1) := by decide +kernel
theorem dX6_measure_28 : decode cX6_measure 28 = .ok (.iinc 4 1, 3) := by decide +kernel
theorem dX6_measure_31 : decode cX6_measure 31 = .ok (.goto (-28), 3) := by decide +kernel
theorem dX6_measure_34 : decode cX6_measure 34 = .ok (.iconst 0, 1) := by decide +kernel
theorem dX6_measure_35 : decode cX6_measure 35 = .ok (.istore 4, 2) := by decide +kernel
theorem dX6_measure_37 : decode cX6_measure 37 = .ok (.iload 4, 2) := by decide +kernel
theorem dX6_measure_39 : decode cX6_measure 39 = .ok (.bipush 10, 2) := by decide +kernel
theorem dX6_measure_41 : decode cX6_measure 41 = .ok (.if_icmp .ge 75, 3) := by decide +kernel
theorem dX6_measure_44 : decode cX6_measure 44 = .ok (.iconst 0, 1) := by decide +kernel
theorem dX6_measure_45 : decode cX6_measure 45 = .ok (.istore 5, 2) := by decide +kernel
theorem dX6_measure_47 : decode cX6_measure 47 = .ok (.iload 5, 2) := by decide +kernel
theorem dX6_measure_49 : decode cX6_measure 49 = .ok (.bipush 16, 2) := by decide +kernel
theorem dX6_measure_51 : decode cX6_measure 51 = .ok (.if_icmp .gt 59, 3) := by decide +kernel
theorem dX6_measure_54 : decode cX6_measure 54 = .ok (.aload_n 1, 1) := by decide +kernel
theorem dX6_measure_55 : decode cX6_measure 55 = .ok (.iload 5, 2) := by decide +kernel
theorem dX6_measure_57 : decode cX6_measure 57 = .ok (.iload_n 3, 1) := by decide +kernel
theorem dX6_measure_58 : decode cX6_measure 58 = .ok (.invokevirtual 15, 3) := by decide +kernel
theorem dX6_measure_61 : decode cX6_measure 61 = .ok (.ifCond .eq 43, 3) := by decide +kernel
theorem dX6_measure_64 : decode cX6_measure 64 = .ok (.aload_n 0, 1) := by decide +kernel
theorem dX6_measure_65 : decode cX6_measure 65 = .ok (.aload_n 1, 1) := by decide +kernel
theorem dX6_measure_66 : decode cX6_measure 66 = .ok (.getfield 21, 3) := by decide +kernel
theorem dX6_measure_69 : decode cX6_measure 69 = .ok (.iload 5, 2) := by decide +kernel
theorem dX6_measure_71 : decode cX6_measure 71 = .ok (.iaload, 1) := by decide +kernel
theorem dX6_measure_72 : decode cX6_measure 72 = .ok (.aload_n 1, 1) := by decide +kernel
theorem dX6_measure_73 : decode cX6_measure 73 = .ok (.getfield 24, 3) := by decide +kernel
theorem dX6_measure_76 : decode cX6_measure 76 = .ok (.iload 5, 2) := by decide +kernel
theorem dX6_measure_78 : decode cX6_measure 78 = .ok (.iaload, 1) := by decide +kernel
theorem dX6_measure_79 : decode cX6_measure 79 = .ok (.iload 4, 2) := by decide +kernel
theorem dX6_measure_81 : decode cX6_measure 81 = .ok (.invokevirtual 27, 3) := by decide +kernel
theorem dX6_measure_84 : decode cX6_measure 84 = .ok (.aload_n 0, 1) := by decide +kernel
theorem dX6_measure_85 : decode cX6_measure 85 = .ok (.aload_n 1, 1) := by decide +kernel
theorem dX6_measure_86 : decode cX6_measure 86 = .ok (.getfield 24, 3) := by decide +kernel
theorem dX6_measure_89 : decode cX6_measure 89 = .ok (.iload 5, 2) := by decide +kernel
theorem dX6_measure_91 : decode cX6_measure 91 = .ok (.iaload, 1) := by decide +kernel
theorem dX6_measure_92 : decode cX6_measure 92 = .ok (.aload_n 1, 1) := by decide +kernel
theorem dX6_measure_93 : decode cX6_measure 93 = .ok (.getfield 21, 3) := by decide +kernel
theorem dX6_measure_96 : decode cX6_measure 96 = .ok (.iload 5, 2) := by decide +kernel
theorem dX6_measure_98 : decode cX6_measure 98 = .ok (.iaload, 1) := by decide +kernel
theorem dX6_measure_99 : decode cX6_measure 99 = .ok (.iload 4, 2) := by decide +kernel
theorem dX6_measure_101 : decode cX6_measure 101 = .ok (.invokevirtual 27, 3) := by decide +kernel
theorem dX6_measure_104 : decode cX6_measure 104 = .ok (.iinc 5 1, 3) := by decide +kernel
theorem dX6_measure_107 : decode cX6_measure 107 = .ok (.goto (-60), 3) := by decide +kernel
theorem dX6_measure_110 : decode cX6_measure 110 = .ok (.iinc 4 1, 3) := by decide +kernel
theorem dX6_measure_113 : decode cX6_measure 113 = .ok (.goto (-76), 3) := by decide +kernel
theorem dX6_measure_116 : decode cX6_measure 116 = .ok (.return_, 1) := by decide +kernel
theorem dX6_spread_0 : decode cX6_spread 0 = .ok (.aload_n 0, 1) := by decide +kernel
theorem dX6_spread_1 : decode cX6_spread 1 = .ok (.getfield 9, 3) := by decide +kernel
theorem dX6_spread_4 : decode cX6_spread 4 = .ok (.iload_n 1, 1) := by decide +kernel
theorem dX6_spread_5 : decode cX6_spread 5 = .ok (.iaload, 1) := by decide +kernel
theorem dX6_spread_6 : decode cX6_spread 6 = .ok (.iload_n 3, 1) := by decide +kernel
theorem dX6_spread_7 : decode cX6_spread 7 = .ok (.if_icmp .ne 22, 3) := by decide +kernel
theorem dX6_spread_10 : decode cX6_spread 10 = .ok (.aload_n 0, 1) := by decide +kernel
theorem dX6_spread_11 : decode cX6_spread 11 = .ok (.getfield 9, 3) := by decide +kernel
theorem dX6_spread_14 : decode cX6_spread 14 = .ok (.iload_n 2, 1) := by decide +kernel
theorem dX6_spread_15 : decode cX6_spread 15 = .ok (.iaload, 1) := by decide +kernel
theorem dX6_spread_16 : decode cX6_spread 16 = .ok (.iconst (-1), 1) := by decide +kernel
theorem dX6_spread_17 : decode cX6_spread 17 = .ok (.if_icmp .ne 12, 3) := by decide +kernel
theorem dX6_spread_20 : decode cX6_spread 20 = .ok (.aload_n 0, 1) := by decide +kernel
theorem dX6_spread_21 : decode cX6_spread 21 = .ok (.getfield 9, 3) := by decide +kernel
theorem dX6_spread_24 : decode cX6_spread 24 = .ok (.iload_n 2, 1) := by decide +kernel
theorem dX6_spread_25 : decode cX6_spread 25 = .ok (.iload_n 3, 1) := by decide +kernel
theorem dX6_spread_26 : decode cX6_spread 26 = .ok (.iconst 1, 1) := by decide +kernel
theorem dX6_spread_27 : decode cX6_spread 27 = .ok (.iadd, 1) := by decide +kernel
theorem dX6_spread_28 : decode cX6_spread 28 = .ok (.iastore, 1) := by decide +kernel
theorem dX6_spread_29 : decode cX6_spread 29 = .ok (.return_, 1) := by decide +kernel
theorem dX6_locksFromHall_0 : decode cX6_locksFromHall 0 = .ok (.iconst 0, 1) := by decide +kernel
theorem dX6_locksFromHall_1 : decode cX6_locksFromHall 1 = .ok (.istore_n 3, 1) := by decide +kernel
theorem dX6_locksFromHall_2 : decode cX6_locksFromHall 2 = .ok (.iconst 0, 1) := by decide +kernel
theorem dX6_locksFromHall_3 : decode cX6_locksFromHall 3 = .ok (.istore 4, 2) := by decide +kernel
theorem dX6_locksFromHall_5 : decode cX6_locksFromHall 5 = .ok (.aload_n 0, 1) := by decide +kernel
theorem dX6_locksFromHall_6 : decode cX6_locksFromHall 6 = .ok (.getfield 9, 3) := by decide +kernel
theorem dX6_locksFromHall_9 : decode cX6_locksFromHall 9 = .ok (.iconst 0, 1) := by decide +kernel
theorem dX6_locksFromHall_10 : decode cX6_locksFromHall 10 = .ok (.iaload, 1) := by decide +kernel
theorem dX6_locksFromHall_11 : decode cX6_locksFromHall 11 = .ok (.istore 5, 2) := by decide +kernel
theorem dX6_locksFromHall_13 : decode cX6_locksFromHall 13 = .ok (.iload 5, 2) := by decide +kernel
theorem dX6_locksFromHall_15 : decode cX6_locksFromHall 15 = .ok (.ifCond .le 76, 3) := by decide +kernel
theorem dX6_locksFromHall_18 : decode cX6_locksFromHall 18 = .ok (.aload_n 0, 1) := by decide +kernel
theorem dX6_locksFromHall_19 : decode cX6_locksFromHall 19 = .ok (.aload_n 1, 1) := by decide +kernel
theorem dX6_locksFromHall_20 : decode cX6_locksFromHall 20 = .ok (.iload_n 2, 1) := by decide +kernel
theorem dX6_locksFromHall_21 : decode cX6_locksFromHall 21 = .ok (.iload 4, 2) := by decide +kernel
theorem dX6_locksFromHall_23 : decode cX6_locksFromHall 23 = .ok (.iload 5, 2) := by decide +kernel
theorem dX6_locksFromHall_25 : decode cX6_locksFromHall 25 = .ok (.invokevirtual 31, 3) := by decide +kernel
theorem dX6_locksFromHall_28 : decode cX6_locksFromHall 28 = .ok (.istore 6, 2) := by decide +kernel
theorem dX6_locksFromHall_30 : decode cX6_locksFromHall 30 = .ok (.aload_n 1, 1) := by decide +kernel
theorem dX6_locksFromHall_31 : decode cX6_locksFromHall 31 = .ok (.getfield 35, 3) := by decide +kernel
theorem dX6_locksFromHall_34 : decode cX6_locksFromHall 34 = .ok (.iload 6, 2) := by decide +kernel
theorem dX6_locksFromHall_36 : decode cX6_locksFromHall 36 = .ok (.iaload, 1) := by decide +kernel
theorem dX6_locksFromHall_37 : decode cX6_locksFromHall 37 = .ok (.bipush 8, 2) := by decide +kernel
theorem dX6_locksFromHall_39 : decode cX6_locksFromHall 39 = .ok (.if_icmp .eq 15, 3) := by decide +kernel
theorem dX6_locksFromHall_42 : decode cX6_locksFromHall 42 = .ok (.iload_n 3, 1) := by decide +kernel
theorem dX6_locksFromHall_43 : decode cX6_locksFromHall 43 = .ok (.iconst 1, 1) := by decide +kernel
theorem dX6_locksFromHall_44 : decode cX6_locksFromHall 44 = .ok (.aload_n 1, 1) := by decide +kernel
theorem dX6_locksFromHall_45 : decode cX6_locksFromHall 45 = .ok (.getfield 35, 3) := by decide +kernel
theorem dX6_locksFromHall_48 : decode cX6_locksFromHall 48 = .ok (.iload 6, 2) := by decide +kernel
theorem dX6_locksFromHall_50 : decode cX6_locksFromHall 50 = .ok (.iaload, 1) := by decide +kernel
theorem dX6_locksFromHall_51 : decode cX6_locksFromHall 51 = .ok (.ishl, 1) := by decide +kernel
theorem dX6_locksFromHall_52 : decode cX6_locksFromHall 52 = .ok (.ior, 1) := by decide +kernel
theorem dX6_locksFromHall_53 : decode cX6_locksFromHall 53 = .ok (.istore_n 3, 1) := by decide +kernel
theorem dX6_locksFromHall_54 : decode cX6_locksFromHall 54 = .ok (.aload_n 1, 1) := by decide +kernel
theorem dX6_locksFromHall_55 : decode cX6_locksFromHall 55 = .ok (.getfield 21, 3) := by decide +kernel
theorem dX6_locksFromHall_58 : decode cX6_locksFromHall 58 = .ok (.iload 6, 2) := by decide +kernel
theorem dX6_locksFromHall_60 : decode cX6_locksFromHall 60 = .ok (.iaload, 1) := by decide +kernel
theorem dX6_locksFromHall_61 : decode cX6_locksFromHall 61 = .ok (.iload 4, 2) := by decide +kernel
theorem dX6_locksFromHall_63 : decode cX6_locksFromHall 63 = .ok (.if_icmp .ne 13, 3) := by decide +kernel
theorem dX6_locksFromHall_66 : decode cX6_locksFromHall 66 = .ok (.aload_n 1, 1) := by decide +kernel
theorem dX6_locksFromHall_67 : decode cX6_locksFromHall 67 = .ok (.getfield 24, 3) := by decide +kernel
theorem dX6_locksFromHall_70 : decode cX6_locksFromHall 70 = .ok (.iload 6, 2) := by decide +kernel
theorem dX6_locksFromHall_72 : decode cX6_locksFromHall 72 = .ok (.iaload, 1) := by decide +kernel
theorem dX6_locksFromHall_73 : decode cX6_locksFromHall 73 = .ok (.goto 10, 3) := by decide +kernel
theorem dX6_locksFromHall_76 : decode cX6_locksFromHall 76 = .ok (.aload_n 1, 1) := by decide +kernel
theorem dX6_locksFromHall_77 : decode cX6_locksFromHall 77 = .ok (.getfield 21, 3) := by decide +kernel
theorem dX6_locksFromHall_80 : decode cX6_locksFromHall 80 = .ok (.iload 6, 2) := by decide +kernel
theorem dX6_locksFromHall_82 : decode cX6_locksFromHall 82 = .ok (.iaload, 1) := by decide +kernel
theorem dX6_locksFromHall_83 : decode cX6_locksFromHall 83 = .ok (.istore 4, 2) := by decide +kernel
theorem dX6_locksFromHall_85 : decode cX6_locksFromHall 85 = .ok (.iinc 5 (-1), 3) := by decide +kernel
theorem dX6_locksFromHall_88 : decode cX6_locksFromHall 88 = .ok (.goto (-75), 3) := by decide +kernel
theorem dX6_locksFromHall_91 : decode cX6_locksFromHall 91 = .ok (.iload_n 3, 1) := by decide +kernel
theorem dX6_locksFromHall_92 : decode cX6_locksFromHall 92 = .ok (.ireturn, 1) := by decide +kernel
theorem dX6_doorNearer_0 : decode cX6_doorNearer 0 = .ok (.iconst 0, 1) := by decide +kernel
theorem dX6_doorNearer_1 : decode cX6_doorNearer 1 = .ok (.istore 5, 2) := by decide +kernel
theorem dX6_doorNearer_3 : decode cX6_doorNearer 3 = .ok (.iload 5, 2) := by decide +kernel
theorem dX6_doorNearer_5 : decode cX6_doorNearer 5 = .ok (.bipush 16, 2) := by decide +kernel
theorem dX6_doorNearer_7 : decode cX6_doorNearer 7 = .ok (.if_icmp .ge 76, 3) := by decide +kernel
theorem dX6_doorNearer_10 : decode cX6_doorNearer 10 = .ok (.aload_n 1, 1) := by decide +kernel
theorem dX6_doorNearer_11 : decode cX6_doorNearer 11 = .ok (.iload 5, 2) := by decide +kernel
theorem dX6_doorNearer_13 : decode cX6_doorNearer 13 = .ok (.iload_n 2, 1) := by decide +kernel
theorem dX6_doorNearer_14 : decode cX6_doorNearer 14 = .ok (.invokevirtual 15, 3) := by decide +kernel
theorem dX6_doorNearer_17 : decode cX6_doorNearer 17 = .ok (.ifCond .eq 60, 3) := by decide +kernel
theorem dX6_doorNearer_20 : decode cX6_doorNearer 20 = .ok (.aload_n 1, 1) := by decide +kernel
theorem dX6_doorNearer_21 : decode cX6_doorNearer 21 = .ok (.iload 5, 2) := by decide +kernel
theorem dX6_doorNearer_23 : decode cX6_doorNearer 23 = .ok (.iload_n 3, 1) := by decide +kernel
theorem dX6_doorNearer_24 : decode cX6_doorNearer 24 = .ok (.invokevirtual 38, 3) := by decide +kernel
theorem dX6_doorNearer_27 : decode cX6_doorNearer 27 = .ok (.ifCond .eq 50, 3) := by decide +kernel
theorem dX6_doorNearer_30 : decode cX6_doorNearer 30 = .ok (.aload_n 1, 1) := by decide +kernel
theorem dX6_doorNearer_31 : decode cX6_doorNearer 31 = .ok (.getfield 21, 3) := by decide +kernel
theorem dX6_doorNearer_34 : decode cX6_doorNearer 34 = .ok (.iload 5, 2) := by decide +kernel
theorem dX6_doorNearer_36 : decode cX6_doorNearer 36 = .ok (.iaload, 1) := by decide +kernel
theorem dX6_doorNearer_37 : decode cX6_doorNearer 37 = .ok (.iload_n 3, 1) := by decide +kernel
theorem dX6_doorNearer_38 : decode cX6_doorNearer 38 = .ok (.if_icmp .ne 13, 3) := by decide +kernel
theorem dX6_doorNearer_41 : decode cX6_doorNearer 41 = .ok (.aload_n 1, 1) := by decide +kernel
theorem dX6_doorNearer_42 : decode cX6_doorNearer 42 = .ok (.getfield 24, 3) := by decide +kernel
theorem dX6_doorNearer_45 : decode cX6_doorNearer 45 = .ok (.iload 5, 2) := by decide +kernel
theorem dX6_doorNearer_47 : decode cX6_doorNearer 47 = .ok (.iaload, 1) := by decide +kernel
theorem dX6_doorNearer_48 : decode cX6_doorNearer 48 = .ok (.goto 10, 3) := by decide +kernel
theorem dX6_doorNearer_51 : decode cX6_doorNearer 51 = .ok (.aload_n 1, 1) := by decide +kernel
theorem dX6_doorNearer_52 : decode cX6_doorNearer 52 = .ok (.getfield 21, 3) := by decide +kernel
theorem dX6_doorNearer_55 : decode cX6_doorNearer 55 = .ok (.iload 5, 2) := by decide +kernel
theorem dX6_doorNearer_57 : decode cX6_doorNearer 57 = .ok (.iaload, 1) := by decide +kernel
theorem dX6_doorNearer_58 : decode cX6_doorNearer 58 = .ok (.istore 6, 2) := by decide +kernel
theorem dX6_doorNearer_60 : decode cX6_doorNearer 60 = .ok (.aload_n 0, 1) := by decide +kernel
theorem dX6_doorNearer_61 : decode cX6_doorNearer 61 = .ok (.getfield 9, 3) := by decide +kernel
theorem dX6_doorNearer_64 : decode cX6_doorNearer 64 = .ok (.iload 6, 2) := by decide +kernel
theorem dX6_doorNearer_66 : decode cX6_doorNearer 66 = .ok (.iaload, 1) := by decide +kernel
theorem dX6_doorNearer_67 : decode cX6_doorNearer 67 = .ok (.iload 4, 2) := by decide +kernel
theorem dX6_doorNearer_69 : decode cX6_doorNearer 69 = .ok (.iconst 1, 1) := by decide +kernel
theorem dX6_doorNearer_70 : decode cX6_doorNearer 70 = .ok (.isub, 1) := by decide +kernel
theorem dX6_doorNearer_71 : decode cX6_doorNearer 71 = .ok (.if_icmp .ne 6, 3) := by decide +kernel
theorem dX6_doorNearer_74 : decode cX6_doorNearer 74 = .ok (.iload 5, 2) := by decide +kernel
theorem dX6_doorNearer_76 : decode cX6_doorNearer 76 = .ok (.ireturn, 1) := by decide +kernel
theorem dX6_doorNearer_77 : decode cX6_doorNearer 77 = .ok (.iinc 5 1, 3) := by decide +kernel
theorem dX6_doorNearer_80 : decode cX6_doorNearer 80 = .ok (.goto (-77), 3) := by decide +kernel
theorem dX6_doorNearer_83 : decode cX6_doorNearer 83 = .ok (.bipush 16, 2) := by decide +kernel
theorem dX6_doorNearer_85 : decode cX6_doorNearer 85 = .ok (.ireturn, 1) := by decide +kernel
theorem dJ9_abs_0f7a4_0 : decode cJ9_abs_0f7a4 0 = .ok (.iload_n 0, 1) := by decide +kernel
theorem dJ9_abs_0f7a4_1 : decode cJ9_abs_0f7a4 1 = .ok (.ifCond .ge 8, 3) := by decide +kernel
theorem dJ9_abs_0f7a4_4 : decode cJ9_abs_0f7a4 4 = .ok (.iload_n 0, 1) := by decide +kernel
theorem dJ9_abs_0f7a4_5 : decode cJ9_abs_0f7a4 5 = .ok (.ineg, 1) := by decide +kernel
theorem dJ9_abs_0f7a4_6 : decode cJ9_abs_0f7a4 6 = .ok (.goto 4, 3) := by decide +kernel
theorem dJ9_abs_0f7a4_9 : decode cJ9_abs_0f7a4 9 = .ok (.iload_n 0, 1) := by decide +kernel
theorem dJ9_abs_0f7a4_10 : decode cJ9_abs_0f7a4 10 = .ok (.ireturn, 1) := by decide +kernel
theorem dJ9_max_7cf53_0 : decode cJ9_max_7cf53 0 = .ok (.iload_n 0, 1) := by decide +kernel
theorem dJ9_max_7cf53_1 : decode cJ9_max_7cf53 1 = .ok (.iload_n 1, 1) := by decide +kernel
theorem dJ9_max_7cf53_2 : decode cJ9_max_7cf53 2 = .ok (.if_icmp .lt 7, 3) := by decide +kernel
theorem dJ9_max_7cf53_5 : decode cJ9_max_7cf53 5 = .ok (.iload_n 0, 1) := by decide +kernel
theorem dJ9_max_7cf53_6 : decode cJ9_max_7cf53 6 = .ok (.goto 4, 3) := by decide +kernel
theorem dJ9_max_7cf53_9 : decode cJ9_max_7cf53 9 = .ok (.iload_n 1, 1) := by decide +kernel
theorem dJ9_max_7cf53_10 : decode cJ9_max_7cf53 10 = .ok (.ireturn, 1) := by decide +kernel
theorem dJ9_min_7cf53_0 : decode cJ9_min_7cf53 0 = .ok (.iload_n 0, 1) := by decide +kernel
theorem dJ9_min_7cf53_1 : decode cJ9_min_7cf53 1 = .ok (.iload_n 1, 1) := by decide +kernel
theorem dJ9_min_7cf53_2 : decode cJ9_min_7cf53 2 = .ok (.if_icmp .gt 7, 3) := by decide +kernel
theorem dJ9_min_7cf53_5 : decode cJ9_min_7cf53 5 = .ok (.iload_n 0, 1) := by decide +kernel
theorem dJ9_min_7cf53_6 : decode cJ9_min_7cf53 6 = .ok (.goto 4, 3) := by decide +kernel
theorem dJ9_min_7cf53_9 : decode cJ9_min_7cf53 9 = .ok (.iload_n 1, 1) := by decide +kernel
theorem dJ9_min_7cf53_10 : decode cJ9_min_7cf53 10 = .ok (.ireturn, 1) := by decide +kernel
end
section
/-! THE CALCULUS: one world of cells by number; tk_G: from this place of a method, with these locals, stack and cells, the method comes to its end with Q -/
abbrev tS : Type := Nat → Nat → Int32
abbrev tF : Type := Nat → Nat → Option Nat
abbrev tH : Type := List (Nat × Nat) × tS × tF
abbrev tG : Type := va_G × ClassId × ClassId × ClassId
/-- a method: its name, its bytes, its locals, what it answers, its height in the order of calls -/
abbrev tM : Type := MethodName × ByteArray × Nat × Option FieldType × Nat
abbrev tX : Type := Option (Nat × (Nat → Int32))
def tk_cv (ad : Nat → Nat) (v : Value) : Value := match v with
  | .ref k => .ref (ad k)
  | w => w
def tk_rfs : List (List Bool) := [[false, false, false, false, false], [false, false, true, true, true, true, true], [false, true, true, true], [false, true, true, true, true, true], [false, false, true], [false, false, true], [true], [true, true, false, true, true, false, false, true, true, true, true, true, true], [true, true, true, false, true, true, true, true, true, false, false, true, false, false, false, true, true, false, true, true, true, true, true, true, true]]
def tk_isR (ci j : Nat) : Bool := (((tk_rfs[ci]?).getD [])[j]?).getD false
def tk_fv (ad : Nat → Nat) (S : tS) (F : tF) (ci k j : Nat) : Value := if tk_isR ci j = true then va_rf ((F k j).map ad) else .int (S k j)
def tk_cell (γ : tG) (ad : Nat → Nat) (S : tS) (F : tF) (k : Nat) (q : Nat × Nat) : va_E :=
  if q.1 < 9 then .inr (q.1, (List.range q.2).map (tk_fv ad S F q.1 k))
  else if q.1 = 9 then .inl (γ.2.2.1, q.2, .inl (S k))
  else if q.1 = 10 then .inl (γ.2.1, q.2, .inl (S k))
  else .inl (γ.2.2.2, q.2, .inr (.inr (.inr (.inr (fun j => (F k j).map ad)))))
def tk_ws (γ : tG) (ad : Nat → Nat) (h : tH) : va_W := h.1.zipIdx.map (fun q => (ad q.2, tk_cell γ ad h.2.1 h.2.2 q.2 q.1))
def tk_upR (S : tS) (k : Nat) (f : Nat → Int32) : tS := fun i => if i = k then f else S i
def tk_up (S : tS) (k j : Nat) (x : Int32) : tS := tk_upR S k (upd (S k) j x)
def tk_upF (F : tF) (k j : Nat) (x : Option Nat) : tF := fun i => if i = k then va_up (F k) j x else F i
theorem tk_ws_get {γ : tG} {ad : Nat → Nat} {h : tH} {k : Nat} {q : Nat × Nat} (hk : h.1[k]? = some q) : (tk_ws γ ad h)[k]? = some (ad k, tk_cell γ ad h.2.1 h.2.2 k q) := by
  simp [tk_ws, List.getElem?_zipIdx, hk]
theorem tk_cell_eq {γ : tG} {ad : Nat → Nat} {S S' : tS} {F F' : tF} {k : Nat} (q : Nat × Nat) (h1 : S' k = S k) (h2 : F' k = F k) : tk_cell γ ad S' F' k q = tk_cell γ ad S F k q := by
  unfold tk_cell tk_fv
  rw [h1, h2]
theorem tk_ws_set {γ : tG} {ad : Nat → Nat} {sh : List (Nat × Nat)} {S S' : tS} {F F' : tF} {k : Nat} {q : Nat × Nat} {e : va_E} (hk : sh[k]? = some q) (he : tk_cell γ ad S' F' k q = e) (ho : ∀ i, i ≠ k → S' i = S i ∧ F' i = F i) : (tk_ws γ ad (sh, S, F)).set k (ad k, e) = tk_ws γ ad (sh, S', F') := by
  apply List.ext_getElem?
  intro i
  by_cases hi : i = k
  · subst hi
    have hl : i < (tk_ws γ ad (sh, S, F)).length := (List.getElem?_eq_some_iff.mp (tk_ws_get (γ := γ) (ad := ad) (h := (sh, S, F)) hk)).1
    rw [List.getElem?_set_self hl, tk_ws_get (h := (sh, S', F')) hk, ← he]
  · rw [List.getElem?_set_ne (Ne.symm hi)]
    cases hq : sh[i]? with
    | none => simp [tk_ws, List.getElem?_zipIdx, hq]
    | some r =>
      rw [tk_ws_get (h := (sh, S, F)) hq, tk_ws_get (h := (sh, S', F')) hq]
      rw [tk_cell_eq r (ho i hi).1 (ho i hi).2]
theorem tk_ws_push {γ : tG} {ad ad' : Nat → Nat} {sh : List (Nat × Nat)} {S S' : tS} {F F' : tF} {q : Nat × Nat} {e : va_E} {a : Nat} (ha : ad' sh.length = a) (had : ∀ i, i < sh.length → ad' i = ad i) (he : tk_cell γ ad' S' F' sh.length q = e) (ho : ∀ i, i < sh.length → tk_cell γ ad' S' F' i = tk_cell γ ad S F i) : tk_ws γ ad (sh, S, F) ++ [(a, e)] = tk_ws γ ad' (sh ++ [q], S', F') := by
  apply List.ext_getElem?
  intro i
  have hl : (tk_ws γ ad (sh, S, F)).length = sh.length := by simp [tk_ws]
  by_cases hi : i < sh.length
  · rw [List.getElem?_append_left (by rw [hl]; exact hi)]
    obtain ⟨r, hq⟩ : ∃ r, sh[i]? = some r := ⟨_, List.getElem?_eq_getElem hi⟩
    rw [tk_ws_get (h := (sh, S, F)) hq, tk_ws_get (h := (sh ++ [q], S', F')) (k := i) (q := r) (by show (sh ++ [q])[i]? = _; rw [List.getElem?_append_left hi]; exact hq)]
    show some (ad i, tk_cell γ ad S F i r) = some (ad' i, tk_cell γ ad' S' F' i r)
    rw [had i hi, ho i hi]
  · by_cases hj : i = sh.length
    · subst hj
      rw [List.getElem?_append_right (by rw [hl]; exact Nat.le_refl _), hl, Nat.sub_self, tk_ws_get (h := (sh ++ [q], S', F')) (k := sh.length) (q := q) (by show (sh ++ [q])[sh.length]? = _; simp)]
      show some (a, e) = some (ad' sh.length, _)
      rw [ha, he]
    · rw [List.getElem?_eq_none (by simp [hl]; omega)]
      symm
      apply List.getElem?_eq_none
      simp [tk_ws]; omega
def tk_TS : List Cond := lw_tbl.filter goodWord
theorem tk_in {w : Cond} (i : Nat) (h : lw_tbl[i]? = some w) (g : goodWord w = true) : w ∈ tk_TS := List.mem_filter.mpr ⟨List.mem_of_getElem? h, g⟩
theorem tk_goodTS : GoodIn tk_TS tk_TS := fun w hw => ⟨hw, good_of_word (List.mem_filter.mp hw).2⟩
def tk_NX (U : State) : Prop := va_Nw (.methodLinkNest RX7 18 yX3_init RX7) U ∧ va_Nw (.methodLinkNest RX7 42 yX5_init RX7) U ∧ va_Nw (.methodLinkNest RX7 52 yX0_init RX7) U ∧ va_Nw (.methodLinkNest RX7 59 yX6_init RX7) U ∧ va_Nw (.methodLinkNest RX7 66 yX1_init RX7) U ∧ va_Nw (.methodLinkNest RX7 77 yX4_init RX7) U ∧ va_AO "TellKeys$Sheet" U
theorem tk_NX.warm {s U : State} (hW : s.WarmedH U.vm) (h : tk_NX s) : tk_NX U := ⟨va_Nw.warmM hW h.1, va_Nw.warmM hW h.2.1, va_Nw.warmM hW h.2.2.1, va_Nw.warmM hW h.2.2.2.1, va_Nw.warmM hW h.2.2.2.2.1, va_Nw.warmM hW h.2.2.2.2.2.1, va_AO.moved hW.alike h.2.2.2.2.2.2⟩
theorem tk_NX.same {s U : State} (hW : s.vm = U.vm) (h : tk_NX s) : tk_NX U := ⟨va_Nw.same rfl hW h.1, va_Nw.same rfl hW h.2.1, va_Nw.same rfl hW h.2.2.1, va_Nw.same rfl hW h.2.2.2.1, va_Nw.same rfl hW h.2.2.2.2.1, va_Nw.same rfl hW h.2.2.2.2.2.1, va_AO.moved (by rw [hW]; exact Vm.Alike.refl _) h.2.2.2.2.2.2⟩
abbrev tk_tys (γ : tG) : List (ClassId × FieldType) := [(γ.2.1, .int), (γ.2.2.1, .byte), (γ.2.2.2, .object "TellKeys$Sheet")]
def tk_K (γ : tG) (U : State) : Prop := va_K γ.1 vwCl (tk_tys γ) U ∧ tk_NX U
theorem tk_K.warm {γ : tG} {s U : State} (hW : s.WarmedH U.vm) (h : tk_K γ s) : tk_K γ U := ⟨va_K.moved hW.alike h.1, h.2.warm hW⟩
/-- the machine at a method -/
def tk_C (μ : tM) (γ : tG) (p : Program) (R : Room) (s : State) (m : MethodId) (args : Array Value) (meth : Method) (c : Code) (A : Nat → Prop) : Prop :=
  p.tables.exec = Jvm.exec ∧ c.code = μ.2.1 ∧ c.maxLocals = μ.2.2.1 ∧ s.vm.findClass μ.1.cls = some m.cls ∧ (∀ w ∈ tk_TS, w.before args s = true) ∧ tk_K γ s ∧ (∀ q, s.heap.size ≤ q → A q) ∧ (μ.1.name = "<init>" → meth.name = "<init>") ∧ μ.2.2.2.2 ≤ R.frames ∧ 64 * μ.2.2.2.2 ≤ R.locals
def tk_W (γ : tG) (s : State) (A : Nat → Prop) (ad : Nat → Nat) (h : tH) (H : Heap) (locs : List Loc) : Prop := va_P γ.1 vwCl (tk_ws γ ad h) H ∧ va_D A (tk_ws γ ad h) ∧ va_S A s.heap H locs
def tk_X (sx : tX) (ad : Nat → Nat) (A : Nat → Prop) (s : State) : Prop := ∀ (L : Nat) (xs : Nat → Int32), sx = some (L, xs) → va_X (ad 4096) L xs s s.heap ∧ ad 4096 < s.heap.size ∧ ¬ A (ad 4096)
def tk_ad (n : Nat) (ad ad' : Nat → Nat) : Prop := ad' 4096 = ad 4096 ∧ ∀ k, k < n → ad' k = ad k
theorem tk_ad.rf {n : Nat} {ad : Nat → Nat} : tk_ad n ad ad := ⟨rfl, fun _ _ => rfl⟩
/-- what holds behind the method's end -/
def tk_R (μ : tM) (γ : tG) (p : Program) (l : Launch) (e : Env) (R : Room) (s : State) (m : MethodId) (args : Array Value) (below : List Frame) (meth : Method) (c : Code) (A : Nat → Prop) (n : Nat) (ad : Nat → Nat) (cells slots : Nat) (Fq : State → Prop) (Q : Int32 → tH → Prop) : Prop :=
  ∀ (x : Int32) (h' : tH) (ad' : Nat → Nat) (H' : Heap) (locs' : List Loc) (cells' slots' : Nat) (lsA' : Array Slot) (pc' : Nat), cells' ≤ cells → slots' ≤ slots → n ≤ h'.1.length → tk_ad n ad ad' → Q x h' → tk_W γ s A ad' h' H' locs' →
    (μ.2.2.2.1 ≠ none → decode μ.2.1 pc' = .ok (.ireturn, 1) → W p l e R s m args below meth c H' locs' cells' slots' Fq (F0 m pc' lsA' [.int x])) ∧ (μ.2.2.2.1 = none → x = 0 → decode μ.2.1 pc' = .ok (.return_, 1) → W p l e R s m args below meth c H' locs' cells' slots' Fq (F0 m pc' lsA' []))
def tk_L (ad : Nat → Nat) (lsA : Array Slot) (n : Nat) (ls : List Value) : Prop := lsA.size = n ∧ lv_wf lsA ∧ ∀ (i : Nat) (v : Value), ls[i]? = some v → v ≠ .null → lsA[i]? = some (.val (tk_cv ad v))
def tk_G (μ : tM) (a b : Nat) (sx : tX) (pc : Nat) (ls st : List Value) (h : tH) (Q : Int32 → tH → Prop) : Prop :=
  ∀ (γ : tG) (p : Program) (l : Launch) (e : Env) (R : Room) (s : State) (m : MethodId) (args : Array Value) (below : List Frame) (meth : Method) (c : Code) (A : Nat → Prop) (H : Heap) (locs : List Loc) (cells slots : Nat) (Fq : State → Prop) (lsA : Array Slot) (ad : Nat → Nat),
    tk_C μ γ p R s m args meth c A → tk_X sx ad A s → cells + a ≤ R.cells ∧ slots + b ≤ R.slots → tk_R μ γ p l e R s m args below meth c A h.1.length ad (cells + a) (slots + b) Fq Q → tk_W γ s A ad h H locs → tk_L ad lsA μ.2.2.1 ls → W p l e R s m args below meth c H locs cells slots Fq (F0 m pc lsA (st.map (tk_cv ad)))
theorem g_iconst {μ : tM} {a b : Nat} {sx : tX} {pc : Nat} {ls st : List Value} {h : tH} {Q : Int32 → tH → Prop} {n : Int} {v : Int32} (hd : decode μ.2.1 pc = .ok (.iconst n, 1)) (hv : Int32.ofInt n = v) (k : tk_G μ a b sx (pc + 1) ls (.int v :: st) h Q) : tk_G μ a b sx pc ls st h Q := by
  intro γ p l e R s m args below meth c A H locs cells slots Fq lsA ad hC hX hB hR hW hL
  exact lv_iconst hC.1 hC.2.1 hd hv (k γ p l e R s m args below meth c A H locs cells slots Fq lsA ad hC hX hB hR hW hL)
theorem g_bipush {μ : tM} {a b : Nat} {sx : tX} {pc : Nat} {ls st : List Value} {h : tH} {Q : Int32 → tH → Prop} {n : Int} {v : Int32} (hd : decode μ.2.1 pc = .ok (.bipush n, 2)) (hv : (Int8.ofInt n).toInt32 = v) (k : tk_G μ a b sx (pc + 2) ls (.int v :: st) h Q) : tk_G μ a b sx pc ls st h Q := by
  intro γ p l e R s m args below meth c A H locs cells slots Fq lsA ad hC hX hB hR hW hL
  exact lv_bipush hC.1 hC.2.1 hd hv (k γ p l e R s m args below meth c A H locs cells slots Fq lsA ad hC hX hB hR hW hL)
theorem g_sipush {μ : tM} {a b : Nat} {sx : tX} {pc : Nat} {ls st : List Value} {h : tH} {Q : Int32 → tH → Prop} {n : Int} {v : Int32} (hd : decode μ.2.1 pc = .ok (.sipush n, 3)) (hv : (Int16.ofInt n).toInt32 = v) (k : tk_G μ a b sx (pc + 3) ls (.int v :: st) h Q) : tk_G μ a b sx pc ls st h Q := by
  intro γ p l e R s m args below meth c A H locs cells slots Fq lsA ad hC hX hB hR hW hL
  exact lv_sipush hC.1 hC.2.1 hd hv (k γ p l e R s m args below meth c A H locs cells slots Fq lsA ad hC hX hB hR hW hL)
theorem g_lconst {μ : tM} {a b : Nat} {sx : tX} {pc : Nat} {ls st : List Value} {h : tH} {Q : Int32 → tH → Prop} {n : Fin 2} {v : Int64} (hd : decode μ.2.1 pc = .ok (.lconst n, 1)) (hv : Int64.ofNat (n : Nat) = v) (k : tk_G μ a b sx (pc + 1) ls (.long v :: st) h Q) : tk_G μ a b sx pc ls st h Q := by
  intro γ p l e R s m args below meth c A H locs cells slots Fq lsA ad hC hX hB hR hW hL
  exact lv_lconst hC.1 hC.2.1 hd hv (k γ p l e R s m args below meth c A H locs cells slots Fq lsA ad hC hX hB hR hW hL)
theorem g_iload_n {μ : tM} {a b : Nat} {sx : tX} {pc : Nat} {ls st : List Value} {h : tH} {Q : Int32 → tH → Prop} {k : Fin 4} {x : Int32} (hd : decode μ.2.1 pc = .ok (.iload_n k, 1)) (hl : ls[(k : Nat)]? = some (.int x)) (kk : tk_G μ a b sx (pc + 1) ls (.int x :: st) h Q) : tk_G μ a b sx pc ls st h Q := by
  intro γ p l e R s m args below meth c A H locs cells slots Fq lsA ad hC hX hB hR hW hL
  exact lv_iload_n hC.1 hC.2.1 hd rfl (hL.2.2 _ _ hl (by intro e; cases e)) (kk γ p l e R s m args below meth c A H locs cells slots Fq lsA ad hC hX hB hR hW hL)
theorem g_iload {μ : tM} {a b : Nat} {sx : tX} {pc : Nat} {ls st : List Value} {h : tH} {Q : Int32 → tH → Prop} {i : Nat} {x : Int32} (hd : decode μ.2.1 pc = .ok (.iload i, 2)) (hl : ls[i]? = some (.int x)) (kk : tk_G μ a b sx (pc + 2) ls (.int x :: st) h Q) : tk_G μ a b sx pc ls st h Q := by
  intro γ p l e R s m args below meth c A H locs cells slots Fq lsA ad hC hX hB hR hW hL
  exact lv_iload hC.1 hC.2.1 hd (hL.2.2 _ _ hl (by intro e; cases e)) (kk γ p l e R s m args below meth c A H locs cells slots Fq lsA ad hC hX hB hR hW hL)
theorem g_lload_n {μ : tM} {a b : Nat} {sx : tX} {pc : Nat} {ls st : List Value} {h : tH} {Q : Int32 → tH → Prop} {k : Fin 4} {x : Int64} (hd : decode μ.2.1 pc = .ok (.lload_n k, 1)) (hl : ls[(k : Nat)]? = some (.long x)) (kk : tk_G μ a b sx (pc + 1) ls (.long x :: st) h Q) : tk_G μ a b sx pc ls st h Q := by
  intro γ p l e R s m args below meth c A H locs cells slots Fq lsA ad hC hX hB hR hW hL
  exact lv_lload_n hC.1 hC.2.1 hd rfl (hL.2.2 _ _ hl (by intro e; cases e)) (kk γ p l e R s m args below meth c A H locs cells slots Fq lsA ad hC hX hB hR hW hL)
theorem g_lload {μ : tM} {a b : Nat} {sx : tX} {pc : Nat} {ls st : List Value} {h : tH} {Q : Int32 → tH → Prop} {i : Nat} {x : Int64} (hd : decode μ.2.1 pc = .ok (.lload i, 2)) (hl : ls[i]? = some (.long x)) (kk : tk_G μ a b sx (pc + 2) ls (.long x :: st) h Q) : tk_G μ a b sx pc ls st h Q := by
  intro γ p l e R s m args below meth c A H locs cells slots Fq lsA ad hC hX hB hR hW hL
  exact lv_lload hC.1 hC.2.1 hd (hL.2.2 _ _ hl (by intro e; cases e)) (kk γ p l e R s m args below meth c A H locs cells slots Fq lsA ad hC hX hB hR hW hL)
theorem g_aload_n {μ : tM} {a b : Nat} {sx : tX} {pc : Nat} {ls st : List Value} {h : tH} {Q : Int32 → tH → Prop} {k : Fin 4} {x : Nat} (hd : decode μ.2.1 pc = .ok (.aload_n k, 1)) (hl : ls[(k : Nat)]? = some (.ref x)) (kk : tk_G μ a b sx (pc + 1) ls (.ref x :: st) h Q) : tk_G μ a b sx pc ls st h Q := by
  intro γ p l e R s m args below meth c A H locs cells slots Fq lsA ad hC hX hB hR hW hL
  exact lv_aload_n hC.1 hC.2.1 hd rfl (hL.2.2 _ _ hl (by intro e; cases e)) (kk γ p l e R s m args below meth c A H locs cells slots Fq lsA ad hC hX hB hR hW hL)
theorem g_aload {μ : tM} {a b : Nat} {sx : tX} {pc : Nat} {ls st : List Value} {h : tH} {Q : Int32 → tH → Prop} {i : Nat} {x : Nat} (hd : decode μ.2.1 pc = .ok (.aload i, 2)) (hl : ls[i]? = some (.ref x)) (kk : tk_G μ a b sx (pc + 2) ls (.ref x :: st) h Q) : tk_G μ a b sx pc ls st h Q := by
  intro γ p l e R s m args below meth c A H locs cells slots Fq lsA ad hC hX hB hR hW hL
  exact lv_aload hC.1 hC.2.1 hd (hL.2.2 _ _ hl (by intro e; cases e)) (kk γ p l e R s m args below meth c A H locs cells slots Fq lsA ad hC hX hB hR hW hL)
def tk_prs (ad : Nat → Nat) (ls : List Value) : List (Nat × Value) := ls.zipIdx.filterMap (fun q => if q.1 = .null then none else some (q.2, tk_cv ad q.1))
theorem tk_prs_mem {ad : Nat → Nat} {ls : List Value} {i : Nat} {w : Value} : (i, w) ∈ tk_prs ad ls ↔ ∃ v, ls[i]? = some v ∧ v ≠ .null ∧ w = tk_cv ad v := by
  unfold tk_prs
  rw [List.mem_filterMap]
  constructor
  · rintro ⟨⟨v, j⟩, h1, h2⟩
    by_cases hv : v = .null
    · simp [hv] at h2
    · simp only [hv, if_false, Option.some.injEq, Prod.mk.injEq] at h2
      obtain ⟨e1, e2⟩ := h2
      subst e1
      exact ⟨v, by simpa [List.mk_mem_zipIdx_iff_getElem?] using h1, hv, e2.symm⟩
  · rintro ⟨v, h1, h2, h3⟩
    exact ⟨(v, i), by simpa [List.mk_mem_zipIdx_iff_getElem?] using h1, by simp [h2, h3]⟩
theorem tk_L.has {ad : Nat → Nat} {lsA : Array Slot} {n : Nat} {ls : List Value} (h : tk_L ad lsA n ls) : lv_has lsA n (tk_prs ad ls) := by
  refine ⟨h.1, h.2.1, fun q hq => ?_⟩
  obtain ⟨i, w⟩ := q
  obtain ⟨v, h1, h2, h3⟩ := tk_prs_mem.mp hq
  rw [h3]
  exact h.2.2 i v h1 h2
/-- no long stands just below place i -/
def tk_nl (ls : List Value) (i : Nat) : Bool := match i with
  | 0 => true
  | j + 1 => match ls[j]? with
    | some (.long _) => false
    | some (.double _) => false
    | _ => true
theorem tk_cat {ad : Nat → Nat} {v : Value} (h : (tk_cv ad v).category = 2) : (∃ x, v = .long x) ∨ ∃ x, v = .double x := by
  cases v <;> simp_all [tk_cv, Value.category]
theorem tk_L.set {ad : Nat → Nat} {lsB : Array Slot} {n i : Nat} {ls : List Value} {v : Value} (hn : tk_nl ls i = true) (h : lv_has lsB n ((i, tk_cv ad v) :: (tk_prs ad ls).filter (fun q => !(q.1 == i) && !(q.1 + 1 == i && q.2.category == 2)))) : tk_L ad lsB n (ls.set i v) := by
  refine ⟨h.1, h.2.1, fun j w hj hw => ?_⟩
  by_cases hji : j = i
  · subst hji
    have hl : j < ls.length := by
      have := (List.getElem?_eq_some_iff.mp hj).1
      simpa using this
    rw [List.getElem?_set_self hl] at hj
    cases hj
    exact h.2.2 (j, tk_cv ad v) List.mem_cons_self
  · rw [List.getElem?_set_ne (Ne.symm hji)] at hj
    refine h.2.2 (j, tk_cv ad w) (List.mem_cons_of_mem _ (List.mem_filter.mpr ⟨tk_prs_mem.mpr ⟨w, hj, hw, rfl⟩, ?_⟩))
    by_cases hc : j + 1 = i ∧ (tk_cv ad w).category = 2
    · exfalso
      obtain ⟨e, hc⟩ := hc
      subst e
      rcases tk_cat hc with ⟨x, rfl⟩ | ⟨x, rfl⟩ <;> simp [tk_nl, hj] at hn
    · simp only [Bool.and_eq_true, Bool.not_eq_true', beq_eq_false_iff_ne, ne_eq, Bool.and_eq_false_iff]
      refine ⟨hji, ?_⟩
      by_cases h1 : j + 1 = i
      · exact Or.inr (fun e => hc ⟨h1, e⟩)
      · exact Or.inl h1
theorem g_istore_n {μ : tM} {a b : Nat} {sx : tX} {pc : Nat} {ls st : List Value} {h : tH} {Q : Int32 → tH → Prop} {k : Fin 4} {x : Int32} {ls' : List Value} (hd : decode μ.2.1 pc = .ok (.istore_n k, 1)) (hn : tk_nl ls (k : Nat) = true) (hk : (k : Nat) < μ.2.2.1) (hl : ls.set (k : Nat) (.int x) = ls') (kk : tk_G μ a b sx (pc + 1) ls' st h Q) : tk_G μ a b sx pc ls (.int x :: st) h Q := by
  intro γ p l e R s m args below meth c A H locs cells slots Fq lsA ad hC hX hB hR hW hL
  subst hl
  exact lv_istore_n hC.1 hC.2.1 hd rfl hL.has hk rfl (fun lsB h2 => kk γ p l e R s m args below meth c A H locs cells slots Fq lsB ad hC hX hB hR hW (tk_L.set (v := .int x) hn h2))
theorem g_istore {μ : tM} {a b : Nat} {sx : tX} {pc : Nat} {ls st : List Value} {h : tH} {Q : Int32 → tH → Prop} {i : Nat} {x : Int32} {ls' : List Value} (hd : decode μ.2.1 pc = .ok (.istore i, 2)) (hn : tk_nl ls i = true) (hk : i < μ.2.2.1) (hl : ls.set i (.int x) = ls') (kk : tk_G μ a b sx (pc + 2) ls' st h Q) : tk_G μ a b sx pc ls (.int x :: st) h Q := by
  intro γ p l e R s m args below meth c A H locs cells slots Fq lsA ad hC hX hB hR hW hL
  subst hl
  exact lv_istore hC.1 hC.2.1 hd hL.has hk rfl (fun lsB h2 => kk γ p l e R s m args below meth c A H locs cells slots Fq lsB ad hC hX hB hR hW (tk_L.set (v := .int x) hn h2))
theorem g_astore_n {μ : tM} {a b : Nat} {sx : tX} {pc : Nat} {ls st : List Value} {h : tH} {Q : Int32 → tH → Prop} {k : Fin 4} {x : Nat} {ls' : List Value} (hd : decode μ.2.1 pc = .ok (.astore_n k, 1)) (hn : tk_nl ls (k : Nat) = true) (hk : (k : Nat) < μ.2.2.1) (hl : ls.set (k : Nat) (.ref x) = ls') (kk : tk_G μ a b sx (pc + 1) ls' st h Q) : tk_G μ a b sx pc ls (.ref x :: st) h Q := by
  intro γ p l e R s m args below meth c A H locs cells slots Fq lsA ad hC hX hB hR hW hL
  subst hl
  exact lv_astore_n hC.1 hC.2.1 hd rfl hL.has hk rfl (fun lsB h2 => kk γ p l e R s m args below meth c A H locs cells slots Fq lsB ad hC hX hB hR hW (tk_L.set (v := .ref x) hn h2))
theorem g_astore {μ : tM} {a b : Nat} {sx : tX} {pc : Nat} {ls st : List Value} {h : tH} {Q : Int32 → tH → Prop} {i : Nat} {x : Nat} {ls' : List Value} (hd : decode μ.2.1 pc = .ok (.astore i, 2)) (hn : tk_nl ls i = true) (hk : i < μ.2.2.1) (hl : ls.set i (.ref x) = ls') (kk : tk_G μ a b sx (pc + 2) ls' st h Q) : tk_G μ a b sx pc ls (.ref x :: st) h Q := by
  intro γ p l e R s m args below meth c A H locs cells slots Fq lsA ad hC hX hB hR hW hL
  subst hl
  exact lv_astore hC.1 hC.2.1 hd hL.has hk rfl (fun lsB h2 => kk γ p l e R s m args below meth c A H locs cells slots Fq lsB ad hC hX hB hR hW (tk_L.set (v := .ref x) hn h2))
theorem g_iinc {μ : tM} {a b : Nat} {sx : tX} {pc : Nat} {ls st : List Value} {h : tH} {Q : Int32 → tH → Prop} {i : Nat} {n : Int} {x v : Int32} {ls' : List Value} (hd : decode μ.2.1 pc = .ok (.iinc i n, 3)) (hx : ls[i]? = some (.int x)) (hn : tk_nl ls i = true) (hk : i < μ.2.2.1) (hv : x + Int32.ofInt n = v) (hl : ls.set i (.int v) = ls') (kk : tk_G μ a b sx (pc + 3) ls' st h Q) : tk_G μ a b sx pc ls st h Q := by
  intro γ p l e R s m args below meth c A H locs cells slots Fq lsA ad hC hX hB hR hW hL
  subst hl
  obtain ⟨z, hz⟩ := List.getElem?_of_mem (tk_prs_mem.mpr ⟨_, hx, (by intro e; cases e), rfl⟩ : (i, tk_cv ad (.int x)) ∈ tk_prs ad ls)
  exact lv_iinc (k := z) hC.1 hC.2.1 hd hL.has hz hv hk rfl (fun lsB h2 => kk γ p l e R s m args below meth c A H locs cells slots Fq lsB ad hC hX hB hR hW (tk_L.set (v := .int v) hn h2))
theorem g_iadd {μ : tM} {a b : Nat} {sx : tX} {pc : Nat} {ls st : List Value} {h : tH} {Q : Int32 → tH → Prop} {x y : Int32} (hd : decode μ.2.1 pc = .ok (.iadd, 1))  (k : tk_G μ a b sx (pc + 1) ls (.int (x + y) :: st) h Q) : tk_G μ a b sx pc ls (.int y :: .int x :: st) h Q := by
  intro γ p l e R s m args below meth c A H locs cells slots Fq lsA ad hC hX hB hR hW hL
  exact lv_iadd hC.1 hC.2.1 hd  (k γ p l e R s m args below meth c A H locs cells slots Fq lsA ad hC hX hB hR hW hL)
theorem g_isub {μ : tM} {a b : Nat} {sx : tX} {pc : Nat} {ls st : List Value} {h : tH} {Q : Int32 → tH → Prop} {x y : Int32} (hd : decode μ.2.1 pc = .ok (.isub, 1))  (k : tk_G μ a b sx (pc + 1) ls (.int (x - y) :: st) h Q) : tk_G μ a b sx pc ls (.int y :: .int x :: st) h Q := by
  intro γ p l e R s m args below meth c A H locs cells slots Fq lsA ad hC hX hB hR hW hL
  exact lv_isub hC.1 hC.2.1 hd  (k γ p l e R s m args below meth c A H locs cells slots Fq lsA ad hC hX hB hR hW hL)
theorem g_imul {μ : tM} {a b : Nat} {sx : tX} {pc : Nat} {ls st : List Value} {h : tH} {Q : Int32 → tH → Prop} {x y : Int32} (hd : decode μ.2.1 pc = .ok (.imul, 1))  (k : tk_G μ a b sx (pc + 1) ls (.int (x * y) :: st) h Q) : tk_G μ a b sx pc ls (.int y :: .int x :: st) h Q := by
  intro γ p l e R s m args below meth c A H locs cells slots Fq lsA ad hC hX hB hR hW hL
  exact lv_imul hC.1 hC.2.1 hd  (k γ p l e R s m args below meth c A H locs cells slots Fq lsA ad hC hX hB hR hW hL)
theorem g_iand {μ : tM} {a b : Nat} {sx : tX} {pc : Nat} {ls st : List Value} {h : tH} {Q : Int32 → tH → Prop} {x y : Int32} (hd : decode μ.2.1 pc = .ok (.iand, 1))  (k : tk_G μ a b sx (pc + 1) ls (.int (x &&& y) :: st) h Q) : tk_G μ a b sx pc ls (.int y :: .int x :: st) h Q := by
  intro γ p l e R s m args below meth c A H locs cells slots Fq lsA ad hC hX hB hR hW hL
  exact lv_iand hC.1 hC.2.1 hd  (k γ p l e R s m args below meth c A H locs cells slots Fq lsA ad hC hX hB hR hW hL)
theorem g_ior {μ : tM} {a b : Nat} {sx : tX} {pc : Nat} {ls st : List Value} {h : tH} {Q : Int32 → tH → Prop} {x y : Int32} (hd : decode μ.2.1 pc = .ok (.ior, 1))  (k : tk_G μ a b sx (pc + 1) ls (.int (x ||| y) :: st) h Q) : tk_G μ a b sx pc ls (.int y :: .int x :: st) h Q := by
  intro γ p l e R s m args below meth c A H locs cells slots Fq lsA ad hC hX hB hR hW hL
  exact lv_ior hC.1 hC.2.1 hd  (k γ p l e R s m args below meth c A H locs cells slots Fq lsA ad hC hX hB hR hW hL)
theorem g_ixor {μ : tM} {a b : Nat} {sx : tX} {pc : Nat} {ls st : List Value} {h : tH} {Q : Int32 → tH → Prop} {x y : Int32} (hd : decode μ.2.1 pc = .ok (.ixor, 1))  (k : tk_G μ a b sx (pc + 1) ls (.int (x ^^^ y) :: st) h Q) : tk_G μ a b sx pc ls (.int y :: .int x :: st) h Q := by
  intro γ p l e R s m args below meth c A H locs cells slots Fq lsA ad hC hX hB hR hW hL
  exact lv_ixor hC.1 hC.2.1 hd  (k γ p l e R s m args below meth c A H locs cells slots Fq lsA ad hC hX hB hR hW hL)
theorem g_ishl {μ : tM} {a b : Nat} {sx : tX} {pc : Nat} {ls st : List Value} {h : tH} {Q : Int32 → tH → Prop} {x y : Int32} (hd : decode μ.2.1 pc = .ok (.ishl, 1))  (k : tk_G μ a b sx (pc + 1) ls (.int (x <<< (y &&& 31)) :: st) h Q) : tk_G μ a b sx pc ls (.int y :: .int x :: st) h Q := by
  intro γ p l e R s m args below meth c A H locs cells slots Fq lsA ad hC hX hB hR hW hL
  exact lv_ishl hC.1 hC.2.1 hd  (k γ p l e R s m args below meth c A H locs cells slots Fq lsA ad hC hX hB hR hW hL)
theorem g_ishr {μ : tM} {a b : Nat} {sx : tX} {pc : Nat} {ls st : List Value} {h : tH} {Q : Int32 → tH → Prop} {x y : Int32} (hd : decode μ.2.1 pc = .ok (.ishr, 1))  (k : tk_G μ a b sx (pc + 1) ls (.int (x >>> (y &&& 31)) :: st) h Q) : tk_G μ a b sx pc ls (.int y :: .int x :: st) h Q := by
  intro γ p l e R s m args below meth c A H locs cells slots Fq lsA ad hC hX hB hR hW hL
  exact lv_ishr hC.1 hC.2.1 hd  (k γ p l e R s m args below meth c A H locs cells slots Fq lsA ad hC hX hB hR hW hL)
theorem g_ineg {μ : tM} {a b : Nat} {sx : tX} {pc : Nat} {ls st : List Value} {h : tH} {Q : Int32 → tH → Prop} {x : Int32} (hd : decode μ.2.1 pc = .ok (.ineg, 1))  (k : tk_G μ a b sx (pc + 1) ls (.int (-x) :: st) h Q) : tk_G μ a b sx pc ls (.int x :: st) h Q := by
  intro γ p l e R s m args below meth c A H locs cells slots Fq lsA ad hC hX hB hR hW hL
  exact lv_ineg hC.1 hC.2.1 hd  (k γ p l e R s m args below meth c A H locs cells slots Fq lsA ad hC hX hB hR hW hL)
theorem g_idiv {μ : tM} {a b : Nat} {sx : tX} {pc : Nat} {ls st : List Value} {h : tH} {Q : Int32 → tH → Prop} {x y : Int32} (hd : decode μ.2.1 pc = .ok (.idiv, 1)) (hne : ¬ y = 0) (k : tk_G μ a b sx (pc + 1) ls (.int (x / y) :: st) h Q) : tk_G μ a b sx pc ls (.int y :: .int x :: st) h Q := by
  intro γ p l e R s m args below meth c A H locs cells slots Fq lsA ad hC hX hB hR hW hL
  exact lv_idiv hC.1 hC.2.1 hd hne (k γ p l e R s m args below meth c A H locs cells slots Fq lsA ad hC hX hB hR hW hL)
theorem g_irem {μ : tM} {a b : Nat} {sx : tX} {pc : Nat} {ls st : List Value} {h : tH} {Q : Int32 → tH → Prop} {x y : Int32} (hd : decode μ.2.1 pc = .ok (.irem, 1)) (hne : ¬ y = 0) (k : tk_G μ a b sx (pc + 1) ls (.int (x - x / y * y) :: st) h Q) : tk_G μ a b sx pc ls (.int y :: .int x :: st) h Q := by
  intro γ p l e R s m args below meth c A H locs cells slots Fq lsA ad hC hX hB hR hW hL
  exact lv_irem hC.1 hC.2.1 hd hne (k γ p l e R s m args below meth c A H locs cells slots Fq lsA ad hC hX hB hR hW hL)
theorem g_land {μ : tM} {a b : Nat} {sx : tX} {pc : Nat} {ls st : List Value} {h : tH} {Q : Int32 → tH → Prop} {x y : Int64} (hd : decode μ.2.1 pc = .ok (.land, 1))  (k : tk_G μ a b sx (pc + 1) ls (.long (x &&& y) :: st) h Q) : tk_G μ a b sx pc ls (.long y :: .long x :: st) h Q := by
  intro γ p l e R s m args below meth c A H locs cells slots Fq lsA ad hC hX hB hR hW hL
  exact lv_land hC.1 hC.2.1 hd  (k γ p l e R s m args below meth c A H locs cells slots Fq lsA ad hC hX hB hR hW hL)
theorem g_lor {μ : tM} {a b : Nat} {sx : tX} {pc : Nat} {ls st : List Value} {h : tH} {Q : Int32 → tH → Prop} {x y : Int64} (hd : decode μ.2.1 pc = .ok (.lor, 1))  (k : tk_G μ a b sx (pc + 1) ls (.long (x ||| y) :: st) h Q) : tk_G μ a b sx pc ls (.long y :: .long x :: st) h Q := by
  intro γ p l e R s m args below meth c A H locs cells slots Fq lsA ad hC hX hB hR hW hL
  exact lv_lor hC.1 hC.2.1 hd  (k γ p l e R s m args below meth c A H locs cells slots Fq lsA ad hC hX hB hR hW hL)
theorem g_lsub {μ : tM} {a b : Nat} {sx : tX} {pc : Nat} {ls st : List Value} {h : tH} {Q : Int32 → tH → Prop} {x y : Int64} (hd : decode μ.2.1 pc = .ok (.lsub, 1))  (k : tk_G μ a b sx (pc + 1) ls (.long (x - y) :: st) h Q) : tk_G μ a b sx pc ls (.long y :: .long x :: st) h Q := by
  intro γ p l e R s m args below meth c A H locs cells slots Fq lsA ad hC hX hB hR hW hL
  exact lv_lsub hC.1 hC.2.1 hd  (k γ p l e R s m args below meth c A H locs cells slots Fq lsA ad hC hX hB hR hW hL)
theorem g_ladd {μ : tM} {a b : Nat} {sx : tX} {pc : Nat} {ls st : List Value} {h : tH} {Q : Int32 → tH → Prop} {x y : Int64} (hd : decode μ.2.1 pc = .ok (.ladd, 1))  (k : tk_G μ a b sx (pc + 1) ls (.long (x + y) :: st) h Q) : tk_G μ a b sx pc ls (.long y :: .long x :: st) h Q := by
  intro γ p l e R s m args below meth c A H locs cells slots Fq lsA ad hC hX hB hR hW hL
  exact lv_ladd hC.1 hC.2.1 hd  (k γ p l e R s m args below meth c A H locs cells slots Fq lsA ad hC hX hB hR hW hL)
theorem g_lshl {μ : tM} {a b : Nat} {sx : tX} {pc : Nat} {ls st : List Value} {h : tH} {Q : Int32 → tH → Prop} {x : Int64} {y : Int32} (hd : decode μ.2.1 pc = .ok (.lshl, 1))  (k : tk_G μ a b sx (pc + 1) ls (.long (x <<< (y.toInt64 &&& 63)) :: st) h Q) : tk_G μ a b sx pc ls (.int y :: .long x :: st) h Q := by
  intro γ p l e R s m args below meth c A H locs cells slots Fq lsA ad hC hX hB hR hW hL
  exact lv_lshl hC.1 hC.2.1 hd rfl (k γ p l e R s m args below meth c A H locs cells slots Fq lsA ad hC hX hB hR hW hL)
theorem g_lshr {μ : tM} {a b : Nat} {sx : tX} {pc : Nat} {ls st : List Value} {h : tH} {Q : Int32 → tH → Prop} {x : Int64} {y : Int32} (hd : decode μ.2.1 pc = .ok (.lshr, 1))  (k : tk_G μ a b sx (pc + 1) ls (.long (x >>> (y.toInt64 &&& 63)) :: st) h Q) : tk_G μ a b sx pc ls (.int y :: .long x :: st) h Q := by
  intro γ p l e R s m args below meth c A H locs cells slots Fq lsA ad hC hX hB hR hW hL
  exact lv_lshr hC.1 hC.2.1 hd rfl (k γ p l e R s m args below meth c A H locs cells slots Fq lsA ad hC hX hB hR hW hL)
theorem g_i2l {μ : tM} {a b : Nat} {sx : tX} {pc : Nat} {ls st : List Value} {h : tH} {Q : Int32 → tH → Prop} {x : Int32} (hd : decode μ.2.1 pc = .ok (.i2l, 1))  (k : tk_G μ a b sx (pc + 1) ls (.long x.toInt64 :: st) h Q) : tk_G μ a b sx pc ls (.int x :: st) h Q := by
  intro γ p l e R s m args below meth c A H locs cells slots Fq lsA ad hC hX hB hR hW hL
  exact lv_i2l hC.1 hC.2.1 hd rfl (k γ p l e R s m args below meth c A H locs cells slots Fq lsA ad hC hX hB hR hW hL)
theorem g_l2i {μ : tM} {a b : Nat} {sx : tX} {pc : Nat} {ls st : List Value} {h : tH} {Q : Int32 → tH → Prop} {x : Int64} (hd : decode μ.2.1 pc = .ok (.l2i, 1))  (k : tk_G μ a b sx (pc + 1) ls (.int x.toInt32 :: st) h Q) : tk_G μ a b sx pc ls (.long x :: st) h Q := by
  intro γ p l e R s m args below meth c A H locs cells slots Fq lsA ad hC hX hB hR hW hL
  exact lv_l2i hC.1 hC.2.1 hd rfl (k γ p l e R s m args below meth c A H locs cells slots Fq lsA ad hC hX hB hR hW hL)
theorem g_i2b {μ : tM} {a b : Nat} {sx : tX} {pc : Nat} {ls st : List Value} {h : tH} {Q : Int32 → tH → Prop} {x : Int32} (hd : decode μ.2.1 pc = .ok (.i2b, 1))  (k : tk_G μ a b sx (pc + 1) ls (.int x.toInt8.toInt32 :: st) h Q) : tk_G μ a b sx pc ls (.int x :: st) h Q := by
  intro γ p l e R s m args below meth c A H locs cells slots Fq lsA ad hC hX hB hR hW hL
  exact lv_i2b hC.1 hC.2.1 hd rfl (k γ p l e R s m args below meth c A H locs cells slots Fq lsA ad hC hX hB hR hW hL)
theorem g_i2s {μ : tM} {a b : Nat} {sx : tX} {pc : Nat} {ls st : List Value} {h : tH} {Q : Int32 → tH → Prop} {x : Int32} (hd : decode μ.2.1 pc = .ok (.i2s, 1))  (k : tk_G μ a b sx (pc + 1) ls (.int x.toInt16.toInt32 :: st) h Q) : tk_G μ a b sx pc ls (.int x :: st) h Q := by
  intro γ p l e R s m args below meth c A H locs cells slots Fq lsA ad hC hX hB hR hW hL
  exact lv_i2s hC.1 hC.2.1 hd rfl (k γ p l e R s m args below meth c A H locs cells slots Fq lsA ad hC hX hB hR hW hL)
theorem g_lcmp {μ : tM} {a b : Nat} {sx : tX} {pc : Nat} {ls st : List Value} {h : tH} {Q : Int32 → tH → Prop} {x y : Int64} (hd : decode μ.2.1 pc = .ok (.lcmp, 1))  (k : tk_G μ a b sx (pc + 1) ls (.int (lg_cmp x y) :: st) h Q) : tk_G μ a b sx pc ls (.long y :: .long x :: st) h Q := by
  intro γ p l e R s m args below meth c A H locs cells slots Fq lsA ad hC hX hB hR hW hL
  exact W.lcmp hC.1 hC.2.1 hd  (k γ p l e R s m args below meth c A H locs cells slots Fq lsA ad hC hX hB hR hW hL)
theorem tk_cat1 {ad : Nat → Nat} {v : Value} (h : v.category = 1) : (tk_cv ad v).category = 1 := by cases v <;> simp_all [tk_cv, Value.category]
theorem g_dup {μ : tM} {a b : Nat} {sx : tX} {pc : Nat} {ls st : List Value} {h : tH} {Q : Int32 → tH → Prop} {v : Value} (hd : decode μ.2.1 pc = .ok (.dup, 1)) (hv : v.category = 1) (k : tk_G μ a b sx (pc + 1) ls (v :: v :: st) h Q) : tk_G μ a b sx pc ls (v :: st) h Q := by
  intro γ p l e R s m args below meth c A H locs cells slots Fq lsA ad hC hX hB hR hW hL
  exact lv_dup hC.1 hC.2.1 hd (tk_cat1 hv) (k γ p l e R s m args below meth c A H locs cells slots Fq lsA ad hC hX hB hR hW hL)
theorem g_pop {μ : tM} {a b : Nat} {sx : tX} {pc : Nat} {ls st : List Value} {h : tH} {Q : Int32 → tH → Prop} {v : Value} (hd : decode μ.2.1 pc = .ok (.pop, 1)) (hv : v.category = 1) (k : tk_G μ a b sx (pc + 1) ls st h Q) : tk_G μ a b sx pc ls (v :: st) h Q := by
  intro γ p l e R s m args below meth c A H locs cells slots Fq lsA ad hC hX hB hR hW hL
  exact lv_pop hC.1 hC.2.1 hd (tk_cat1 hv) (k γ p l e R s m args below meth c A H locs cells slots Fq lsA ad hC hX hB hR hW hL)
theorem g_dup2 {μ : tM} {a b : Nat} {sx : tX} {pc : Nat} {ls st : List Value} {h : tH} {Q : Int32 → tH → Prop} {v w : Value} (hd : decode μ.2.1 pc = .ok (.dup2, 1)) (hv : v.category = 1) (hw : w.category = 1) (k : tk_G μ a b sx (pc + 1) ls (v :: w :: v :: w :: st) h Q) : tk_G μ a b sx pc ls (v :: w :: st) h Q := by
  intro γ p l e R s m args below meth c A H locs cells slots Fq lsA ad hC hX hB hR hW hL
  exact lv_dup2_11 hC.1 hC.2.1 hd (tk_cat1 hv) (tk_cat1 hw) (k γ p l e R s m args below meth c A H locs cells slots Fq lsA ad hC hX hB hR hW hL)
theorem g_if_eq {μ : tM} {a b : Nat} {sx : tX} {pc : Nat} {ls st : List Value} {h : tH} {Q : Int32 → tH → Prop} {x : Int32} {off : Int} {tgt : Nat} (hd : decode μ.2.1 pc = .ok (.ifCond .eq off, 3)) (ht : (pc : Int) + off = (tgt : Int)) (kt : x = 0 → tk_G μ a b sx tgt ls st h Q) (kf : ¬ x = 0 → tk_G μ a b sx (pc + 3) ls st h Q) : tk_G μ a b sx pc ls (.int x :: st) h Q := by
  intro γ p l e R s m args below meth c A H locs cells slots Fq lsA ad hC hX hB hR hW hL
  exact lv_if_eq hC.1 hC.2.1 hd ht (fun q => kt q γ p l e R s m args below meth c A H locs cells slots Fq lsA ad hC hX hB hR hW hL) (fun q => kf q γ p l e R s m args below meth c A H locs cells slots Fq lsA ad hC hX hB hR hW hL)
theorem g_icmp_eq {μ : tM} {a b : Nat} {sx : tX} {pc : Nat} {ls st : List Value} {h : tH} {Q : Int32 → tH → Prop} {x y : Int32} {off : Int} {tgt : Nat} (hd : decode μ.2.1 pc = .ok (.if_icmp .eq off, 3)) (ht : (pc : Int) + off = (tgt : Int)) (kt : x = y → tk_G μ a b sx tgt ls st h Q) (kf : ¬ x = y → tk_G μ a b sx (pc + 3) ls st h Q) : tk_G μ a b sx pc ls (.int y :: .int x :: st) h Q := by
  intro γ p l e R s m args below meth c A H locs cells slots Fq lsA ad hC hX hB hR hW hL
  exact lv_icmp_eq hC.1 hC.2.1 hd ht (fun q => kt q γ p l e R s m args below meth c A H locs cells slots Fq lsA ad hC hX hB hR hW hL) (fun q => kf q γ p l e R s m args below meth c A H locs cells slots Fq lsA ad hC hX hB hR hW hL)
theorem g_if_ne {μ : tM} {a b : Nat} {sx : tX} {pc : Nat} {ls st : List Value} {h : tH} {Q : Int32 → tH → Prop} {x : Int32} {off : Int} {tgt : Nat} (hd : decode μ.2.1 pc = .ok (.ifCond .ne off, 3)) (ht : (pc : Int) + off = (tgt : Int)) (kt : ¬ x = 0 → tk_G μ a b sx tgt ls st h Q) (kf : x = 0 → tk_G μ a b sx (pc + 3) ls st h Q) : tk_G μ a b sx pc ls (.int x :: st) h Q := by
  intro γ p l e R s m args below meth c A H locs cells slots Fq lsA ad hC hX hB hR hW hL
  exact lv_if_ne hC.1 hC.2.1 hd ht (fun q => kt q γ p l e R s m args below meth c A H locs cells slots Fq lsA ad hC hX hB hR hW hL) (fun q => kf q γ p l e R s m args below meth c A H locs cells slots Fq lsA ad hC hX hB hR hW hL)
theorem g_icmp_ne {μ : tM} {a b : Nat} {sx : tX} {pc : Nat} {ls st : List Value} {h : tH} {Q : Int32 → tH → Prop} {x y : Int32} {off : Int} {tgt : Nat} (hd : decode μ.2.1 pc = .ok (.if_icmp .ne off, 3)) (ht : (pc : Int) + off = (tgt : Int)) (kt : ¬ x = y → tk_G μ a b sx tgt ls st h Q) (kf : x = y → tk_G μ a b sx (pc + 3) ls st h Q) : tk_G μ a b sx pc ls (.int y :: .int x :: st) h Q := by
  intro γ p l e R s m args below meth c A H locs cells slots Fq lsA ad hC hX hB hR hW hL
  exact lv_icmp_ne hC.1 hC.2.1 hd ht (fun q => kt q γ p l e R s m args below meth c A H locs cells slots Fq lsA ad hC hX hB hR hW hL) (fun q => kf q γ p l e R s m args below meth c A H locs cells slots Fq lsA ad hC hX hB hR hW hL)
theorem g_if_lt {μ : tM} {a b : Nat} {sx : tX} {pc : Nat} {ls st : List Value} {h : tH} {Q : Int32 → tH → Prop} {x : Int32} {off : Int} {tgt : Nat} (hd : decode μ.2.1 pc = .ok (.ifCond .lt off, 3)) (ht : (pc : Int) + off = (tgt : Int)) (kt : x < 0 → tk_G μ a b sx tgt ls st h Q) (kf : ¬ x < 0 → tk_G μ a b sx (pc + 3) ls st h Q) : tk_G μ a b sx pc ls (.int x :: st) h Q := by
  intro γ p l e R s m args below meth c A H locs cells slots Fq lsA ad hC hX hB hR hW hL
  exact lv_if_lt hC.1 hC.2.1 hd ht (fun q => kt q γ p l e R s m args below meth c A H locs cells slots Fq lsA ad hC hX hB hR hW hL) (fun q => kf q γ p l e R s m args below meth c A H locs cells slots Fq lsA ad hC hX hB hR hW hL)
theorem g_icmp_lt {μ : tM} {a b : Nat} {sx : tX} {pc : Nat} {ls st : List Value} {h : tH} {Q : Int32 → tH → Prop} {x y : Int32} {off : Int} {tgt : Nat} (hd : decode μ.2.1 pc = .ok (.if_icmp .lt off, 3)) (ht : (pc : Int) + off = (tgt : Int)) (kt : x < y → tk_G μ a b sx tgt ls st h Q) (kf : ¬ x < y → tk_G μ a b sx (pc + 3) ls st h Q) : tk_G μ a b sx pc ls (.int y :: .int x :: st) h Q := by
  intro γ p l e R s m args below meth c A H locs cells slots Fq lsA ad hC hX hB hR hW hL
  exact lv_icmp_lt hC.1 hC.2.1 hd ht (fun q => kt q γ p l e R s m args below meth c A H locs cells slots Fq lsA ad hC hX hB hR hW hL) (fun q => kf q γ p l e R s m args below meth c A H locs cells slots Fq lsA ad hC hX hB hR hW hL)
theorem g_if_ge {μ : tM} {a b : Nat} {sx : tX} {pc : Nat} {ls st : List Value} {h : tH} {Q : Int32 → tH → Prop} {x : Int32} {off : Int} {tgt : Nat} (hd : decode μ.2.1 pc = .ok (.ifCond .ge off, 3)) (ht : (pc : Int) + off = (tgt : Int)) (kt : 0 ≤ x → tk_G μ a b sx tgt ls st h Q) (kf : ¬ 0 ≤ x → tk_G μ a b sx (pc + 3) ls st h Q) : tk_G μ a b sx pc ls (.int x :: st) h Q := by
  intro γ p l e R s m args below meth c A H locs cells slots Fq lsA ad hC hX hB hR hW hL
  exact lv_if_ge hC.1 hC.2.1 hd ht (fun q => kt q γ p l e R s m args below meth c A H locs cells slots Fq lsA ad hC hX hB hR hW hL) (fun q => kf q γ p l e R s m args below meth c A H locs cells slots Fq lsA ad hC hX hB hR hW hL)
theorem g_icmp_ge {μ : tM} {a b : Nat} {sx : tX} {pc : Nat} {ls st : List Value} {h : tH} {Q : Int32 → tH → Prop} {x y : Int32} {off : Int} {tgt : Nat} (hd : decode μ.2.1 pc = .ok (.if_icmp .ge off, 3)) (ht : (pc : Int) + off = (tgt : Int)) (kt : y ≤ x → tk_G μ a b sx tgt ls st h Q) (kf : ¬ y ≤ x → tk_G μ a b sx (pc + 3) ls st h Q) : tk_G μ a b sx pc ls (.int y :: .int x :: st) h Q := by
  intro γ p l e R s m args below meth c A H locs cells slots Fq lsA ad hC hX hB hR hW hL
  exact lv_icmp_ge hC.1 hC.2.1 hd ht (fun q => kt q γ p l e R s m args below meth c A H locs cells slots Fq lsA ad hC hX hB hR hW hL) (fun q => kf q γ p l e R s m args below meth c A H locs cells slots Fq lsA ad hC hX hB hR hW hL)
theorem g_if_gt {μ : tM} {a b : Nat} {sx : tX} {pc : Nat} {ls st : List Value} {h : tH} {Q : Int32 → tH → Prop} {x : Int32} {off : Int} {tgt : Nat} (hd : decode μ.2.1 pc = .ok (.ifCond .gt off, 3)) (ht : (pc : Int) + off = (tgt : Int)) (kt : 0 < x → tk_G μ a b sx tgt ls st h Q) (kf : ¬ 0 < x → tk_G μ a b sx (pc + 3) ls st h Q) : tk_G μ a b sx pc ls (.int x :: st) h Q := by
  intro γ p l e R s m args below meth c A H locs cells slots Fq lsA ad hC hX hB hR hW hL
  exact lv_if_gt hC.1 hC.2.1 hd ht (fun q => kt q γ p l e R s m args below meth c A H locs cells slots Fq lsA ad hC hX hB hR hW hL) (fun q => kf q γ p l e R s m args below meth c A H locs cells slots Fq lsA ad hC hX hB hR hW hL)
theorem g_icmp_gt {μ : tM} {a b : Nat} {sx : tX} {pc : Nat} {ls st : List Value} {h : tH} {Q : Int32 → tH → Prop} {x y : Int32} {off : Int} {tgt : Nat} (hd : decode μ.2.1 pc = .ok (.if_icmp .gt off, 3)) (ht : (pc : Int) + off = (tgt : Int)) (kt : y < x → tk_G μ a b sx tgt ls st h Q) (kf : ¬ y < x → tk_G μ a b sx (pc + 3) ls st h Q) : tk_G μ a b sx pc ls (.int y :: .int x :: st) h Q := by
  intro γ p l e R s m args below meth c A H locs cells slots Fq lsA ad hC hX hB hR hW hL
  exact lv_icmp_gt hC.1 hC.2.1 hd ht (fun q => kt q γ p l e R s m args below meth c A H locs cells slots Fq lsA ad hC hX hB hR hW hL) (fun q => kf q γ p l e R s m args below meth c A H locs cells slots Fq lsA ad hC hX hB hR hW hL)
theorem g_if_le {μ : tM} {a b : Nat} {sx : tX} {pc : Nat} {ls st : List Value} {h : tH} {Q : Int32 → tH → Prop} {x : Int32} {off : Int} {tgt : Nat} (hd : decode μ.2.1 pc = .ok (.ifCond .le off, 3)) (ht : (pc : Int) + off = (tgt : Int)) (kt : x ≤ 0 → tk_G μ a b sx tgt ls st h Q) (kf : ¬ x ≤ 0 → tk_G μ a b sx (pc + 3) ls st h Q) : tk_G μ a b sx pc ls (.int x :: st) h Q := by
  intro γ p l e R s m args below meth c A H locs cells slots Fq lsA ad hC hX hB hR hW hL
  exact lv_if_le hC.1 hC.2.1 hd ht (fun q => kt q γ p l e R s m args below meth c A H locs cells slots Fq lsA ad hC hX hB hR hW hL) (fun q => kf q γ p l e R s m args below meth c A H locs cells slots Fq lsA ad hC hX hB hR hW hL)
theorem g_icmp_le {μ : tM} {a b : Nat} {sx : tX} {pc : Nat} {ls st : List Value} {h : tH} {Q : Int32 → tH → Prop} {x y : Int32} {off : Int} {tgt : Nat} (hd : decode μ.2.1 pc = .ok (.if_icmp .le off, 3)) (ht : (pc : Int) + off = (tgt : Int)) (kt : x ≤ y → tk_G μ a b sx tgt ls st h Q) (kf : ¬ x ≤ y → tk_G μ a b sx (pc + 3) ls st h Q) : tk_G μ a b sx pc ls (.int y :: .int x :: st) h Q := by
  intro γ p l e R s m args below meth c A H locs cells slots Fq lsA ad hC hX hB hR hW hL
  exact lv_icmp_le hC.1 hC.2.1 hd ht (fun q => kt q γ p l e R s m args below meth c A H locs cells slots Fq lsA ad hC hX hB hR hW hL) (fun q => kf q γ p l e R s m args below meth c A H locs cells slots Fq lsA ad hC hX hB hR hW hL)
theorem g_goto {μ : tM} {a b : Nat} {sx : tX} {pc : Nat} {ls st : List Value} {h : tH} {Q : Int32 → tH → Prop} {off : Int} {tgt : Nat} (hd : decode μ.2.1 pc = .ok (.goto off, 3)) (ht : (pc : Int) + off = (tgt : Int)) (k : tk_G μ a b sx tgt ls st h Q) : tk_G μ a b sx pc ls st h Q := by
  intro γ p l e R s m args below meth c A H locs cells slots Fq lsA ad hC hX hB hR hW hL
  exact lv_goto hC.1 hC.2.1 hd ht (k γ p l e R s m args below meth c A H locs cells slots Fq lsA ad hC hX hB hR hW hL)
theorem g_tabIn {μ : tM} {a b : Nat} {sx : tX} {pc : Nat} {ls st : List Value} {h : tH} {Q : Int32 → tH → Prop} {dflt lo hi : Int} {offs : Array Int} {len : Nat} {x : Int32} {off : Int} {tgt : Nat} (hd : decode μ.2.1 pc = .ok (.tableswitch dflt lo hi offs, len)) (h1 : ¬ x.toInt < lo) (h2 : ¬ hi < x.toInt) (ho : offs[(x.toInt - lo).toNat]? = some off) (ht : (pc : Int) + off = (tgt : Int)) (k : tk_G μ a b sx tgt ls st h Q) : tk_G μ a b sx pc ls (.int x :: st) h Q := by
  intro γ p l e R s m args below meth c A H locs cells slots Fq lsA ad hC hX hB hR hW hL
  exact lv_tableIn hC.1 hC.2.1 hd h1 h2 ho ht (k γ p l e R s m args below meth c A H locs cells slots Fq lsA ad hC hX hB hR hW hL)
theorem g_tabOut {μ : tM} {a b : Nat} {sx : tX} {pc : Nat} {ls st : List Value} {h : tH} {Q : Int32 → tH → Prop} {dflt lo hi : Int} {offs : Array Int} {len : Nat} {x : Int32} {tgt : Nat} (hd : decode μ.2.1 pc = .ok (.tableswitch dflt lo hi offs, len)) (h1 : x.toInt < lo ∨ hi < x.toInt) (ht : (pc : Int) + dflt = (tgt : Int)) (k : tk_G μ a b sx tgt ls st h Q) : tk_G μ a b sx pc ls (.int x :: st) h Q := by
  intro γ p l e R s m args below meth c A H locs cells slots Fq lsA ad hC hX hB hR hW hL
  exact lv_tableOut hC.1 hC.2.1 hd h1 ht (k γ p l e R s m args below meth c A H locs cells slots Fq lsA ad hC hX hB hR hW hL)
theorem g_lookup {μ : tM} {a b : Nat} {sx : tX} {pc : Nat} {ls st : List Value} {h : tH} {Q : Int32 → tH → Prop} {dflt : Int} {ps : Array (Int × Int)} {len : Nat} {x : Int32} {off : Int} {tgt : Nat} (hd : decode μ.2.1 pc = .ok (.lookupswitch dflt ps, len)) (hp : (ps.toList.zip (ps.toList.drop 1)).all (fun (a, next) => a.1 < next.1) = true) (ho : Op.lookupswitch.offset ps.toList dflt x.toInt = off) (ht : (pc : Int) + off = (tgt : Int)) (k : tk_G μ a b sx tgt ls st h Q) : tk_G μ a b sx pc ls (.int x :: st) h Q := by
  intro γ p l e R s m args below meth c A H locs cells slots Fq lsA ad hC hX hB hR hW hL
  exact lv_lookup hC.1 hC.2.1 hd hp ho ht (k γ p l e R s m args below meth c A H locs cells slots Fq lsA ad hC hX hB hR hW hL)
theorem g_ldc2 {μ : tM} {a b : Nat} {sx : tX} {pc : Nat} {ls st : List Value} {h : tH} {Q : Int32 → tH → Prop} {index : Nat} {v : Int64} (hd : decode μ.2.1 pc = .ok (.ldc2_w index, 3)) (hw : Cond.constantLong μ.1.cls index v ∈ tk_TS) (k : tk_G μ a b sx (pc + 3) ls (.long v :: st) h Q) : tk_G μ a b sx pc ls st h Q := by
  intro γ p l e R s m args below meth c A H locs cells slots Fq lsA ad hC hX hB hR hW hL
  exact lv_ldc2 hC.1 hC.2.1 hC.2.2.2.1 (hC.2.2.2.2.1 _ hw) hd (k γ p l e R s m args below meth c A H locs cells slots Fq lsA ad hC hX hB hR hW hL)
theorem g_iret {μ : tM} {a b : Nat} {sx : tX} {pc : Nat} {ls st : List Value} {h : tH} {Q : Int32 → tH → Prop} {x : Int32} (hd : decode μ.2.1 pc = .ok (.ireturn, 1)) (hr : μ.2.2.2.1 ≠ none) (k : Q x h) : tk_G μ a b sx pc ls [.int x] h Q := by
  intro γ p l e R s m args below meth c A H locs cells slots Fq lsA ad hC hX hB hR hW hL
  exact (hR x h ad H locs cells slots lsA pc (Nat.le_add_right _ _) (Nat.le_add_right _ _) (Nat.le_refl _) tk_ad.rf k hW).1 hr hd
theorem g_vret {μ : tM} {a b : Nat} {sx : tX} {pc : Nat} {ls st : List Value} {h : tH} {Q : Int32 → tH → Prop} (hd : decode μ.2.1 pc = .ok (.return_, 1)) (hr : μ.2.2.2.1 = none) (k : Q 0 h) : tk_G μ a b sx pc ls [] h Q := by
  intro γ p l e R s m args below meth c A H locs cells slots Fq lsA ad hC hX hB hR hW hL
  exact (hR 0 h ad H locs cells slots lsA pc (Nat.le_add_right _ _) (Nat.le_add_right _ _) (Nat.le_refl _) tk_ad.rf k hW).2 hr rfl hd
end
section
/-! CELLS: fields and rows -/
/-- a place of the constant pool that names field j of the objects of kind ci -/
def tk_fl (own : String) (idx ci j : Nat) (fin : Bool) (ty : FieldType) : Prop := ∃ (C : String) (T : u_T) (N : Nat) (ty0 : Nat → FieldType), vwCl[ci]? = some (C, T, N) ∧ j < N ∧ Cond.fieldLink own idx (T j).1 (T j).2.1 (T j).2.2.1 ∈ tk_TS ∧ (∀ w ∈ u_ws C T N, w ∈ tk_TS) ∧ (T j).2.2.2 = fin ∧ parseFieldDescriptor (T j).2.2.1 = some ty ∧ (∀ k, k < N → parseFieldDescriptor (T k).2.2.1 = some (ty0 k)) ∧ (∀ a, a < N → ∀ b, b < N → a ≠ b → (T a).2.1 ≠ (T b).2.1) ∧ (T j).1 = C
theorem tk_cell_o {γ : tG} {ad : Nat → Nat} {S : tS} {F : tF} {k ci n : Nat} (h : ci < 9) : tk_cell γ ad S F k (ci, n) = .inr (ci, (List.range n).map (tk_fv ad S F ci k)) := by
  unfold tk_cell
  rw [if_pos h]
theorem tk_cell_b {γ : tG} {ad : Nat → Nat} {S : tS} {F : tF} {k n : Nat} : tk_cell γ ad S F k (9, n) = .inl (γ.2.2.1, n, .inl (S k)) := by
  unfold tk_cell
  rw [if_neg (show ¬ 9 < 9 by decide), if_pos rfl]
theorem tk_cell_i {γ : tG} {ad : Nat → Nat} {S : tS} {F : tF} {k n : Nat} : tk_cell γ ad S F k (10, n) = .inl (γ.2.1, n, .inl (S k)) := by
  unfold tk_cell
  rw [if_neg (show ¬ 10 < 9 by decide), if_neg (show ¬ 10 = 9 by decide), if_pos rfl]
theorem tk_cell_q {γ : tG} {ad : Nat → Nat} {S : tS} {F : tF} {k n : Nat} : tk_cell γ ad S F k (11, n) = .inl (γ.2.2.2, n, .inr (.inr (.inr (.inr (fun j => (F k j).map ad))))) := by
  unfold tk_cell
  rw [if_neg (show ¬ 11 < 9 by decide), if_neg (show ¬ 11 = 9 by decide), if_neg (show ¬ 11 = 10 by decide)]
theorem tk_fs_set {n j : Nat} {f g : Nat → Value} {v : Value} (hv : g j = v) (hg : ∀ i, i ≠ j → g i = f i) : ((List.range n).map f).set j v = (List.range n).map g := by
  apply List.ext_getElem?
  intro i
  by_cases hi : i = j
  · subst hi
    by_cases hn : i < n
    · rw [List.getElem?_set_self (by simpa using hn)]
      simp [hn, hv]
    · rw [List.getElem?_eq_none (by simp; omega), List.getElem?_eq_none (by simp; omega)]
  · rw [List.getElem?_set_ne (Ne.symm hi)]
    by_cases hn : i < n
    · simp [hn, hg i hi]
    · rw [List.getElem?_eq_none (by simp; omega), List.getElem?_eq_none (by simp; omega)]
theorem tk_upR_s {S : tS} {k : Nat} {f : Nat → Int32} : tk_upR S k f k = f := if_pos rfl
theorem tk_upR_n {S : tS} {k i : Nat} {f : Nat → Int32} (h : i ≠ k) : tk_upR S k f i = S i := if_neg h
theorem tk_up_s {S : tS} {k j : Nat} {x : Int32} : tk_up S k j x k = upd (S k) j x := if_pos rfl
theorem tk_up_n {S : tS} {k j i : Nat} {x : Int32} (h : i ≠ k) : tk_up S k j x i = S i := if_neg h
theorem tk_up_ss {S : tS} {k j : Nat} {x : Int32} : tk_up S k j x k j = x := by rw [tk_up_s]; exact if_pos rfl
theorem tk_up_sn {S : tS} {k j i : Nat} {x : Int32} (h : i ≠ j) : tk_up S k j x k i = S k i := by rw [tk_up_s]; exact if_neg h
section HEAP
variable {μ : tM} {a b : Nat} {sx : tX} {pc : Nat} {ls st : List Value} {sh : List (Nat × Nat)} {S : tS} {F : tF} {Q : Int32 → tH → Prop} {k n : Nat}
theorem g_getI {idx ci j : Nat} {fin : Bool} {ty : FieldType} (hd : decode μ.2.1 pc = .ok (.getfield idx, 3)) (hf : tk_fl μ.1.cls idx ci j fin ty) (hk : sh[k]? = some (ci, n)) (hj : j < n) (hc : ci < 9) (hr : tk_isR ci j = false) (kk : tk_G μ a b sx (pc + 3) ls (.int (S k j) :: st) (sh, S, F) Q) : tk_G μ a b sx pc ls (.ref k :: st) (sh, S, F) Q := by
  intro γ p l e R s m args below meth c A H locs cells slots Fq lsA ad hC hX hB hR hW hL
  obtain ⟨C, T, N, ty0, h1, h2, h3, h4, -, -, -, -, h5⟩ := hf
  have hws := tk_ws_get (γ := γ) (ad := ad) (h := (sh, S, F)) hk
  rw [tk_cell_o hc] at hws
  exact va_get (D := γ.1) (ci := ci) (C := C) (T := T) (N := N) hC.1 hC.2.1 hC.2.2.2.2.1 h4 hC.2.2.2.1 hC.2.2.2.2.2.1.1 hW.1 k hws h1 j h2 (hC.2.2.2.2.1 _ h3) (fun _ h9 => h9) (v := .int (S k j)) (by simp [hj, tk_fv, hr]) hd (kk γ p l e R s m args below meth c A H locs cells slots Fq lsA ad hC hX hB hR hW hL)
theorem g_getR {idx ci j k' : Nat} {fin : Bool} {ty : FieldType} (hd : decode μ.2.1 pc = .ok (.getfield idx, 3)) (hf : tk_fl μ.1.cls idx ci j fin ty) (hk : sh[k]? = some (ci, n)) (hj : j < n) (hc : ci < 9) (hr : tk_isR ci j = true) (hF : F k j = some k') (kk : tk_G μ a b sx (pc + 3) ls (.ref k' :: st) (sh, S, F) Q) : tk_G μ a b sx pc ls (.ref k :: st) (sh, S, F) Q := by
  intro γ p l e R s m args below meth c A H locs cells slots Fq lsA ad hC hX hB hR hW hL
  obtain ⟨C, T, N, ty0, h1, h2, h3, h4, -, -, -, -, h5⟩ := hf
  have hws := tk_ws_get (γ := γ) (ad := ad) (h := (sh, S, F)) hk
  rw [tk_cell_o hc] at hws
  exact va_get (D := γ.1) (ci := ci) (C := C) (T := T) (N := N) hC.1 hC.2.1 hC.2.2.2.2.1 h4 hC.2.2.2.1 hC.2.2.2.2.2.1.1 hW.1 k hws h1 j h2 (hC.2.2.2.2.1 _ h3) (fun _ h9 => h9) (v := .ref (ad k')) (by simp [hj, tk_fv, hr, hF, va_rf]) hd (kk γ p l e R s m args below meth c A H locs cells slots Fq lsA ad hC hX hB hR hW hL)
theorem g_putI {idx ci j : Nat} {ty : FieldType} {x : Int32} (hd : decode μ.2.1 pc = .ok (.putfield idx, 3)) (hf : tk_fl μ.1.cls idx ci j false ty) (hk : sh[k]? = some (ci, n)) (hj : j < n) (hc : ci < 9) (hr : tk_isR ci j = false) (hn : narrow ty (.int x) = .int x) (hfit : fits ty (.int x) = true) (kk : tk_G μ a b sx (pc + 3) ls st (sh, tk_up S k j x, F) Q) : tk_G μ a b sx pc ls (.int x :: .ref k :: st) (sh, S, F) Q := by
  intro γ p l e R s m args below meth c A H locs cells slots Fq lsA ad hC hX hB hR hW hL
  obtain ⟨C, T, N, ty0, h1, h2, h3, h4, h6, h7, h8, h9, h5⟩ := hf
  have hws := tk_ws_get (γ := γ) (ad := ad) (h := (sh, S, F)) hk
  rw [tk_cell_o hc] at hws
  refine va_put (D := γ.1) (ci := ci) (C := C) (T := T) (N := N) hC.1 hC.2.1 hC.2.2.2.2.1 h4 ty0 h8 h9 hC.2.2.2.1 hC.2.2.2.2.2.1.1 hW.1 hW.2.1 hW.2.2 k hws h1 j h2 (hC.2.2.2.2.1 _ h3) (fun _ h9 => h9) h6 (v := .int x) h7 hn hfit (by simp [hj]) hd (fun H1 locs1 hP hD hS => ?_)
  have ee : (tk_ws γ ad (sh, S, F)).set k (ad k, .inr (ci, ((List.range n).map (tk_fv ad S F ci k)).set j (.int x))) = tk_ws γ ad (sh, tk_up S k j x, F) := by
    refine tk_ws_set hk ?_ (fun i hi => ⟨tk_up_n hi, rfl⟩)
    rw [tk_cell_o hc, tk_fs_set (g := tk_fv ad (tk_up S k j x) F ci k)]
    · simp [tk_fv, hr, tk_up_ss]
    · intro i hi
      simp [tk_fv, tk_up_sn hi]
  have hP : va_P γ.1 vwCl ((tk_ws γ ad (sh, S, F)).set k (ad k, .inr (ci, ((List.range n).map (tk_fv ad S F ci k)).set j (.int x)))) H1 := hP
  have hD : va_D A ((tk_ws γ ad (sh, S, F)).set k (ad k, .inr (ci, ((List.range n).map (tk_fv ad S F ci k)).set j (.int x)))) := hD
  rw [ee] at hP hD
  exact kk γ p l e R s m args below meth c A H1 locs1 cells slots Fq lsA ad hC hX hB hR ⟨hP, hD, hS⟩ hL
theorem g_iald {i : Int32} (hd : decode μ.2.1 pc = .ok (.iaload, 1)) (hk : sh[k]? = some (10, n)) (hin : vp_in i n) (kk : tk_G μ a b sx (pc + 1) ls (.int (S k i.toNatClampNeg) :: st) (sh, S, F) Q) : tk_G μ a b sx pc ls (.int i :: .ref k :: st) (sh, S, F) Q := by
  intro γ p l e R s m args below meth c A H locs cells slots Fq lsA ad hC hX hB hR hW hL
  have hws := tk_ws_get (γ := γ) (ad := ad) (h := (sh, S, F)) hk
  rw [tk_cell_i] at hws
  exact va_iald (D := γ.1) hC.1 hC.2.1 hC.2.2.2.2.2.1.1 hW.1 k 0 hws rfl hin hd (kk γ p l e R s m args below meth c A H locs cells slots Fq lsA ad hC hX hB hR hW hL)
theorem g_bald {i : Int32} (hd : decode μ.2.1 pc = .ok (.baload, 1)) (hk : sh[k]? = some (9, n)) (hin : vp_in i n) (kk : tk_G μ a b sx (pc + 1) ls (.int (S k i.toNatClampNeg) :: st) (sh, S, F) Q) : tk_G μ a b sx pc ls (.int i :: .ref k :: st) (sh, S, F) Q := by
  intro γ p l e R s m args below meth c A H locs cells slots Fq lsA ad hC hX hB hR hW hL
  have hws := tk_ws_get (γ := γ) (ad := ad) (h := (sh, S, F)) hk
  rw [tk_cell_b] at hws
  exact va_bald (D := γ.1) hC.1 hC.2.1 hC.2.2.2.2.2.1.1 hW.1 k 1 hws rfl hin hd (kk γ p l e R s m args below meth c A H locs cells slots Fq lsA ad hC hX hB hR hW hL)
theorem g_aald {i : Int32} {k' : Nat} (hd : decode μ.2.1 pc = .ok (.aaload, 1)) (hk : sh[k]? = some (11, n)) (hin : vp_in i n) (hF : F k i.toNatClampNeg = some k') (kk : tk_G μ a b sx (pc + 1) ls (.ref k' :: st) (sh, S, F) Q) : tk_G μ a b sx pc ls (.int i :: .ref k :: st) (sh, S, F) Q := by
  intro γ p l e R s m args below meth c A H locs cells slots Fq lsA ad hC hX hB hR hW hL
  have hws := tk_ws_get (γ := γ) (ad := ad) (h := (sh, S, F)) hk
  rw [tk_cell_q] at hws
  refine va_aldq (D := γ.1) (C := "TellKeys$Sheet") hC.1 hC.2.1 hC.2.2.2.2.2.1.1 hW.1 k 2 hws rfl hin hd ?_
  have ee : va_rf ((F k i.toNatClampNeg).map ad) = .ref (ad k') := by rw [hF]; rfl
  show W p l e R s m args below meth c H locs cells slots Fq (F0 m (pc + 1) lsA (va_rf ((F k i.toNatClampNeg).map ad) :: st.map (tk_cv ad)))
  rw [ee]
  exact kk γ p l _ R s m args below meth c A H locs cells slots Fq lsA ad hC hX hB hR hW hL
theorem g_iast {i x : Int32} (hd : decode μ.2.1 pc = .ok (.iastore, 1)) (hk : sh[k]? = some (10, n)) (hin : vp_in i n) (kk : tk_G μ a b sx (pc + 1) ls st (sh, tk_up S k i.toNatClampNeg x, F) Q) : tk_G μ a b sx pc ls (.int x :: .int i :: .ref k :: st) (sh, S, F) Q := by
  intro γ p l e R s m args below meth c A H locs cells slots Fq lsA ad hC hX hB hR hW hL
  have hws := tk_ws_get (γ := γ) (ad := ad) (h := (sh, S, F)) hk
  rw [tk_cell_i] at hws
  refine va_iast (D := γ.1) hC.1 hC.2.1 hC.2.2.2.2.2.1.1 hW.1 hW.2.1 hW.2.2 k 0 hws rfl hin hd (fun H1 locs1 hP hD hS => ?_)
  have ee : (tk_ws γ ad (sh, S, F)).set k (ad k, .inl (γ.2.1, n, .inl (upd (S k) i.toNatClampNeg x))) = tk_ws γ ad (sh, tk_up S k i.toNatClampNeg x, F) :=
    tk_ws_set hk (by rw [tk_cell_i, tk_up_s]) (fun i hi => ⟨tk_up_n hi, rfl⟩)
  rw [ee] at hP hD
  exact kk γ p l _ R s m args below meth c A H1 locs1 cells slots Fq lsA ad hC hX hB hR ⟨hP, hD, hS⟩ hL
theorem g_bast {i x : Int32} (hd : decode μ.2.1 pc = .ok (.bastore, 1)) (hk : sh[k]? = some (9, n)) (hin : vp_in i n) (kk : tk_G μ a b sx (pc + 1) ls st (sh, tk_up S k i.toNatClampNeg (vp_nar .byte x), F) Q) : tk_G μ a b sx pc ls (.int x :: .int i :: .ref k :: st) (sh, S, F) Q := by
  intro γ p l e R s m args below meth c A H locs cells slots Fq lsA ad hC hX hB hR hW hL
  have hws := tk_ws_get (γ := γ) (ad := ad) (h := (sh, S, F)) hk
  rw [tk_cell_b] at hws
  refine va_bast (D := γ.1) hC.1 hC.2.1 hC.2.2.2.2.2.1.1 hW.1 hW.2.1 hW.2.2 k 1 hws rfl hin hd (fun H1 locs1 hP hD hS => ?_)
  have ee : (tk_ws γ ad (sh, S, F)).set k (ad k, .inl (γ.2.2.1, n, .inl (upd (S k) i.toNatClampNeg (vp_nar .byte x)))) = tk_ws γ ad (sh, tk_up S k i.toNatClampNeg (vp_nar .byte x), F) :=
    tk_ws_set hk (by rw [tk_cell_b, tk_up_s]) (fun i hi => ⟨tk_up_n hi, rfl⟩)
  rw [ee] at hP hD
  exact kk γ p l _ R s m args below meth c A H1 locs1 cells slots Fq lsA ad hC hX hB hR ⟨hP, hD, hS⟩ hL
theorem g_sld {i : Int32} {L : Nat} {xs : Nat → Int32} {h : tH} (hd : decode μ.2.1 pc = .ok (.iaload, 1)) (hin : vp_in i L) (kk : tk_G μ a b (some (L, xs)) (pc + 1) ls (.int (xs i.toNatClampNeg) :: st) h Q) : tk_G μ a b (some (L, xs)) pc ls (.int i :: .ref 4096 :: st) h Q := by
  intro γ p l e R s m args below meth c A H locs cells slots Fq lsA ad hC hX hB hR hW hL
  obtain ⟨h1, h2, h3⟩ := hX L xs rfl
  exact va_sld hC.1 hC.2.1 h1 h2 h3 hW.2.2 hin hd (kk γ p l e R s m args below meth c A H locs cells slots Fq lsA ad hC hX hB hR hW hL)
theorem g_slen {L : Nat} {xs : Nat → Int32} {h : tH} (hd : decode μ.2.1 pc = .ok (.arraylength, 1)) (kk : tk_G μ a b (some (L, xs)) (pc + 1) ls (.int (Int32.ofNat L) :: st) h Q) : tk_G μ a b (some (L, xs)) pc ls (.ref 4096 :: st) h Q := by
  intro γ p l e R s m args below meth c A H locs cells slots Fq lsA ad hC hX hB hR hW hL
  obtain ⟨h1, h2, h3⟩ := hX L xs rfl
  exact va_slen hC.1 hC.2.1 h1 h2 h3 hW.2.2 hd (kk γ p l e R s m args below meth c A H locs cells slots Fq lsA ad hC hX hB hR hW hL)
end HEAP
end
section
/-! CONTRACTS: a method, its arguments, the cells before it; Q of its answer and of the cells behind it -/
def tk_rm (μ : tM) (a b : Nat) : Room := { frames := μ.2.2.2.2, cells := a, slots := b, locals := 64 * μ.2.2.2.2 }
def tk_wd (μ : tM) : List Cond := Cond.code μ.1 μ.2.1 μ.2.2.1 μ.2.2.2.1 :: tk_TS
def tk_Q {T : Type} (μ : tM) (post : Int32 → T → Prop) (B : T → State → Prop) (A : Nat → Prop) : Array Value → State → Outcome → State → Prop := match μ.2.2.2.1 with
  | none => va_Qv (post 0) B A
  | some _ => va_Qi post B A
theorem tk_Q_v {T : Type} {μ : tM} (h : μ.2.2.2.1 = none) (post : Int32 → T → Prop) (B : T → State → Prop) (A : Nat → Prop) : tk_Q μ post B A = va_Qv (post 0) B A := by
  unfold tk_Q
  rw [h]
theorem tk_Q_i {T : Type} {μ : tM} {ty : FieldType} (h : μ.2.2.2.1 = some ty) (post : Int32 → T → Prop) (B : T → State → Prop) (A : Nat → Prop) : tk_Q μ post B A = va_Qi post B A := by
  unfold tk_Q
  rw [h]
def tk_pre (γ : tG) (ad : Nat → Nat) (sz : Nat) (h : tH) (U : State) : Prop := U.heap.size = sz ∧ va_P γ.1 vwCl (tk_ws γ ad h) U.heap ∧ tk_K γ U ∧ va_D (fun _ => True) (tk_ws γ ad h)
def tk_Mt (μ : tM) (a b : Nat) (vs : List Value) (h : tH) (Q : Int32 → tH → Prop) : Prop :=
  ∀ (l : Launch) (γ : tG) (ad : Nat → Nat) (sz : Nat), Met l μ.1 (tk_wd μ) (tk_rm μ a b) (va_Pc (vs.map (tk_cv ad)) (tk_pre γ ad sz h))
    (tk_Q μ (fun r (u : tH × (Nat → Nat)) => Q r u.1 ∧ h.1.length ≤ u.1.1.length ∧ tk_ad h.1.length ad u.2) (fun u t => va_P γ.1 vwCl (tk_ws γ u.2 u.1) t.heap ∧ va_D (va_A (tk_ws γ ad h) sz) (tk_ws γ u.2 u.1)) (va_A (tk_ws γ ad h) sz))
    a b (va_A (tk_ws γ ad h) sz)
theorem tk_Mt.mono {μ : tM} {a b : Nat} {vs : List Value} {h : tH} {Q Q' : Int32 → tH → Prop} (k : tk_Mt μ a b vs h Q) (hq : ∀ x h', Q x h' → Q' x h') : tk_Mt μ a b vs h Q' := by
  intro l γ ad sz
  refine MetFree.mono (k l γ ad sz) (fun _ _ h => h) (fun _ _ _ _ _ h => h) (fun a s o s' _ hh => ⟨?_, hh.2⟩)
  have h1 := hh.1
  cases hr : μ.2.2.2.1 with
  | none =>
    rw [tk_Q_v hr] at h1 ⊢
    obtain ⟨⟨u, e1, e2, e3⟩, e4⟩ := h1
    exact ⟨⟨u, e1, ⟨hq _ _ e2.1, e2.2⟩, e3⟩, e4⟩
  | some ty =>
    rw [tk_Q_i hr] at h1 ⊢
    obtain ⟨⟨r, u, e1, e2, e3⟩, e4⟩ := h1
    exact ⟨⟨r, u, e1, ⟨hq _ _ e2.1, e2.2⟩, e3⟩, e4⟩
def tk_lay : List Value → List Value
  | [] => []
  | .long x :: t => .long x :: .null :: tk_lay t
  | .double x :: t => .double x :: .null :: tk_lay t
  | v :: t => v :: tk_lay t
theorem tk_lay_1 {v : Value} (t : List Value) (h : ¬ v.category = 2) : tk_lay (v :: t) = v :: tk_lay t := by
  cases v <;> first | rfl | (exfalso; exact h rfl)
theorem tk_lay_2 {v : Value} (t : List Value) (h : v.category = 2) : tk_lay (v :: t) = v :: .null :: tk_lay t := by
  cases v <;> first | rfl | (exfalso; simp [Value.category] at h)
theorem tk_cvcat (ad : Nat → Nat) (v : Value) : (tk_cv ad v).category = v.category := by cases v <;> rfl
theorem tk_lay_len (ad : Nat → Nat) : ∀ vs : List Value, (lg_sl (vs.map (tk_cv ad))).length = (tk_lay vs).length
  | [] => rfl
  | v :: t => by
    have ih := tk_lay_len ad t
    by_cases h : v.category = 2
    · rw [tk_lay_2 t h]
      simp only [List.map_cons, lg_sl, List.flatMap_cons, tk_cvcat, h, if_true]
      simp only [lg_sl] at ih
      simp [ih]
    · rw [tk_lay_1 t h]
      simp only [List.map_cons, lg_sl, List.flatMap_cons, tk_cvcat, h, if_false]
      simp only [lg_sl] at ih
      simp [ih]
theorem tk_lay_mem (ad : Nat → Nat) : ∀ (vs : List Value) (j i : Nat) (v : Value), (tk_lay vs)[i]? = some v → v ≠ .null → (j + i, tk_cv ad v) ∈ lv_args j (vs.map (tk_cv ad))
  | [], j, i, v, h, _ => by simp [tk_lay] at h
  | w :: t, j, i, v, h, hv => by
    by_cases hw : w.category = 2
    · rw [tk_lay_2 t hw] at h
      simp only [List.map_cons, lv_args, tk_cvcat, hw, if_true]
      match i, h with
      | 0, h =>
        simp at h
        subst h
        exact List.mem_cons_self
      | 1, h =>
        simp at h
        exact absurd h.symm hv
      | i + 2, h =>
        simp at h
        have := tk_lay_mem ad t (j + 2) i v h hv
        rw [show j + (i + 2) = j + 2 + i by omega]
        exact List.mem_cons_of_mem _ this
    · rw [tk_lay_1 t hw] at h
      simp only [List.map_cons, lv_args, tk_cvcat, hw, if_false]
      match i, h with
      | 0, h =>
        simp at h
        subst h
        exact List.mem_cons_self
      | i + 1, h =>
        simp at h
        have := tk_lay_mem ad t (j + 1) i v h hv
        rw [show j + (i + 1) = j + 1 + i by omega]
        exact List.mem_cons_of_mem _ this
def tk_ok (μ : tM) (x : Int32) : Prop := match μ.2.2.2.1 with
  | some .boolean => x = 0 ∨ x = 1
  | _ => True
theorem tk_blind {vs : List Value} {γ : tG} {ad : Nat → Nat} {sz : Nat} {h : tH} : FrameBlind (va_Pc vs (tk_pre γ ad sz h)) := fun a U g mk q => by
  obtain ⟨q0, q1, q2, q3, q4⟩ := q
  exact ⟨q0, q1, q2, ⟨va_K.moved (u := U) (U := U.calling g mk a) (Vm.Alike.refl U.vm) q3.1, tk_NX.same rfl q3.2⟩, q4⟩
theorem tk_Mt.of {μ : tM} {a b : Nat} {vs ls : List Value} {h : tH} {Q : Int32 → tH → Prop} (hy : plainName μ.1.cls = true) (hrt : μ.2.2.2.1 = none ∨ μ.2.2.2.1 = some .int ∨ μ.2.2.2.1 = some .boolean) (hn : (tk_lay vs).length ≤ μ.2.2.1) (hls : tk_lay vs ++ List.replicate (μ.2.2.1 - (tk_lay vs).length) .null = ls) (k : tk_G μ a b none 0 ls [] h (fun x h' => tk_ok μ x ∧ Q x h')) : tk_Mt μ a b vs h Q := by
  intro l γ ad sz
  refine Met.ofW (cc := μ.2.1) (maxL := μ.2.2.1) (ret := μ.2.2.2.1) hy rfl ?_
  intro p e s m args below meth c s₁ B hml hv
  obtain ⟨rfl, hsz, hP, hK, hD0⟩ := hv
  subst hsz
  have hts : ∀ w ∈ tk_wd μ, w.before (vs.map (tk_cv ad)).toArray s = true := atoms_spec (ws := tk_wd μ) B.pre
  have hl := lv_entry (vs.map (tk_cv ad)) (n := μ.2.2.1) (by rw [tk_lay_len]; exact hn)
  rw [lg_entry_eq]
  generalize (lg_sl (vs.map (tk_cv ad)) ++ List.replicate (μ.2.2.1 - (lg_sl (vs.map (tk_cv ad))).length) Slot.unset).toArray = lsA at hl ⊢
  refine k γ p l e (tk_rm μ a b) s m (vs.map (tk_cv ad)).toArray below meth c (va_A (tk_ws γ ad h) s.heap.size) s.heap [] 0 0 _ lsA ad ⟨B.exec, B.bytes, hml, findClass_of_methodNamed B.named, fun w hw => hts w (List.mem_cons_of_mem _ hw), hK, fun q hq => Or.inr hq, fun hin => by rw [← hin]; exact (name_of_methodNamed B.named B.method).1, Nat.le_refl _, Nat.le_refl _⟩ (fun L xs e => by cases e) ⟨by show 0 + a ≤ a; omega, by show 0 + b ≤ b; omega⟩ ?_ ⟨hP, hD0.self, va_S.rf⟩ ⟨hl.1, hl.2.1, fun i v hi hv => ?_⟩
  · intro x h' ad' H' locs' cells' slots' lsA' pc' hcl hsl hln had hq hW
    obtain ⟨hok, hq⟩ := hq
    have hlocks := B.notSynchronized
    have hret := B.returns
    refine ⟨fun hne hd => ?_, fun he hx hd => ?_⟩
    · refine W.widen (k := a) (n := b) (by omega) (by omega) ?_
      have fin : ∀ t : State, t.heap = H' → (∀ ty, μ.2.2.2.1 = some ty → tk_Q μ (fun r (u : tH × (Nat → Nat)) => Q r u.1 ∧ h.1.length ≤ u.1.1.length ∧ tk_ad h.1.length ad u.2) (fun u t => va_P γ.1 vwCl (tk_ws γ u.2 u.1) t.heap ∧ va_D (va_A (tk_ws γ ad h) s.heap.size) (tk_ws γ u.2 u.1)) (va_A (tk_ws γ ad h) s.heap.size) (vs.map (tk_cv ad)).toArray s (.returned (some (.int x))) t) := by
        intro t ht ty hty
        rw [tk_Q_i hty]
        exact ⟨⟨x, (h', ad'), rfl, ⟨hq, hln, had⟩, by rw [ht]; exact hW.1, hW.2.1⟩, hW.2.2.F ht⟩
      rcases hrt with e1 | e1 | e1
      · exact absurd e1 hne
      · exact W.iret B.exec B.bytes (hret.trans e1) (fun t ht _ => fin t ht _ e1) hW.2.2.2.2 hd
      · refine W.zret B.exec B.bytes (hret.trans e1) ?_ (fun t ht _ => fin t ht _ e1) hW.2.2.2.2 hd
        unfold tk_ok at hok
        rw [e1] at hok
        rcases hok with rfl | rfl <;> rfl
    · refine W.widen (k := a) (n := b) (by omega) (by omega) ?_
      refine W.vret B.exec B.bytes (hret.trans he) (fun t ht _ => ?_) hW.2.2.2.2 hd
      subst hx
      rw [tk_Q_v he]
      exact ⟨⟨(h', ad'), rfl, ⟨hq, hln, had⟩, by rw [ht]; exact hW.1, hW.2.1⟩, hW.2.2.F ht⟩
  · subst hls
    by_cases hil : i < (tk_lay vs).length
    · rw [List.getElem?_append_left hil] at hi
      have := hl.2.2 _ (tk_lay_mem ad vs 0 i v hi hv)
      simpa using this
    · rw [List.getElem?_append_right (by omega)] at hi
      have := List.mem_of_getElem? hi
      rw [List.mem_replicate] at this
      exact absurd this.2 hv
/-- what the tables say of a method of n parameters -/
def tk_mc (ν : tM) (n : Nat) : Prop := Cond.code ν.1 ν.2.1 ν.2.2.1 ν.2.2.2.1 ∈ tk_TS ∧ Cond.initialized ν.1.cls ∈ tk_TS ∧ (ν.1.cls ≠ "java/lang/invoke/MethodHandle" ∧ ν.1.cls ≠ "java/lang/invoke/VarHandle" ∧ (parseMethodDescriptor ν.1.desc).map (fun d => d.parameters.length) = some n) ∧ ν.2.2.1 ≤ 45
def tk_mi (ν : tM) : Prop := Cond.instanceMethod ν.1 ∈ tk_TS ∧ Cond.selects ν.1.cls ν.1 ν.1 ∈ tk_TS
def tk_wf (n : Nat) (vs : List Value) : Bool := vs.all (fun v => match v with
  | .ref k => decide (k < n) || decide (k = 4096)
  | _ => true)
theorem tk_wf_cv {n : Nat} {ad ad' : Nat → Nat} (had : tk_ad n ad ad') {vs : List Value} (h : tk_wf n vs = true) : ∀ v ∈ vs, tk_cv ad' v = tk_cv ad v := by
  intro v hv
  have h1 := List.all_eq_true.mp h v hv
  cases v with
  | ref k =>
    simp only [Bool.or_eq_true, decide_eq_true_eq] at h1
    rcases h1 with h1 | h1
    · show Value.ref (ad' k) = .ref (ad k)
      rw [had.2 k h1]
    · subst h1
      show Value.ref (ad' 4096) = .ref (ad 4096)
      rw [had.1]
  | _ => rfl
section CALLS
variable {μ ν : tM} {a b a' b' : Nat} {sx : tX} {pc : Nat} {ls st : List Value} {h : tH} {Q : Int32 → tH → Prop} {n idx : Nat}
variable {γ : tG} {p : Program} {l : Launch} {e : Env} {R : Room} {s : State} {m : MethodId} {args : Array Value} {below : List Frame} {meth : Method} {c : Code} {A : Nat → Prop} {H : Heap} {locs : List Loc} {cells slots : Nat} {Fq : State → Prop} {lsA : Array Slot} {ad : Nat → Nat}
theorem tk_free (hC : tk_C μ γ p R s m args meth c A) (hW : tk_W γ s A ad h H locs) : ∀ q, va_A (tk_ws γ ad h) H.size q → A q := by
  intro q hq
  rcases hq with ⟨k, e, hk⟩ | hq
  · exact hW.2.1.2 k _ hk
  · exact hC.2.2.2.2.2.2.1 q (Nat.le_trans hW.2.2.1 hq)
theorem tk_ad.trans {n n' : Nat} {ad ad1 ad2 : Nat → Nat} (hn : n ≤ n') (h1 : tk_ad n ad ad1) (h2 : tk_ad n' ad1 ad2) : tk_ad n ad ad2 := ⟨h2.1.trans h1.1, fun k hk => (h2.2 k (Nat.lt_of_lt_of_le hk hn)).trans (h1.2 k hk)⟩
/-- behind a call that answers an int -/
theorem tk_backi {ty : FieldType} {vs : List Value} {st0 : List Value} (hv : ν.2.2.2.1 = some ty) (hwf : tk_wf h.1.length (ls ++ st) = true) (hC : tk_C μ γ p R s m args meth c A) (hX : tk_X sx ad A s) (hB : cells + (a' + a) ≤ R.cells ∧ slots + (b' + b) ≤ R.slots) (hR : tk_R μ γ p l e R s m args below meth c A h.1.length ad (cells + (a' + a)) (slots + (b' + b)) Fq Q) (hW : tk_W γ s A ad h H locs) (hL : tk_L ad lsA μ.2.2.1 ls)
    (hr : va_Run p l e R s m args below meth c H locs cells slots a' b' (F0 m pc lsA st0) (st.map (tk_cv ad)) (tk_Q ν (fun r (u : tH × (Nat → Nat)) => (tk_G μ a b sx (pc + 3) ls (.int r :: st) u.1 Q) ∧ h.1.length ≤ u.1.1.length ∧ tk_ad h.1.length ad u.2) (fun u t => va_P γ.1 vwCl (tk_ws γ u.2 u.1) t.heap ∧ va_D (va_A (tk_ws γ ad h) H.size) (tk_ws γ u.2 u.1)) (va_A (tk_ws γ ad h) H.size) (vs.map (tk_cv ad)).toArray) (va_A (tk_ws γ ad h) H.size)) :
    W p l e R s m args below meth c H locs cells slots Fq (F0 m pc lsA st0) := by
  have hF := tk_free hC hW
  rw [tk_Q_i hv] at hr
  refine va_calli hr hW.2.2 (fun q _ hq => hF q hq) hF (fun r u t H1 locs1 ht hvm hw hb hz hk hS => ?_)
  obtain ⟨h', ad'⟩ := u
  obtain ⟨k, hln, had⟩ := hw
  dsimp only at k hln had
  obtain ⟨hP1, hD1⟩ := hb
  dsimp only at hP1 hD1
  rw [ht] at hP1
  have hcv := tk_wf_cv had hwf
  have e1 : (Value.int r :: st.map (tk_cv ad)) = (Value.int r :: st).map (tk_cv ad') := by
    rw [List.map_cons]
    refine congrArg (fun z => Value.int r :: z) (List.map_congr_left fun v hv => (hcv v (List.mem_append_right _ hv)).symm)
  show W p l e R s m args below meth c H1 locs1 (cells + a') (slots + b') Fq (F0 m (pc + 3) lsA (Value.int r :: st.map (tk_cv ad)))
  rw [e1]
  refine k γ p l e R s m args below meth c A H1 locs1 (cells + a') (slots + b') Fq lsA ad' hC (fun L xs hs => ?_) ⟨by omega, by omega⟩ ?_ ⟨hP1, hD1.weaken (fun _ q _ hq => hF q.1 hq), hS⟩ ⟨hL.1, hL.2.1, fun i v hi hv => ?_⟩
  · rw [had.1]
    exact hX L xs hs
  · intro x h2 ad2 H2 locs2 cells2 slots2 lsA2 pc2 c1 c2 c3 c4 c5 c6
    exact hR x h2 ad2 H2 locs2 cells2 slots2 lsA2 pc2 (by omega) (by omega) (Nat.le_trans hln c3) (tk_ad.trans hln had c4) c5 c6
  · rw [hcv v (List.mem_append_left _ (List.mem_of_getElem? hi))]
    exact hL.2.2 i v hi hv
theorem tk_backv {vs : List Value} {st0 : List Value} (hv : ν.2.2.2.1 = none) (hwf : tk_wf h.1.length (ls ++ st) = true) (hC : tk_C μ γ p R s m args meth c A) (hX : tk_X sx ad A s) (hB : cells + (a' + a) ≤ R.cells ∧ slots + (b' + b) ≤ R.slots) (hR : tk_R μ γ p l e R s m args below meth c A h.1.length ad (cells + (a' + a)) (slots + (b' + b)) Fq Q) (hW : tk_W γ s A ad h H locs) (hL : tk_L ad lsA μ.2.2.1 ls)
    (hr : va_Run p l e R s m args below meth c H locs cells slots a' b' (F0 m pc lsA st0) (st.map (tk_cv ad)) (tk_Q ν (fun _ (u : tH × (Nat → Nat)) => (tk_G μ a b sx (pc + 3) ls st u.1 Q) ∧ h.1.length ≤ u.1.1.length ∧ tk_ad h.1.length ad u.2) (fun u t => va_P γ.1 vwCl (tk_ws γ u.2 u.1) t.heap ∧ va_D (va_A (tk_ws γ ad h) H.size) (tk_ws γ u.2 u.1)) (va_A (tk_ws γ ad h) H.size) (vs.map (tk_cv ad)).toArray) (va_A (tk_ws γ ad h) H.size)) :
    W p l e R s m args below meth c H locs cells slots Fq (F0 m pc lsA st0) := by
  have hF := tk_free hC hW
  rw [tk_Q_v hv] at hr
  refine va_callv hr hW.2.2 (fun q _ hq => hF q hq) hF (fun u t H1 locs1 ht hvm hw hb hz hk hS => ?_)
  obtain ⟨h', ad'⟩ := u
  obtain ⟨k, hln, had⟩ := hw
  dsimp only at k hln had
  obtain ⟨hP1, hD1⟩ := hb
  dsimp only at hP1 hD1
  rw [ht] at hP1
  have hcv := tk_wf_cv had hwf
  have e1 : st.map (tk_cv ad) = st.map (tk_cv ad') := List.map_congr_left fun v hv => (hcv v (List.mem_append_right _ hv)).symm
  rw [e1]
  refine k γ p l e R s m args below meth c A H1 locs1 (cells + a') (slots + b') Fq lsA ad' hC (fun L xs hs => ?_) ⟨by omega, by omega⟩ ?_ ⟨hP1, hD1.weaken (fun _ q _ hq => hF q.1 hq), hS⟩ ⟨hL.1, hL.2.1, fun i v hi hv => ?_⟩
  · rw [had.1]
    exact hX L xs hs
  · intro x h2 ad2 H2 locs2 cells2 slots2 lsA2 pc2 c1 c2 c3 c4 c5 c6
    exact hR x h2 ad2 H2 locs2 cells2 slots2 lsA2 pc2 (by omega) (by omega) (Nat.le_trans hln c3) (tk_ad.trans hln had c4) c5 c6
  · rw [hcv v (List.mem_append_left _ (List.mem_of_getElem? hi))]
    exact hL.2.2 i v hi hv
theorem tk_wdG (hν : tk_mc ν n) : GoodIn tk_TS (tk_wd ν) := by
  intro w hw
  rcases List.mem_cons.mp hw with rfl | hw
  · exact tk_goodTS _ hν.1
  · exact tk_goodTS w hw
theorem tk_callB (hν : tk_mc ν n) (hl : Cond.methodLink μ.1.cls idx ν.1 ∈ tk_TS) (hdep : ν.2.2.2.2 < μ.2.2.2.2) (hC : tk_C μ γ p R s m args meth c A) : CallB R s args μ.1.cls idx ν.1 ν.2.1 ν.2.2.1 ν.2.2.2.1 (tk_wd ν) (tk_rm ν a' b') a' b' n := by
  obtain ⟨h1, h2, h3, h4⟩ := hν
  have e1 := hC.2.2.2.2.2.2.2.2.1
  have e2 := hC.2.2.2.2.2.2.2.2.2
  refine callB_of n hC.2.2.2.2.1 (tk_wdG ⟨h1, h2, h3, h4⟩) rfl rfl rfl (hC.2.2.2.2.1 _ h2) (hC.2.2.2.2.1 _ hl) h3 ⟨?_, ?_⟩
  · show ν.2.2.2.2 + 1 ≤ R.frames
    omega
  · show 8 + (ν.2.2.1 + 11) + 64 * ν.2.2.2.2 ≤ R.locals
    omega
theorem tk_preS {vs : List Value} (hC : tk_C μ γ p R s m args meth c A) (hW : tk_W γ s A ad h H locs) : PreS s H (va_Pc (vs.map (tk_cv ad)) (tk_pre γ ad H.size h)) (vs.map (tk_cv ad)) :=
  ⟨tk_blind, fun U hU hWm => ⟨rfl, by rw [hU], by rw [hU]; exact hW.1, tk_K.warm hWm hC.2.2.2.2.2.1, hW.2.1.weaken (fun _ _ _ _ => trivial)⟩⟩
end CALLS
end
section
section CALLR
variable {μ ν : tM} {a b a' b' : Nat} {sx : tX} {pc : Nat} {ls st : List Value} {h : tH} {Q : Int32 → tH → Prop} {n idx : Nat}
theorem tk_sum {ad : Nat → Nat} {st : List Value} (h : (st.map fun v => v.category).sum ≤ 8) : ((st.map (tk_cv ad)).map fun v => v.category).sum ≤ 8 := by
  have e : (st.map (tk_cv ad)).map (fun v => v.category) = st.map fun v => v.category := by
    rw [List.map_map]
    exact List.map_congr_left fun v _ => tk_cvcat ad v
  rw [e]
  exact h
theorem g_callVi {k ci : Nat} {as : List Value} {ty : FieldType} {q : vw_C} (hd : decode μ.2.1 pc = .ok (.invokevirtual idx, 3)) (hν : tk_mc ν as.length) (hi : tk_mi ν) (hl : Cond.methodLink μ.1.cls idx ν.1 ∈ tk_TS) (hv : ν.2.2.2.1 = some ty) (hk : h.1[k]? = some (ci, n)) (hci : ci < 9) (hc : vwCl[ci]? = some q) (hcq : q.1 = ν.1.cls) (hdep : ν.2.2.2.2 < μ.2.2.2.2) (hst : (st.map fun v => v.category).sum ≤ 8) (hwf : tk_wf h.1.length (ls ++ st) = true)
    (kk : tk_Mt ν a' b' (.ref k :: as) h (fun x h' => tk_G μ a b sx (pc + 3) ls (.int x :: st) h' Q)) : tk_G μ (a' + a) (b' + b) sx pc ls (as.reverse ++ .ref k :: st) h Q := by
  intro γ p l e R s m args below meth c A H locs cells slots Fq lsA ad hC hX hB hR hW hL
  have hws := tk_ws_get (γ := γ) (ad := ad) (h := h) hk
  rw [tk_cell_o hci] at hws
  have hrec := va_recv hC.2.2.2.2.2.1.1 hW.1 hc hws
  rw [hcq] at hrec
  refine tk_backi (ν := ν) (vs := .ref k :: as) hv hwf hC hX hB hR hW hL ?_
  exact va_runV (b := ad k) (As := as.map (tk_cv ad)) ⟨hC.1, hC.2.1, hC.2.2.1, hC.2.2.2.1, hC.2.2.2.2.1⟩ (kk l γ ad H.size) ⟨tk_callB hν hl hdep hC, hC.2.2.2.2.1 _ hi.1, hC.2.2.2.2.1 _ hi.2⟩ ⟨tk_blind, hrec, (tk_preS hC hW (vs := .ref k :: as)).2⟩ rfl (by simp) hL.1 (by simp [tk_cv]) (by show 2 * 0 + _ ≤ 8; have := tk_sum (ad := ad) hst; omega) hd ⟨by omega, by omega⟩
theorem g_callVv {k ci : Nat} {as : List Value} {q : vw_C} (hd : decode μ.2.1 pc = .ok (.invokevirtual idx, 3)) (hν : tk_mc ν as.length) (hi : tk_mi ν) (hl : Cond.methodLink μ.1.cls idx ν.1 ∈ tk_TS) (hv : ν.2.2.2.1 = none) (hk : h.1[k]? = some (ci, n)) (hci : ci < 9) (hc : vwCl[ci]? = some q) (hcq : q.1 = ν.1.cls) (hdep : ν.2.2.2.2 < μ.2.2.2.2) (hst : (st.map fun v => v.category).sum ≤ 8) (hwf : tk_wf h.1.length (ls ++ st) = true)
    (kk : tk_Mt ν a' b' (.ref k :: as) h (fun _ h' => tk_G μ a b sx (pc + 3) ls st h' Q)) : tk_G μ (a' + a) (b' + b) sx pc ls (as.reverse ++ .ref k :: st) h Q := by
  intro γ p l e R s m args below meth c A H locs cells slots Fq lsA ad hC hX hB hR hW hL
  have hws := tk_ws_get (γ := γ) (ad := ad) (h := h) hk
  rw [tk_cell_o hci] at hws
  have hrec := va_recv hC.2.2.2.2.2.1.1 hW.1 hc hws
  rw [hcq] at hrec
  refine tk_backv (ν := ν) (vs := .ref k :: as) hv hwf hC hX hB hR hW hL ?_
  exact va_runV (b := ad k) (As := as.map (tk_cv ad)) ⟨hC.1, hC.2.1, hC.2.2.1, hC.2.2.2.1, hC.2.2.2.2.1⟩ (kk l γ ad H.size) ⟨tk_callB hν hl hdep hC, hC.2.2.2.2.1 _ hi.1, hC.2.2.2.2.1 _ hi.2⟩ ⟨tk_blind, hrec, (tk_preS hC hW (vs := .ref k :: as)).2⟩ rfl (by simp) hL.1 (by simp [tk_cv]) (by show 2 * 0 + _ ≤ 8; have := tk_sum (ad := ad) hst; omega) hd ⟨by omega, by omega⟩
theorem g_callSi {as : List Value} {ty : FieldType} (hd : decode μ.2.1 pc = .ok (.invokestatic idx, 3)) (hν : tk_mc ν as.length) (hi : Cond.static ν.1 ∈ tk_TS) (hl : Cond.methodLink μ.1.cls idx ν.1 ∈ tk_TS) (hv : ν.2.2.2.1 = some ty) (hdep : ν.2.2.2.2 < μ.2.2.2.2) (hst : (st.map fun v => v.category).sum ≤ 8) (hwf : tk_wf h.1.length (ls ++ st) = true)
    (kk : tk_Mt ν a' b' as h (fun x h' => tk_G μ a b sx (pc + 3) ls (.int x :: st) h' Q)) : tk_G μ (a' + a) (b' + b) sx pc ls (as.reverse ++ st) h Q := by
  intro γ p l e R s m args below meth c A H locs cells slots Fq lsA ad hC hX hB hR hW hL
  refine tk_backi (ν := ν) (vs := as) hv hwf hC hX hB hR hW hL ?_
  exact va_runS (As := as.map (tk_cv ad)) ⟨hC.1, hC.2.1, hC.2.2.1, hC.2.2.2.1, hC.2.2.2.2.1⟩ (kk l γ ad H.size) ⟨tk_callB hν hl hdep hC, hC.2.2.2.2.1 _ hi⟩ (tk_preS hC hW (vs := as)) rfl (by simp) hL.1 (by simp) (by show 2 * 0 + _ ≤ 8; have := tk_sum (ad := ad) hst; omega) hd ⟨by omega, by omega⟩
theorem g_callSv {as : List Value} (hd : decode μ.2.1 pc = .ok (.invokestatic idx, 3)) (hν : tk_mc ν as.length) (hi : Cond.static ν.1 ∈ tk_TS) (hl : Cond.methodLink μ.1.cls idx ν.1 ∈ tk_TS) (hv : ν.2.2.2.1 = none) (hdep : ν.2.2.2.2 < μ.2.2.2.2) (hst : (st.map fun v => v.category).sum ≤ 8) (hwf : tk_wf h.1.length (ls ++ st) = true)
    (kk : tk_Mt ν a' b' as h (fun _ h' => tk_G μ a b sx (pc + 3) ls st h' Q)) : tk_G μ (a' + a) (b' + b) sx pc ls (as.reverse ++ st) h Q := by
  intro γ p l e R s m args below meth c A H locs cells slots Fq lsA ad hC hX hB hR hW hL
  refine tk_backv (ν := ν) (vs := as) hv hwf hC hX hB hR hW hL ?_
  exact va_runS (As := as.map (tk_cv ad)) ⟨hC.1, hC.2.1, hC.2.2.1, hC.2.2.2.1, hC.2.2.2.2.1⟩ (kk l γ ad H.size) ⟨tk_callB hν hl hdep hC, hC.2.2.2.2.1 _ hi⟩ (tk_preS hC hW (vs := as)) rfl (by simp) hL.1 (by simp) (by show 2 * 0 + _ ≤ 8; have := tk_sum (ad := ad) hst; omega) hd ⟨by omega, by omega⟩
/-- a constructor without parameters -/
theorem g_callI {k : Nat} (hd : decode μ.2.1 pc = .ok (.invokespecial idx, 3)) (hν : tk_mc ν 0) (hi : Cond.instanceMethod ν.1 ∈ tk_TS) (hy : ν.1.name = "<init>") (hl : Cond.methodLink μ.1.cls idx ν.1 ∈ tk_TS) (hv : ν.2.2.2.1 = none) (hdep : ν.2.2.2.2 < μ.2.2.2.2) (hst : (st.map fun v => v.category).sum ≤ 8) (hwf : tk_wf h.1.length (ls ++ st) = true)
    (kk : tk_Mt ν a' b' [.ref k] h (fun _ h' => tk_G μ a b sx (pc + 3) ls st h' Q)) : tk_G μ (a' + a) (b' + b) sx pc ls (.ref k :: st) h Q := by
  intro γ p l e R s m args below meth c A H locs cells slots Fq lsA ad hC hX hB hR hW hL
  refine tk_backv (ν := ν) (vs := [.ref k]) hv hwf hC hX hB hR hW hL ?_
  have hb := tk_callB (a' := a') (b' := b') hν hl hdep hC
  rw [hv] at hb
  exact va_runI (b := ad k) (As := []) ⟨hC.1, hC.2.1, hC.2.2.1, hC.2.2.2.1, hC.2.2.2.2.1⟩ (kk l γ ad H.size) ⟨hb, hy, hC.2.2.2.2.1 _ hi⟩ (tk_preS hC hW (vs := [.ref k])) rfl rfl hL.1 rfl (by show 2 * 0 + _ ≤ 8; have := tk_sum (ad := ad) hst; omega) hd ⟨by omega, by omega⟩
/-- a private constructor of a nest mate -/
theorem g_callIN {k : Nat} {host : String} (hd : decode μ.2.1 pc = .ok (.invokespecial idx, 3)) (hν : tk_mc ν 0) (hi : Cond.instanceMethod ν.1 ∈ tk_TS) (hy : ν.1.name = "<init>") (hl : ∀ U, tk_NX U → va_Nw (.methodLinkNest μ.1.cls idx ν.1 host) U) (hv : ν.2.2.2.1 = none) (hdep : ν.2.2.2.2 < μ.2.2.2.2) (hst : (st.map fun v => v.category).sum ≤ 8) (hwf : tk_wf h.1.length (ls ++ st) = true)
    (kk : tk_Mt ν a' b' [.ref k] h (fun _ h' => tk_G μ a b sx (pc + 3) ls st h' Q)) : tk_G μ (a' + a) (b' + b) sx pc ls (.ref k :: st) h Q := by
  intro γ p l e R s m args below meth c A H locs cells slots Fq lsA ad hC hX hB hR hW hL
  refine tk_backv (ν := ν) (vs := [.ref k]) hv hwf hC hX hB hR hW hL ?_
  have e1 := hC.2.2.2.2.2.2.2.2.1
  have e2 := hC.2.2.2.2.2.2.2.2.2
  have hb : va_CN R s args μ.1.cls idx ν.1 host ν.2.1 ν.2.2.1 ν.2.2.2.1 (tk_wd ν) (tk_rm ν a' b') a' b' 0 := by
    have hG := tk_wdG hν
    obtain ⟨h1, h2, h3, h4⟩ := hν
    exact va_cnB 0 hC.2.2.2.2.1 hG rfl rfl rfl (hl s hC.2.2.2.2.2.1.2) (hC.2.2.2.2.1 _ h2) h3 ⟨by show ν.2.2.2.2 + 1 ≤ R.frames; omega, by show 8 + (ν.2.2.1 + 11) + 64 * ν.2.2.2.2 ≤ R.locals; omega⟩
  rw [hv] at hb
  exact va_runIN (b := ad k) (As := []) ⟨hC.1, hC.2.1, hC.2.2.1, hC.2.2.2.1, hC.2.2.2.2.1⟩ (kk l γ ad H.size) ⟨hb, hy, hC.2.2.2.2.1 _ hi⟩ (tk_preS hC hW (vs := [.ref k])) rfl rfl hL.1 rfl (by show 2 * 0 + _ ≤ 8; have := tk_sum (ad := ad) hst; omega) hd ⟨by omega, by omega⟩
theorem tk_in_max : (Cond.static Lib.Math.max.name ∈ tk_TS ∧ Cond.initialized "java/lang/Math" ∈ tk_TS ∧ Cond.code Lib.Math.max.name Lib.Math.max.code 2 (some .int) ∈ tk_TS) ∧ (Cond.static Lib.Math.min.name ∈ tk_TS ∧ Cond.code Lib.Math.min.name Lib.Math.min.code 2 (some .int) ∈ tk_TS) ∧ (Cond.static Lib.Math.abs.name ∈ tk_TS ∧ Cond.code Lib.Math.abs.name Lib.Math.abs.code 1 (some .int) ∈ tk_TS) ∧ (Cond.native arraycopyName ∈ tk_TS ∧ Cond.static arraycopyName ∈ tk_TS ∧ Cond.initialized "java/lang/System" ∈ tk_TS) := ⟨⟨tk_in 477 (by decide +kernel) (by decide +kernel), tk_in 50 (by decide +kernel) (by decide +kernel), tk_in 478 (by decide +kernel) (by decide +kernel)⟩, ⟨tk_in 393 (by decide +kernel) (by decide +kernel), tk_in 394 (by decide +kernel) (by decide +kernel)⟩, ⟨tk_in 281 (by decide +kernel) (by decide +kernel), tk_in 282 (by decide +kernel) (by decide +kernel)⟩, ⟨tk_in 367 (by decide +kernel) (by decide +kernel), tk_in 366 (by decide +kernel) (by decide +kernel), tk_in 51 (by decide +kernel) (by decide +kernel)⟩⟩
theorem g_max {x y : Int32} (hd : decode μ.2.1 pc = .ok (.invokestatic idx, 3)) (hl : Cond.methodLink μ.1.cls idx Lib.Math.max.name ∈ tk_TS) (hdep : 0 < μ.2.2.2.2) (hst : (st.map fun v => v.category).sum ≤ 8) (k : tk_G μ a b sx (pc + 3) ls (.int (if x < y then y else x) :: st) h Q) : tk_G μ a b sx pc ls (.int y :: .int x :: st) h Q := by
  intro γ p l e R s m args below meth c A H locs cells slots Fq lsA ad hC hX hB hR hW hL
  have e1 := hC.2.2.2.2.2.2.2.2.1
  have e2 := hC.2.2.2.2.2.2.2.2.2
  have e3 := tk_sum (ad := ad) hst
  exact va_mmax hC.1 hC.2.1 (hC.2.2.1.trans hL.1.symm) hC.2.2.2.1 (hC.2.2.2.2.1 _ hl) (hC.2.2.2.2.1 _ tk_in_max.1.1) (hC.2.2.2.2.1 _ tk_in_max.1.2.1) (hC.2.2.2.2.1 _ tk_in_max.1.2.2) (by omega) (by omega) (by omega) (by omega) hd (k γ p l e R s m args below meth c A H locs cells slots Fq lsA ad hC hX hB hR hW hL)
theorem g_min {x y : Int32} (hd : decode μ.2.1 pc = .ok (.invokestatic idx, 3)) (hl : Cond.methodLink μ.1.cls idx Lib.Math.min.name ∈ tk_TS) (hdep : 0 < μ.2.2.2.2) (hst : (st.map fun v => v.category).sum ≤ 8) (k : tk_G μ a b sx (pc + 3) ls (.int (if y < x then y else x) :: st) h Q) : tk_G μ a b sx pc ls (.int y :: .int x :: st) h Q := by
  intro γ p l e R s m args below meth c A H locs cells slots Fq lsA ad hC hX hB hR hW hL
  have e1 := hC.2.2.2.2.2.2.2.2.1
  have e2 := hC.2.2.2.2.2.2.2.2.2
  have e3 := tk_sum (ad := ad) hst
  exact va_mmin hC.1 hC.2.1 (hC.2.2.1.trans hL.1.symm) hC.2.2.2.1 (hC.2.2.2.2.1 _ hl) (hC.2.2.2.2.1 _ tk_in_max.2.1.1) (hC.2.2.2.2.1 _ tk_in_max.1.2.1) (hC.2.2.2.2.1 _ tk_in_max.2.1.2) (by omega) (by omega) (by omega) (by omega) hd (k γ p l e R s m args below meth c A H locs cells slots Fq lsA ad hC hX hB hR hW hL)
theorem g_abs {x : Int32} (hd : decode μ.2.1 pc = .ok (.invokestatic idx, 3)) (hl : Cond.methodLink μ.1.cls idx Lib.Math.abs.name ∈ tk_TS) (hdep : 0 < μ.2.2.2.2) (hst : (st.map fun v => v.category).sum ≤ 8) (k : tk_G μ a b sx (pc + 3) ls (.int (if 0 ≤ x then x else 0 - x) :: st) h Q) : tk_G μ a b sx pc ls (.int x :: st) h Q := by
  intro γ p l e R s m args below meth c A H locs cells slots Fq lsA ad hC hX hB hR hW hL
  have e1 := hC.2.2.2.2.2.2.2.2.1
  have e2 := hC.2.2.2.2.2.2.2.2.2
  have e3 := tk_sum (ad := ad) hst
  exact va_mabs hC.1 hC.2.1 (hC.2.2.1.trans hL.1.symm) hC.2.2.2.1 (hC.2.2.2.2.1 _ hl) (hC.2.2.2.2.1 _ tk_in_max.2.2.1.1) (hC.2.2.2.2.1 _ tk_in_max.1.2.1) (hC.2.2.2.2.1 _ tk_in_max.2.2.1.2) (by omega) (by omega) (by omega) (by omega) hd (k γ p l e R s m args below meth c A H locs cells slots Fq lsA ad hC hX hB hR hW hL)
theorem g_acopy {sh : List (Nat × Nat)} {S : tS} {F : tF} {k0 k1 n0 n1 : Nat} {sp dp c1 : Int32} (hd : decode μ.2.1 pc = .ok (.invokestatic idx, 3)) (hl : Cond.methodLink μ.1.cls idx arraycopyName ∈ tk_TS) (hdep : 0 < μ.2.2.2.2) (hst : (st.map fun v => v.category).sum ≤ 8) (hk0 : sh[k0]? = some (10, n0)) (hk1 : sh[k1]? = some (10, n1)) (h1 : ¬ sp < 0) (h2 : ¬ dp < 0) (h3 : ¬ c1 < 0) (h4 : sp.toNatClampNeg + c1.toNatClampNeg ≤ n0) (h5 : dp.toNatClampNeg + c1.toNatClampNeg ≤ n1)
    (kk : tk_G μ a b sx (pc + 3) ls st (sh, tk_upR S k1 (va_cpy (S k0) (S k1) sp.toNatClampNeg dp.toNatClampNeg c1.toNatClampNeg), F) Q) : tk_G μ a b sx pc ls (.int c1 :: .int dp :: .ref k1 :: .int sp :: .ref k0 :: st) (sh, S, F) Q := by
  intro γ p l e R s m args below meth c A H locs cells slots Fq lsA ad hC hX hB hR hW hL
  have e1 := hC.2.2.2.2.2.2.2.2.1
  have e2 := hC.2.2.2.2.2.2.2.2.2
  have e3 := tk_sum (ad := ad) hst
  have hw0 := tk_ws_get (γ := γ) (ad := ad) (h := (sh, S, F)) hk0
  have hw1 := tk_ws_get (γ := γ) (ad := ad) (h := (sh, S, F)) hk1
  rw [tk_cell_i] at hw0 hw1
  have e4 : nativeFrameWords "java/lang/System" "arraycopy" 5 ≤ 7 := by decide
  refine va_copyi (D := γ.1) hC.1 hC.2.1 (hC.2.2.1.trans hL.1.symm) hC.2.2.2.1 (hC.2.2.2.2.1 _ hl) (hC.2.2.2.2.1 _ tk_in_max.2.2.2.1) (hC.2.2.2.2.1 _ tk_in_max.2.2.2.2.1) (hC.2.2.2.2.1 _ tk_in_max.2.2.2.2.2) hC.2.2.2.2.2.1.1 hW.1 hW.2.1 hW.2.2 k0 k1 0 0 (ty := .int) hw0 hw1 rfl rfl rfl h1 h2 h3 h4 h5 (fun _ _ => rfl) (by omega) (by omega) hd (fun H1 locs1 hP hD hS => ?_)
  have ee : (tk_ws γ ad (sh, S, F)).set k1 (ad k1, .inl (γ.2.1, n1, .inl (va_cpy (S k0) (S k1) sp.toNatClampNeg dp.toNatClampNeg c1.toNatClampNeg))) = tk_ws γ ad (sh, tk_upR S k1 (va_cpy (S k0) (S k1) sp.toNatClampNeg dp.toNatClampNeg c1.toNatClampNeg), F) :=
    tk_ws_set hk1 (by rw [tk_cell_i, tk_upR_s]) (fun i hi => ⟨tk_upR_n hi, rfl⟩)
  have hP : va_P γ.1 vwCl ((tk_ws γ ad (sh, S, F)).set k1 (ad k1, .inl (γ.2.1, n1, .inl (va_cpy (S k0) (S k1) sp.toNatClampNeg dp.toNatClampNeg c1.toNatClampNeg)))) H1 := hP
  have hD : va_D A ((tk_ws γ ad (sh, S, F)).set k1 (ad k1, .inl (γ.2.1, n1, .inl (va_cpy (S k0) (S k1) sp.toNatClampNeg dp.toNatClampNeg c1.toNatClampNeg)))) := hD
  rw [ee] at hP hD
  exact kk γ p l e R s m args below meth c A H1 locs1 cells slots Fq lsA ad hC hX hB hR ⟨hP, hD, hS⟩ hL
end CALLR
end
section
/-! CONSTANTS: methods, links, out of the tables, by place -/
def tkSH : List (Nat × Nat) := [(7, 13), (2, 4), (10, 17), (10, 17), (10, 17), (3, 6), (10, 8), (10, 8), (10, 8), (10, 8), (10, 8), (2, 4), (10, 17), (10, 17), (10, 17), (3, 6), (10, 8), (10, 8), (10, 8), (10, 8), (10, 8), (5, 3), (9, 160), (2, 4), (10, 17), (10, 17), (10, 17), (0, 5), (6, 1), (10, 11), (1, 7), (10, 6), (10, 6), (10, 6), (10, 6), (10, 6), (11, 4), (4, 3), (10, 24), (4, 3), (10, 24), (4, 3), (10, 24), (4, 3), (10, 24), (8, 25), (10, 17), (10, 17), (10, 17), (10, 8), (10, 8), (10, 8), (10, 8), (10, 8), (10, 160), (10, 400), (10, 11), (10, 91), (10, 4), (10, 4), (10, 96), (10, 6), (10, 6), (10, 24)]
def tkRFt : List (List (Option Nat)) := [[some 1, some 5, none, some 11, some 15, none, none, some 21, some 23, some 27, some 28, some 30, some 36], [none, some 2, some 3, some 4], [], [], [], [none, some 6, some 7, some 8, some 9, some 10], [], [], [], [], [], [none, some 12, some 13, some 14], [], [], [], [none, some 16, some 17, some 18, some 19, some 20], [], [], [], [], [], [none, none, some 22], [], [none, some 24, some 25, some 26], [], [], [], [], [some 29], [], [none, none, some 31, some 32, some 33, some 34, some 35], [], [], [], [], [], [some 37, some 39, some 41, some 43], [none, none, some 38], [], [none, none, some 40], [], [none, none, some 42], [], [none, none, some 44], [], [some 46, some 47, some 48, none, some 49, some 50, some 51, some 52, some 53, none, none, some 54, none, none, none, some 55, some 56, none, some 57, some 58, some 59, some 60, some 61, some 62, some 63]]
def tkRF : tF := fun k j => ((((tkRFt[k]?).getD [])[j]?).getD none)
def tk_Ms (ν : tM) (vs : List Value) (S : tS) (Q : Int32 → tS → Prop) : Prop := tk_Mt ν 0 0 vs (tkSH, S, tkRF) (fun x h => ∃ S' : tS, h = (tkSH, S', tkRF) ∧ Q x S')
def tk_Gs (μ : tM) (sx : tX) (pc : Nat) (ls st : List Value) (S : tS) (Q : Int32 → tS → Prop) : Prop := tk_G μ 0 0 sx pc ls st (tkSH, S, tkRF) (fun x h => ∃ S' : tS, h = (tkSH, S', tkRF) ∧ Q x S')
def tk_okQ (μ : tM) (Q : Int32 → tS → Prop) : Int32 → tS → Prop := fun x S => tk_ok μ x ∧ Q x S
theorem tk_G.mono {μ : tM} {a b : Nat} {sx : tX} {pc : Nat} {ls st : List Value} {h : tH} {Q Q' : Int32 → tH → Prop} (k : tk_G μ a b sx pc ls st h Q) (hq : ∀ x h', Q x h' → Q' x h') : tk_G μ a b sx pc ls st h Q' := by
  intro γ p l e R s m args below meth c A H locs cells slots Fq lsA ad hC hX hB hR hW hL
  exact k γ p l e R s m args below meth c A H locs cells slots Fq lsA ad hC hX hB (fun x h' ad' H' locs' cells' slots' lsA' pc' c1 c2 c3 c4 c5 c6 => hR x h' ad' H' locs' cells' slots' lsA' pc' c1 c2 c3 c4 (hq _ _ c5) c6) hW hL
theorem tk_Gs.mono {μ : tM} {sx : tX} {pc : Nat} {ls st : List Value} {S : tS} {Q Q' : Int32 → tS → Prop} (k : tk_Gs μ sx pc ls st S Q) (hq : ∀ x S', Q x S' → Q' x S') : tk_Gs μ sx pc ls st S Q' := tk_G.mono k (fun _ _ ⟨S', e, q⟩ => ⟨S', e, hq _ _ q⟩)
theorem tk_Ms.mono {ν : tM} {vs : List Value} {S : tS} {Q Q' : Int32 → tS → Prop} (k : tk_Ms ν vs S Q) (hq : ∀ x S', Q x S' → Q' x S') : tk_Ms ν vs S Q' := tk_Mt.mono k (fun _ _ ⟨S', e, q⟩ => ⟨S', e, hq _ _ q⟩)
theorem tk_Ms.of {μ : tM} {vs ls : List Value} {S : tS} {Q : Int32 → tS → Prop} (hy : plainName μ.1.cls = true) (hrt : μ.2.2.2.1 = none ∨ μ.2.2.2.1 = some .int ∨ μ.2.2.2.1 = some .boolean) (hn : (tk_lay vs).length ≤ μ.2.2.1) (hls : tk_lay vs ++ List.replicate (μ.2.2.1 - (tk_lay vs).length) .null = ls) (k : tk_G μ 0 0 none 0 ls [] (tkSH, S, tkRF) (fun x h => ∃ S' : tS, h = (tkSH, S', tkRF) ∧ tk_okQ μ Q x S')) : tk_Ms μ vs S Q :=
  tk_Mt.of hy hrt hn hls (tk_G.mono k (fun _ _ ⟨S', e, q⟩ => ⟨q.1, S', e, q.2⟩))
def tk_le : List Value → List Value → Prop
  | v :: t, w :: t' => (v = w ∨ v = .null) ∧ tk_le t t'
  | [], _ => True
  | _ :: _, [] => False
theorem tk_le_at : ∀ {l' l : List Value}, tk_le l' l → ∀ (i : Nat) (v : Value), l'[i]? = some v → v ≠ .null → l[i]? = some v
  | [], _, _, i, v, h, _ => by simp at h
  | _ :: _, [], hl, _, _, _, _ => hl.elim
  | w :: t, w' :: t', hl, i, v, h, hv => by
    obtain ⟨h1, h2⟩ := hl
    cases i with
    | zero =>
      simp at h ⊢
      rcases h1 with h1 | h1
      · rw [← h1, h]
      · exact absurd (h ▸ h1) hv
    | succ i =>
      simp at h ⊢
      exact tk_le_at h2 i v h hv
theorem g_drop {μ : tM} {a b : Nat} {sx : tX} {pc : Nat} {ls ls' st : List Value} {h : tH} {Q : Int32 → tH → Prop} (hl : tk_le ls' ls) (k : tk_G μ a b sx pc ls' st h Q) : tk_G μ a b sx pc ls st h Q := by
  intro γ p l e R s m args below meth c A H locs cells slots Fq lsA ad hC hX hB hR hW hL
  exact k γ p l e R s m args below meth c A H locs cells slots Fq lsA ad hC hX hB hR hW ⟨hL.1, hL.2.1, fun i v hi hv => hL.2.2 i v (tk_le_at hl i v hi hv) hv⟩
theorem g_sheets {μ : tM} {a b : Nat} {sx : tX} {pc : Nat} {ls st : List Value} {S : tS} {Q : Int32 → tH → Prop} {i : Int32} (hd : decode μ.2.1 pc = .ok (.aaload, 1)) (hin : vp_in i 4) (h0 : i = 0 → tk_G μ a b sx (pc + 1) ls (.ref 37 :: st) (tkSH, S, tkRF) Q) (h1 : i = 1 → tk_G μ a b sx (pc + 1) ls (.ref 39 :: st) (tkSH, S, tkRF) Q) (h2 : i = 2 → tk_G μ a b sx (pc + 1) ls (.ref 41 :: st) (tkSH, S, tkRF) Q) (h3 : i = 3 → tk_G μ a b sx (pc + 1) ls (.ref 43 :: st) (tkSH, S, tkRF) Q) : tk_G μ a b sx pc ls (.int i :: .ref 36 :: st) (tkSH, S, tkRF) Q := by
  obtain ⟨j, hj, e⟩ := vp_in_of hin (by decide)
  have e4 : j = 0 ∨ j = 1 ∨ j = 2 ∨ j = 3 := by omega
  rcases e4 with rfl | rfl | rfl | rfl
  · have e : i = 0 := e
    have hh := h0 e
    subst e
    exact g_aald (n := 4) hd rfl hin rfl hh
  · have e : i = 1 := e
    have hh := h1 e
    subst e
    exact g_aald (n := 4) hd rfl hin rfl hh
  · have e : i = 2 := e
    have hh := h2 e
    subst e
    exact g_aald (n := 4) hd rfl hin rfl hh
  · have e : i = 3 := e
    have hh := h3 e
    subst e
    exact g_aald (n := 4) hd rfl hin rfl hh
def tk_vm (ν : tM) (n ci : Nat) : Prop := tk_mc ν n ∧ tk_mi ν ∧ ci < 9 ∧ ∃ q : vw_C, vwCl[ci]? = some q ∧ q.1 = ν.1.cls
def tk_sm (ν : tM) (n : Nat) : Prop := tk_mc ν n ∧ Cond.static ν.1 ∈ tk_TS
theorem s_V0i {μ ν : tM} {sx : tX} {pc idx k ci n : Nat} {ls st : List Value} {ty : FieldType} {S : tS} {Q : Int32 → tH → Prop} (hd : decode μ.2.1 pc = .ok (.invokevirtual idx, 3)) (hm : tk_vm ν 0 ci) (hl : Cond.methodLink μ.1.cls idx ν.1 ∈ tk_TS) (hv : ν.2.2.2.1 = some ty) (hk : tkSH[k]? = some (ci, n)) (hdep : ν.2.2.2.2 < μ.2.2.2.2) (hst : (st.map fun v => v.category).sum ≤ 8) (hwf : tk_wf 64 (ls ++ st) = true) (kk : tk_Ms ν [.ref k] S (fun x S' => tk_G μ 0 0 sx (pc + 3) ls (.int x :: st) (tkSH, S', tkRF) Q)) : tk_G μ 0 0 sx pc ls (.ref k :: st) (tkSH, S, tkRF) Q := by
  obtain ⟨q, hq1, hq2⟩ := hm.2.2.2
  exact g_callVi (a := 0) (b := 0) (a' := 0) (b' := 0) (as := []) (h := (tkSH, S, tkRF)) hd hm.1 hm.2.1 hl hv hk hm.2.2.1 hq1 hq2 hdep hst hwf (tk_Mt.mono kk (fun x h' ⟨S', e, k⟩ => by subst e; exact k))
theorem s_S0i {μ ν : tM} {sx : tX} {pc idx : Nat} {ls st : List Value} {ty : FieldType} {S : tS} {Q : Int32 → tH → Prop} (hd : decode μ.2.1 pc = .ok (.invokestatic idx, 3)) (hm : tk_sm ν 0) (hl : Cond.methodLink μ.1.cls idx ν.1 ∈ tk_TS) (hv : ν.2.2.2.1 = some ty) (hdep : ν.2.2.2.2 < μ.2.2.2.2) (hst : (st.map fun v => v.category).sum ≤ 8) (hwf : tk_wf 64 (ls ++ st) = true) (kk : tk_Ms ν [] S (fun x S' => tk_G μ 0 0 sx (pc + 3) ls (.int x :: st) (tkSH, S', tkRF) Q)) : tk_G μ 0 0 sx pc ls (st) (tkSH, S, tkRF) Q :=
  g_callSi (a := 0) (b := 0) (a' := 0) (b' := 0) (as := []) (h := (tkSH, S, tkRF)) hd hm.1 hm.2 hl hv hdep hst hwf (tk_Mt.mono kk (fun x h' ⟨S', e, k⟩ => by subst e; exact k))
theorem s_V0v {μ ν : tM} {sx : tX} {pc idx k ci n : Nat} {ls st : List Value} {S : tS} {Q : Int32 → tH → Prop} (hd : decode μ.2.1 pc = .ok (.invokevirtual idx, 3)) (hm : tk_vm ν 0 ci) (hl : Cond.methodLink μ.1.cls idx ν.1 ∈ tk_TS) (hv : ν.2.2.2.1 = none) (hk : tkSH[k]? = some (ci, n)) (hdep : ν.2.2.2.2 < μ.2.2.2.2) (hst : (st.map fun v => v.category).sum ≤ 8) (hwf : tk_wf 64 (ls ++ st) = true) (kk : tk_Ms ν [.ref k] S (fun _ S' => tk_G μ 0 0 sx (pc + 3) ls st (tkSH, S', tkRF) Q)) : tk_G μ 0 0 sx pc ls (.ref k :: st) (tkSH, S, tkRF) Q := by
  obtain ⟨q, hq1, hq2⟩ := hm.2.2.2
  exact g_callVv (a := 0) (b := 0) (a' := 0) (b' := 0) (as := []) (h := (tkSH, S, tkRF)) hd hm.1 hm.2.1 hl hv hk hm.2.2.1 hq1 hq2 hdep hst hwf (tk_Mt.mono kk (fun x h' ⟨S', e, k⟩ => by subst e; exact k))
theorem s_S0v {μ ν : tM} {sx : tX} {pc idx : Nat} {ls st : List Value} {S : tS} {Q : Int32 → tH → Prop} (hd : decode μ.2.1 pc = .ok (.invokestatic idx, 3)) (hm : tk_sm ν 0) (hl : Cond.methodLink μ.1.cls idx ν.1 ∈ tk_TS) (hv : ν.2.2.2.1 = none) (hdep : ν.2.2.2.2 < μ.2.2.2.2) (hst : (st.map fun v => v.category).sum ≤ 8) (hwf : tk_wf 64 (ls ++ st) = true) (kk : tk_Ms ν [] S (fun _ S' => tk_G μ 0 0 sx (pc + 3) ls st (tkSH, S', tkRF) Q)) : tk_G μ 0 0 sx pc ls (st) (tkSH, S, tkRF) Q :=
  g_callSv (a := 0) (b := 0) (a' := 0) (b' := 0) (as := []) (h := (tkSH, S, tkRF)) hd hm.1 hm.2 hl hv hdep hst hwf (tk_Mt.mono kk (fun x h' ⟨S', e, k⟩ => by subst e; exact k))
theorem s_V1i {μ ν : tM} {sx : tX} {pc idx k ci n : Nat} {ls st : List Value} {v1 : Value} {ty : FieldType} {S : tS} {Q : Int32 → tH → Prop} (hd : decode μ.2.1 pc = .ok (.invokevirtual idx, 3)) (hm : tk_vm ν 1 ci) (hl : Cond.methodLink μ.1.cls idx ν.1 ∈ tk_TS) (hv : ν.2.2.2.1 = some ty) (hk : tkSH[k]? = some (ci, n)) (hdep : ν.2.2.2.2 < μ.2.2.2.2) (hst : (st.map fun v => v.category).sum ≤ 8) (hwf : tk_wf 64 (ls ++ st) = true) (kk : tk_Ms ν [.ref k, v1] S (fun x S' => tk_G μ 0 0 sx (pc + 3) ls (.int x :: st) (tkSH, S', tkRF) Q)) : tk_G μ 0 0 sx pc ls (v1 :: .ref k :: st) (tkSH, S, tkRF) Q := by
  obtain ⟨q, hq1, hq2⟩ := hm.2.2.2
  exact g_callVi (a := 0) (b := 0) (a' := 0) (b' := 0) (as := [v1]) (h := (tkSH, S, tkRF)) hd hm.1 hm.2.1 hl hv hk hm.2.2.1 hq1 hq2 hdep hst hwf (tk_Mt.mono kk (fun x h' ⟨S', e, k⟩ => by subst e; exact k))
theorem s_S1i {μ ν : tM} {sx : tX} {pc idx : Nat} {ls st : List Value} {v1 : Value} {ty : FieldType} {S : tS} {Q : Int32 → tH → Prop} (hd : decode μ.2.1 pc = .ok (.invokestatic idx, 3)) (hm : tk_sm ν 1) (hl : Cond.methodLink μ.1.cls idx ν.1 ∈ tk_TS) (hv : ν.2.2.2.1 = some ty) (hdep : ν.2.2.2.2 < μ.2.2.2.2) (hst : (st.map fun v => v.category).sum ≤ 8) (hwf : tk_wf 64 (ls ++ st) = true) (kk : tk_Ms ν [v1] S (fun x S' => tk_G μ 0 0 sx (pc + 3) ls (.int x :: st) (tkSH, S', tkRF) Q)) : tk_G μ 0 0 sx pc ls (v1 :: st) (tkSH, S, tkRF) Q :=
  g_callSi (a := 0) (b := 0) (a' := 0) (b' := 0) (as := [v1]) (h := (tkSH, S, tkRF)) hd hm.1 hm.2 hl hv hdep hst hwf (tk_Mt.mono kk (fun x h' ⟨S', e, k⟩ => by subst e; exact k))
theorem s_V1v {μ ν : tM} {sx : tX} {pc idx k ci n : Nat} {ls st : List Value} {v1 : Value} {S : tS} {Q : Int32 → tH → Prop} (hd : decode μ.2.1 pc = .ok (.invokevirtual idx, 3)) (hm : tk_vm ν 1 ci) (hl : Cond.methodLink μ.1.cls idx ν.1 ∈ tk_TS) (hv : ν.2.2.2.1 = none) (hk : tkSH[k]? = some (ci, n)) (hdep : ν.2.2.2.2 < μ.2.2.2.2) (hst : (st.map fun v => v.category).sum ≤ 8) (hwf : tk_wf 64 (ls ++ st) = true) (kk : tk_Ms ν [.ref k, v1] S (fun _ S' => tk_G μ 0 0 sx (pc + 3) ls st (tkSH, S', tkRF) Q)) : tk_G μ 0 0 sx pc ls (v1 :: .ref k :: st) (tkSH, S, tkRF) Q := by
  obtain ⟨q, hq1, hq2⟩ := hm.2.2.2
  exact g_callVv (a := 0) (b := 0) (a' := 0) (b' := 0) (as := [v1]) (h := (tkSH, S, tkRF)) hd hm.1 hm.2.1 hl hv hk hm.2.2.1 hq1 hq2 hdep hst hwf (tk_Mt.mono kk (fun x h' ⟨S', e, k⟩ => by subst e; exact k))
theorem s_S1v {μ ν : tM} {sx : tX} {pc idx : Nat} {ls st : List Value} {v1 : Value} {S : tS} {Q : Int32 → tH → Prop} (hd : decode μ.2.1 pc = .ok (.invokestatic idx, 3)) (hm : tk_sm ν 1) (hl : Cond.methodLink μ.1.cls idx ν.1 ∈ tk_TS) (hv : ν.2.2.2.1 = none) (hdep : ν.2.2.2.2 < μ.2.2.2.2) (hst : (st.map fun v => v.category).sum ≤ 8) (hwf : tk_wf 64 (ls ++ st) = true) (kk : tk_Ms ν [v1] S (fun _ S' => tk_G μ 0 0 sx (pc + 3) ls st (tkSH, S', tkRF) Q)) : tk_G μ 0 0 sx pc ls (v1 :: st) (tkSH, S, tkRF) Q :=
  g_callSv (a := 0) (b := 0) (a' := 0) (b' := 0) (as := [v1]) (h := (tkSH, S, tkRF)) hd hm.1 hm.2 hl hv hdep hst hwf (tk_Mt.mono kk (fun x h' ⟨S', e, k⟩ => by subst e; exact k))
theorem s_V2i {μ ν : tM} {sx : tX} {pc idx k ci n : Nat} {ls st : List Value} {v1 v2 : Value} {ty : FieldType} {S : tS} {Q : Int32 → tH → Prop} (hd : decode μ.2.1 pc = .ok (.invokevirtual idx, 3)) (hm : tk_vm ν 2 ci) (hl : Cond.methodLink μ.1.cls idx ν.1 ∈ tk_TS) (hv : ν.2.2.2.1 = some ty) (hk : tkSH[k]? = some (ci, n)) (hdep : ν.2.2.2.2 < μ.2.2.2.2) (hst : (st.map fun v => v.category).sum ≤ 8) (hwf : tk_wf 64 (ls ++ st) = true) (kk : tk_Ms ν [.ref k, v1, v2] S (fun x S' => tk_G μ 0 0 sx (pc + 3) ls (.int x :: st) (tkSH, S', tkRF) Q)) : tk_G μ 0 0 sx pc ls (v2 :: v1 :: .ref k :: st) (tkSH, S, tkRF) Q := by
  obtain ⟨q, hq1, hq2⟩ := hm.2.2.2
  exact g_callVi (a := 0) (b := 0) (a' := 0) (b' := 0) (as := [v1, v2]) (h := (tkSH, S, tkRF)) hd hm.1 hm.2.1 hl hv hk hm.2.2.1 hq1 hq2 hdep hst hwf (tk_Mt.mono kk (fun x h' ⟨S', e, k⟩ => by subst e; exact k))
theorem s_S2i {μ ν : tM} {sx : tX} {pc idx : Nat} {ls st : List Value} {v1 v2 : Value} {ty : FieldType} {S : tS} {Q : Int32 → tH → Prop} (hd : decode μ.2.1 pc = .ok (.invokestatic idx, 3)) (hm : tk_sm ν 2) (hl : Cond.methodLink μ.1.cls idx ν.1 ∈ tk_TS) (hv : ν.2.2.2.1 = some ty) (hdep : ν.2.2.2.2 < μ.2.2.2.2) (hst : (st.map fun v => v.category).sum ≤ 8) (hwf : tk_wf 64 (ls ++ st) = true) (kk : tk_Ms ν [v1, v2] S (fun x S' => tk_G μ 0 0 sx (pc + 3) ls (.int x :: st) (tkSH, S', tkRF) Q)) : tk_G μ 0 0 sx pc ls (v2 :: v1 :: st) (tkSH, S, tkRF) Q :=
  g_callSi (a := 0) (b := 0) (a' := 0) (b' := 0) (as := [v1, v2]) (h := (tkSH, S, tkRF)) hd hm.1 hm.2 hl hv hdep hst hwf (tk_Mt.mono kk (fun x h' ⟨S', e, k⟩ => by subst e; exact k))
theorem s_V2v {μ ν : tM} {sx : tX} {pc idx k ci n : Nat} {ls st : List Value} {v1 v2 : Value} {S : tS} {Q : Int32 → tH → Prop} (hd : decode μ.2.1 pc = .ok (.invokevirtual idx, 3)) (hm : tk_vm ν 2 ci) (hl : Cond.methodLink μ.1.cls idx ν.1 ∈ tk_TS) (hv : ν.2.2.2.1 = none) (hk : tkSH[k]? = some (ci, n)) (hdep : ν.2.2.2.2 < μ.2.2.2.2) (hst : (st.map fun v => v.category).sum ≤ 8) (hwf : tk_wf 64 (ls ++ st) = true) (kk : tk_Ms ν [.ref k, v1, v2] S (fun _ S' => tk_G μ 0 0 sx (pc + 3) ls st (tkSH, S', tkRF) Q)) : tk_G μ 0 0 sx pc ls (v2 :: v1 :: .ref k :: st) (tkSH, S, tkRF) Q := by
  obtain ⟨q, hq1, hq2⟩ := hm.2.2.2
  exact g_callVv (a := 0) (b := 0) (a' := 0) (b' := 0) (as := [v1, v2]) (h := (tkSH, S, tkRF)) hd hm.1 hm.2.1 hl hv hk hm.2.2.1 hq1 hq2 hdep hst hwf (tk_Mt.mono kk (fun x h' ⟨S', e, k⟩ => by subst e; exact k))
theorem s_S2v {μ ν : tM} {sx : tX} {pc idx : Nat} {ls st : List Value} {v1 v2 : Value} {S : tS} {Q : Int32 → tH → Prop} (hd : decode μ.2.1 pc = .ok (.invokestatic idx, 3)) (hm : tk_sm ν 2) (hl : Cond.methodLink μ.1.cls idx ν.1 ∈ tk_TS) (hv : ν.2.2.2.1 = none) (hdep : ν.2.2.2.2 < μ.2.2.2.2) (hst : (st.map fun v => v.category).sum ≤ 8) (hwf : tk_wf 64 (ls ++ st) = true) (kk : tk_Ms ν [v1, v2] S (fun _ S' => tk_G μ 0 0 sx (pc + 3) ls st (tkSH, S', tkRF) Q)) : tk_G μ 0 0 sx pc ls (v2 :: v1 :: st) (tkSH, S, tkRF) Q :=
  g_callSv (a := 0) (b := 0) (a' := 0) (b' := 0) (as := [v1, v2]) (h := (tkSH, S, tkRF)) hd hm.1 hm.2 hl hv hdep hst hwf (tk_Mt.mono kk (fun x h' ⟨S', e, k⟩ => by subst e; exact k))
theorem s_V3i {μ ν : tM} {sx : tX} {pc idx k ci n : Nat} {ls st : List Value} {v1 v2 v3 : Value} {ty : FieldType} {S : tS} {Q : Int32 → tH → Prop} (hd : decode μ.2.1 pc = .ok (.invokevirtual idx, 3)) (hm : tk_vm ν 3 ci) (hl : Cond.methodLink μ.1.cls idx ν.1 ∈ tk_TS) (hv : ν.2.2.2.1 = some ty) (hk : tkSH[k]? = some (ci, n)) (hdep : ν.2.2.2.2 < μ.2.2.2.2) (hst : (st.map fun v => v.category).sum ≤ 8) (hwf : tk_wf 64 (ls ++ st) = true) (kk : tk_Ms ν [.ref k, v1, v2, v3] S (fun x S' => tk_G μ 0 0 sx (pc + 3) ls (.int x :: st) (tkSH, S', tkRF) Q)) : tk_G μ 0 0 sx pc ls (v3 :: v2 :: v1 :: .ref k :: st) (tkSH, S, tkRF) Q := by
  obtain ⟨q, hq1, hq2⟩ := hm.2.2.2
  exact g_callVi (a := 0) (b := 0) (a' := 0) (b' := 0) (as := [v1, v2, v3]) (h := (tkSH, S, tkRF)) hd hm.1 hm.2.1 hl hv hk hm.2.2.1 hq1 hq2 hdep hst hwf (tk_Mt.mono kk (fun x h' ⟨S', e, k⟩ => by subst e; exact k))
theorem s_S3i {μ ν : tM} {sx : tX} {pc idx : Nat} {ls st : List Value} {v1 v2 v3 : Value} {ty : FieldType} {S : tS} {Q : Int32 → tH → Prop} (hd : decode μ.2.1 pc = .ok (.invokestatic idx, 3)) (hm : tk_sm ν 3) (hl : Cond.methodLink μ.1.cls idx ν.1 ∈ tk_TS) (hv : ν.2.2.2.1 = some ty) (hdep : ν.2.2.2.2 < μ.2.2.2.2) (hst : (st.map fun v => v.category).sum ≤ 8) (hwf : tk_wf 64 (ls ++ st) = true) (kk : tk_Ms ν [v1, v2, v3] S (fun x S' => tk_G μ 0 0 sx (pc + 3) ls (.int x :: st) (tkSH, S', tkRF) Q)) : tk_G μ 0 0 sx pc ls (v3 :: v2 :: v1 :: st) (tkSH, S, tkRF) Q :=
  g_callSi (a := 0) (b := 0) (a' := 0) (b' := 0) (as := [v1, v2, v3]) (h := (tkSH, S, tkRF)) hd hm.1 hm.2 hl hv hdep hst hwf (tk_Mt.mono kk (fun x h' ⟨S', e, k⟩ => by subst e; exact k))
theorem s_V3v {μ ν : tM} {sx : tX} {pc idx k ci n : Nat} {ls st : List Value} {v1 v2 v3 : Value} {S : tS} {Q : Int32 → tH → Prop} (hd : decode μ.2.1 pc = .ok (.invokevirtual idx, 3)) (hm : tk_vm ν 3 ci) (hl : Cond.methodLink μ.1.cls idx ν.1 ∈ tk_TS) (hv : ν.2.2.2.1 = none) (hk : tkSH[k]? = some (ci, n)) (hdep : ν.2.2.2.2 < μ.2.2.2.2) (hst : (st.map fun v => v.category).sum ≤ 8) (hwf : tk_wf 64 (ls ++ st) = true) (kk : tk_Ms ν [.ref k, v1, v2, v3] S (fun _ S' => tk_G μ 0 0 sx (pc + 3) ls st (tkSH, S', tkRF) Q)) : tk_G μ 0 0 sx pc ls (v3 :: v2 :: v1 :: .ref k :: st) (tkSH, S, tkRF) Q := by
  obtain ⟨q, hq1, hq2⟩ := hm.2.2.2
  exact g_callVv (a := 0) (b := 0) (a' := 0) (b' := 0) (as := [v1, v2, v3]) (h := (tkSH, S, tkRF)) hd hm.1 hm.2.1 hl hv hk hm.2.2.1 hq1 hq2 hdep hst hwf (tk_Mt.mono kk (fun x h' ⟨S', e, k⟩ => by subst e; exact k))
theorem s_S3v {μ ν : tM} {sx : tX} {pc idx : Nat} {ls st : List Value} {v1 v2 v3 : Value} {S : tS} {Q : Int32 → tH → Prop} (hd : decode μ.2.1 pc = .ok (.invokestatic idx, 3)) (hm : tk_sm ν 3) (hl : Cond.methodLink μ.1.cls idx ν.1 ∈ tk_TS) (hv : ν.2.2.2.1 = none) (hdep : ν.2.2.2.2 < μ.2.2.2.2) (hst : (st.map fun v => v.category).sum ≤ 8) (hwf : tk_wf 64 (ls ++ st) = true) (kk : tk_Ms ν [v1, v2, v3] S (fun _ S' => tk_G μ 0 0 sx (pc + 3) ls st (tkSH, S', tkRF) Q)) : tk_G μ 0 0 sx pc ls (v3 :: v2 :: v1 :: st) (tkSH, S, tkRF) Q :=
  g_callSv (a := 0) (b := 0) (a' := 0) (b' := 0) (as := [v1, v2, v3]) (h := (tkSH, S, tkRF)) hd hm.1 hm.2 hl hv hdep hst hwf (tk_Mt.mono kk (fun x h' ⟨S', e, k⟩ => by subst e; exact k))
theorem s_V4i {μ ν : tM} {sx : tX} {pc idx k ci n : Nat} {ls st : List Value} {v1 v2 v3 v4 : Value} {ty : FieldType} {S : tS} {Q : Int32 → tH → Prop} (hd : decode μ.2.1 pc = .ok (.invokevirtual idx, 3)) (hm : tk_vm ν 4 ci) (hl : Cond.methodLink μ.1.cls idx ν.1 ∈ tk_TS) (hv : ν.2.2.2.1 = some ty) (hk : tkSH[k]? = some (ci, n)) (hdep : ν.2.2.2.2 < μ.2.2.2.2) (hst : (st.map fun v => v.category).sum ≤ 8) (hwf : tk_wf 64 (ls ++ st) = true) (kk : tk_Ms ν [.ref k, v1, v2, v3, v4] S (fun x S' => tk_G μ 0 0 sx (pc + 3) ls (.int x :: st) (tkSH, S', tkRF) Q)) : tk_G μ 0 0 sx pc ls (v4 :: v3 :: v2 :: v1 :: .ref k :: st) (tkSH, S, tkRF) Q := by
  obtain ⟨q, hq1, hq2⟩ := hm.2.2.2
  exact g_callVi (a := 0) (b := 0) (a' := 0) (b' := 0) (as := [v1, v2, v3, v4]) (h := (tkSH, S, tkRF)) hd hm.1 hm.2.1 hl hv hk hm.2.2.1 hq1 hq2 hdep hst hwf (tk_Mt.mono kk (fun x h' ⟨S', e, k⟩ => by subst e; exact k))
theorem s_S4i {μ ν : tM} {sx : tX} {pc idx : Nat} {ls st : List Value} {v1 v2 v3 v4 : Value} {ty : FieldType} {S : tS} {Q : Int32 → tH → Prop} (hd : decode μ.2.1 pc = .ok (.invokestatic idx, 3)) (hm : tk_sm ν 4) (hl : Cond.methodLink μ.1.cls idx ν.1 ∈ tk_TS) (hv : ν.2.2.2.1 = some ty) (hdep : ν.2.2.2.2 < μ.2.2.2.2) (hst : (st.map fun v => v.category).sum ≤ 8) (hwf : tk_wf 64 (ls ++ st) = true) (kk : tk_Ms ν [v1, v2, v3, v4] S (fun x S' => tk_G μ 0 0 sx (pc + 3) ls (.int x :: st) (tkSH, S', tkRF) Q)) : tk_G μ 0 0 sx pc ls (v4 :: v3 :: v2 :: v1 :: st) (tkSH, S, tkRF) Q :=
  g_callSi (a := 0) (b := 0) (a' := 0) (b' := 0) (as := [v1, v2, v3, v4]) (h := (tkSH, S, tkRF)) hd hm.1 hm.2 hl hv hdep hst hwf (tk_Mt.mono kk (fun x h' ⟨S', e, k⟩ => by subst e; exact k))
theorem s_V4v {μ ν : tM} {sx : tX} {pc idx k ci n : Nat} {ls st : List Value} {v1 v2 v3 v4 : Value} {S : tS} {Q : Int32 → tH → Prop} (hd : decode μ.2.1 pc = .ok (.invokevirtual idx, 3)) (hm : tk_vm ν 4 ci) (hl : Cond.methodLink μ.1.cls idx ν.1 ∈ tk_TS) (hv : ν.2.2.2.1 = none) (hk : tkSH[k]? = some (ci, n)) (hdep : ν.2.2.2.2 < μ.2.2.2.2) (hst : (st.map fun v => v.category).sum ≤ 8) (hwf : tk_wf 64 (ls ++ st) = true) (kk : tk_Ms ν [.ref k, v1, v2, v3, v4] S (fun _ S' => tk_G μ 0 0 sx (pc + 3) ls st (tkSH, S', tkRF) Q)) : tk_G μ 0 0 sx pc ls (v4 :: v3 :: v2 :: v1 :: .ref k :: st) (tkSH, S, tkRF) Q := by
  obtain ⟨q, hq1, hq2⟩ := hm.2.2.2
  exact g_callVv (a := 0) (b := 0) (a' := 0) (b' := 0) (as := [v1, v2, v3, v4]) (h := (tkSH, S, tkRF)) hd hm.1 hm.2.1 hl hv hk hm.2.2.1 hq1 hq2 hdep hst hwf (tk_Mt.mono kk (fun x h' ⟨S', e, k⟩ => by subst e; exact k))
theorem s_S4v {μ ν : tM} {sx : tX} {pc idx : Nat} {ls st : List Value} {v1 v2 v3 v4 : Value} {S : tS} {Q : Int32 → tH → Prop} (hd : decode μ.2.1 pc = .ok (.invokestatic idx, 3)) (hm : tk_sm ν 4) (hl : Cond.methodLink μ.1.cls idx ν.1 ∈ tk_TS) (hv : ν.2.2.2.1 = none) (hdep : ν.2.2.2.2 < μ.2.2.2.2) (hst : (st.map fun v => v.category).sum ≤ 8) (hwf : tk_wf 64 (ls ++ st) = true) (kk : tk_Ms ν [v1, v2, v3, v4] S (fun _ S' => tk_G μ 0 0 sx (pc + 3) ls st (tkSH, S', tkRF) Q)) : tk_G μ 0 0 sx pc ls (v4 :: v3 :: v2 :: v1 :: st) (tkSH, S, tkRF) Q :=
  g_callSv (a := 0) (b := 0) (a' := 0) (b' := 0) (as := [v1, v2, v3, v4]) (h := (tkSH, S, tkRF)) hd hm.1 hm.2 hl hv hdep hst hwf (tk_Mt.mono kk (fun x h' ⟨S', e, k⟩ => by subst e; exact k))
theorem s_V5i {μ ν : tM} {sx : tX} {pc idx k ci n : Nat} {ls st : List Value} {v1 v2 v3 v4 v5 : Value} {ty : FieldType} {S : tS} {Q : Int32 → tH → Prop} (hd : decode μ.2.1 pc = .ok (.invokevirtual idx, 3)) (hm : tk_vm ν 5 ci) (hl : Cond.methodLink μ.1.cls idx ν.1 ∈ tk_TS) (hv : ν.2.2.2.1 = some ty) (hk : tkSH[k]? = some (ci, n)) (hdep : ν.2.2.2.2 < μ.2.2.2.2) (hst : (st.map fun v => v.category).sum ≤ 8) (hwf : tk_wf 64 (ls ++ st) = true) (kk : tk_Ms ν [.ref k, v1, v2, v3, v4, v5] S (fun x S' => tk_G μ 0 0 sx (pc + 3) ls (.int x :: st) (tkSH, S', tkRF) Q)) : tk_G μ 0 0 sx pc ls (v5 :: v4 :: v3 :: v2 :: v1 :: .ref k :: st) (tkSH, S, tkRF) Q := by
  obtain ⟨q, hq1, hq2⟩ := hm.2.2.2
  exact g_callVi (a := 0) (b := 0) (a' := 0) (b' := 0) (as := [v1, v2, v3, v4, v5]) (h := (tkSH, S, tkRF)) hd hm.1 hm.2.1 hl hv hk hm.2.2.1 hq1 hq2 hdep hst hwf (tk_Mt.mono kk (fun x h' ⟨S', e, k⟩ => by subst e; exact k))
theorem s_S5i {μ ν : tM} {sx : tX} {pc idx : Nat} {ls st : List Value} {v1 v2 v3 v4 v5 : Value} {ty : FieldType} {S : tS} {Q : Int32 → tH → Prop} (hd : decode μ.2.1 pc = .ok (.invokestatic idx, 3)) (hm : tk_sm ν 5) (hl : Cond.methodLink μ.1.cls idx ν.1 ∈ tk_TS) (hv : ν.2.2.2.1 = some ty) (hdep : ν.2.2.2.2 < μ.2.2.2.2) (hst : (st.map fun v => v.category).sum ≤ 8) (hwf : tk_wf 64 (ls ++ st) = true) (kk : tk_Ms ν [v1, v2, v3, v4, v5] S (fun x S' => tk_G μ 0 0 sx (pc + 3) ls (.int x :: st) (tkSH, S', tkRF) Q)) : tk_G μ 0 0 sx pc ls (v5 :: v4 :: v3 :: v2 :: v1 :: st) (tkSH, S, tkRF) Q :=
  g_callSi (a := 0) (b := 0) (a' := 0) (b' := 0) (as := [v1, v2, v3, v4, v5]) (h := (tkSH, S, tkRF)) hd hm.1 hm.2 hl hv hdep hst hwf (tk_Mt.mono kk (fun x h' ⟨S', e, k⟩ => by subst e; exact k))
theorem s_V5v {μ ν : tM} {sx : tX} {pc idx k ci n : Nat} {ls st : List Value} {v1 v2 v3 v4 v5 : Value} {S : tS} {Q : Int32 → tH → Prop} (hd : decode μ.2.1 pc = .ok (.invokevirtual idx, 3)) (hm : tk_vm ν 5 ci) (hl : Cond.methodLink μ.1.cls idx ν.1 ∈ tk_TS) (hv : ν.2.2.2.1 = none) (hk : tkSH[k]? = some (ci, n)) (hdep : ν.2.2.2.2 < μ.2.2.2.2) (hst : (st.map fun v => v.category).sum ≤ 8) (hwf : tk_wf 64 (ls ++ st) = true) (kk : tk_Ms ν [.ref k, v1, v2, v3, v4, v5] S (fun _ S' => tk_G μ 0 0 sx (pc + 3) ls st (tkSH, S', tkRF) Q)) : tk_G μ 0 0 sx pc ls (v5 :: v4 :: v3 :: v2 :: v1 :: .ref k :: st) (tkSH, S, tkRF) Q := by
  obtain ⟨q, hq1, hq2⟩ := hm.2.2.2
  exact g_callVv (a := 0) (b := 0) (a' := 0) (b' := 0) (as := [v1, v2, v3, v4, v5]) (h := (tkSH, S, tkRF)) hd hm.1 hm.2.1 hl hv hk hm.2.2.1 hq1 hq2 hdep hst hwf (tk_Mt.mono kk (fun x h' ⟨S', e, k⟩ => by subst e; exact k))
theorem s_S5v {μ ν : tM} {sx : tX} {pc idx : Nat} {ls st : List Value} {v1 v2 v3 v4 v5 : Value} {S : tS} {Q : Int32 → tH → Prop} (hd : decode μ.2.1 pc = .ok (.invokestatic idx, 3)) (hm : tk_sm ν 5) (hl : Cond.methodLink μ.1.cls idx ν.1 ∈ tk_TS) (hv : ν.2.2.2.1 = none) (hdep : ν.2.2.2.2 < μ.2.2.2.2) (hst : (st.map fun v => v.category).sum ≤ 8) (hwf : tk_wf 64 (ls ++ st) = true) (kk : tk_Ms ν [v1, v2, v3, v4, v5] S (fun _ S' => tk_G μ 0 0 sx (pc + 3) ls st (tkSH, S', tkRF) Q)) : tk_G μ 0 0 sx pc ls (v5 :: v4 :: v3 :: v2 :: v1 :: st) (tkSH, S, tkRF) Q :=
  g_callSv (a := 0) (b := 0) (a' := 0) (b' := 0) (as := [v1, v2, v3, v4, v5]) (h := (tkSH, S, tkRF)) hd hm.1 hm.2 hl hv hdep hst hwf (tk_Mt.mono kk (fun x h' ⟨S', e, k⟩ => by subst e; exact k))
end
section
abbrev mX0_init : tM := (yX0_init, cX0_init, 1, none, 1)
abbrev mX1_init : tM := (yX1_init, cX1_init, 1, none, 1)
abbrev mX1_weigh : tM := (yX1_weigh, cX1_weigh, 2, none, 2)
abbrev mX1_changesTo : tM := (yX1_changesTo, cX1_changesTo, 6, some .int, 1)
abbrev mX2_init : tM := (yX2_init, cX2_init, 1, none, 1)
abbrev mX2_has : tM := (yX2_has, cX2_has, 2, some .boolean, 1)
abbrev mX2_add : tM := (yX2_add, cX2_add, 4, some .int, 1)
abbrev mX2_becomeLike : tM := (yX2_becomeLike, cX2_becomeLike, 2, none, 1)
abbrev mX2_isAt : tM := (yX2_isAt, cX2_isAt, 3, some .boolean, 1)
abbrev mX2_at : tM := (yX2_at, cX2_at, 4, some .int, 2)
abbrev mX2_hasLockAt : tM := (yX2_hasLockAt, cX2_hasLockAt, 4, some .boolean, 2)
abbrev mX2_canPass : tM := (yX2_canPass, cX2_canPass, 4, some .boolean, 1)
abbrev mX3_init : tM := (yX3_init, cX3_init, 1, none, 1)
abbrev mX3_has : tM := (yX3_has, cX3_has, 2, some .boolean, 1)
abbrev mX3_add : tM := (yX3_add, cX3_add, 3, some .int, 1)
abbrev mX3_becomeLike : tM := (yX3_becomeLike, cX3_becomeLike, 2, none, 1)
abbrev mX3_ring : tM := (yX3_ring, cX3_ring, 5, some .int, 1)
abbrev mX3_stain : tM := (yX3_stain, cX3_stain, 5, none, 1)
abbrev mX3_halve : tM := (yX3_halve, cX3_halve, 2, none, 1)
abbrev mX3_stained : tM := (yX3_stained, cX3_stained, 3, some .int, 1)
abbrev mX3_showing : tM := (yX3_showing, cX3_showing, 4, some .int, 3)
abbrev mX3_showsOn : tM := (yX3_showsOn, cX3_showsOn, 3, some .int, 2)
abbrev mX3_shows : tM := (yX3_shows, cX3_shows, 4, some .int, 1)
abbrev mX4_init : tM := (yX4_init, cX4_init, 1, none, 1)
abbrev mX4_renew : tM := (yX4_renew, cX4_renew, 4, none, 1)
abbrev mX4_holds : tM := (yX4_holds, cX4_holds, 3, some .boolean, 1)
abbrev mX4_put : tM := (yX4_put, cX4_put, 3, none, 1)
abbrev mX5_init : tM := (yX5_init, cX5_init, 1, none, 1)
abbrev mX5_add : tM := (yX5_add, cX5_add, 2, none, 1)
abbrev mX5_empty : tM := (yX5_empty, cX5_empty, 1, none, 1)
abbrev mX5_ahead : tM := (yX5_ahead, cX5_ahead, 1, some .int, 1)
abbrev mX5_fault : tM := (yX5_fault, cX5_fault, 1, some .int, 2)
abbrev mX5_take : tM := (yX5_take, cX5_take, 2, some .boolean, 2)
abbrev mX5_placeAhead : tM := (yX5_placeAhead, cX5_placeAhead, 2, some .int, 2)
abbrev mX5_digit : tM := (yX5_digit, cX5_digit, 3, some .int, 2)
abbrev mX5_numberUpTo : tM := (yX5_numberUpTo, cX5_numberUpTo, 4, some .int, 2)
abbrev mX5_isDigit : tM := (yX5_isDigit, cX5_isDigit, 1, some .boolean, 1)
abbrev mX6_init : tM := (yX6_init, cX6_init, 1, none, 1)
abbrev mX6_measure : tM := (yX6_measure, cX6_measure, 6, none, 2)
abbrev mX6_spread : tM := (yX6_spread, cX6_spread, 4, none, 1)
abbrev mX6_locksFromHall : tM := (yX6_locksFromHall, cX6_locksFromHall, 7, some .int, 3)
abbrev mX6_doorNearer : tM := (yX6_doorNearer, cX6_doorNearer, 7, some .int, 2)
abbrev mX7_init : tM := (yX7_init, cX7_init, 2, none, 2)
abbrev mX7_door : tM := (yX7_door, cX7_door, 4, some .int, 2)
abbrev mX7_key : tM := (yX7_key, cX7_key, 3, some .int, 2)
abbrev mX7_told : tM := (yX7_told, cX7_told, 3, some .int, 2)
abbrev mX7_of : tM := (yX7_of, cX7_of, 3, some .int, 2)
abbrev mX7_type : tM := (yX7_type, cX7_type, 6, some .int, 2)
abbrev mX7_house : tM := (yX7_house, cX7_house, 2, some .int, 5)
abbrev mX7_week : tM := (yX7_week, cX7_week, 2, some .int, 7)
abbrev mX7_count : tM := (yX7_count, cX7_count, 2, some .int, 4)
abbrev mX7_visit : tM := (yX7_visit, cX7_visit, 6, some .int, 4)
abbrev mX7_wash : tM := (yX7_wash, cX7_wash, 3, some .int, 2)
abbrev mX7_change : tM := (yX7_change, cX7_change, 4, some .int, 2)
abbrev mX7_next : tM := (yX7_next, cX7_next, 1, some .int, 1)
abbrev mX7_shown : tM := (yX7_shown, cX7_shown, 3, some .int, 3)
abbrev mX7_seen : tM := (yX7_seen, cX7_seen, 5, some .int, 3)
abbrev mX7_reach : tM := (yX7_reach, cX7_reach, 4, some .int, 3)
abbrev mX7_fits : tM := (yX7_fits, cX7_fits, 9, some .int, 3)
abbrev mX7_been : tM := (yX7_been, cX7_been, 7, some .int, 2)
abbrev mX7_look : tM := (yX7_look, cX7_look, 8, some .int, 4)
abbrev mX7_image : tM := (yX7_image, cX7_image, 1, some .int, 2)
abbrev mX7_restore : tM := (yX7_restore, cX7_restore, 1, some .int, 2)
abbrev mX7_asked : tM := (yX7_asked, cX7_asked, 7, some .int, 20)
abbrev mX7_film : tM := (yX7_film, cX7_film, 6, some .int, 3)
abbrev mX7_sheet : tM := (yX7_sheet, cX7_sheet, 4, some .int, 2)
abbrev mX7_drop : tM := (yX7_drop, cX7_drop, 3, some .int, 2)
abbrev mX7_item : tM := (yX7_item, cX7_item, 6, some .int, 3)
abbrev mX7_copy : tM := (yX7_copy, cX7_copy, 8, some .int, 2)
abbrev mX7_isPlace : tM := (yX7_isPlace, cX7_isPlace, 1, some .boolean, 1)
abbrev mX7_mayHaveDoor : tM := (yX7_mayHaveDoor, cX7_mayHaveDoor, 2, some .boolean, 1)
abbrev mX7_isKind : tM := (yX7_isKind, cX7_isKind, 1, some .boolean, 1)
abbrev mX7_isSister : tM := (yX7_isSister, cX7_isSister, 1, some .boolean, 1)
abbrev mX7_isStay : tM := (yX7_isStay, cX7_isStay, 1, some .boolean, 1)
abbrev mX7_isDayAhead : tM := (yX7_isDayAhead, cX7_isDayAhead, 2, some .boolean, 1)
abbrev mX7_isSheet : tM := (yX7_isSheet, cX7_isSheet, 1, some .boolean, 1)
abbrev mX7_isLane : tM := (yX7_isLane, cX7_isLane, 1, some .boolean, 1)
abbrev mX7_byteOf : tM := (yX7_byteOf, cX7_byteOf, 3, some .int, 1)
abbrev mX7_refusalOf : tM := (yX7_refusalOf, cX7_refusalOf, 3, some .int, 2)
abbrev mX7_readHouse : tM := (yX7_readHouse, cX7_readHouse, 3, some .int, 4)
abbrev mX7_readDoor : tM := (yX7_readDoor, cX7_readDoor, 4, some .boolean, 3)
abbrev mX7_readWeek : tM := (yX7_readWeek, cX7_readWeek, 5, some .int, 6)
abbrev mX7_readAct : tM := (yX7_readAct, cX7_readAct, 1, some .boolean, 4)
abbrev mX7_readVisit : tM := (yX7_readVisit, cX7_readVisit, 1, some .boolean, 3)
abbrev mX7_doAct : tM := (yX7_doAct, cX7_doAct, 1, some .boolean, 5)
abbrev mX7_hersBy : tM := (yX7_hersBy, cX7_hersBy, 5, some .int, 2)
abbrev mX7_isRest : tM := (yX7_isRest, cX7_isRest, 6, some .boolean, 3)
abbrev mX7_takeAsked : tM := (yX7_takeAsked, cX7_takeAsked, 8, some .boolean, 4)
abbrev mX7_cleanFor : tM := (yX7_cleanFor, cX7_cleanFor, 4, some .int, 3)
abbrev mX7_tryRows (d : Nat) : tM := (yX7_tryRows, cX7_tryRows, 4, none, d)
abbrev mX8_init : tM := (yX8_init, cX8_init, 2, none, 1)
abbrev mX8_in : tM := (yX8_in, cX8_in, 6, some .boolean, 1)
abbrev mX8_has : tM := (yX8_has, cX8_has, 2, some .boolean, 1)
abbrev mX8_isPlace : tM := (yX8_isPlace, cX8_isPlace, 1, some .boolean, 2)
abbrev mX8_isKey : tM := (yX8_isKey, cX8_isKey, 2, some .boolean, 2)
abbrev mX8_canJoin : tM := (yX8_canJoin, cX8_canJoin, 3, some .boolean, 1)
abbrev mX8_door : tM := (yX8_door, cX8_door, 4, some .int, 3)
abbrev mX8_key : tM := (yX8_key, cX8_key, 3, some .int, 2)
abbrev mX8_told : tM := (yX8_told, cX8_told, 3, some .int, 3)
abbrev mX8_of : tM := (yX8_of, cX8_of, 3, some .int, 2)
abbrev mX8_shownOf : tM := (yX8_shownOf, cX8_shownOf, 4, some .int, 1)
abbrev mX8_shownBy : tM := (yX8_shownBy, cX8_shownBy, 3, some .int, 2)
abbrev mX8_count : tM := (yX8_count, cX8_count, 6, some .int, 3)
abbrev mX8_type : tM := (yX8_type, cX8_type, 5, some .int, 2)
abbrev mX8_nextByte : tM := (yX8_nextByte, cX8_nextByte, 1, some .int, 1)
abbrev mX8_takes : tM := (yX8_takes, cX8_takes, 3, some .boolean, 2)
abbrev mX8_readDigit : tM := (yX8_readDigit, cX8_readDigit, 3, some .int, 2)
abbrev mX8_readMinutes : tM := (yX8_readMinutes, cX8_readMinutes, 3, some .int, 2)
abbrev mX8_signOf : tM := (yX8_signOf, cX8_signOf, 2, some .int, 2)
abbrev mX8_readDoor : tM := (yX8_readDoor, cX8_readDoor, 2, some .boolean, 3)
abbrev mX8_readHouse : tM := (yX8_readHouse, cX8_readHouse, 3, some .boolean, 4)
abbrev mX8_end : tM := (yX8_end, cX8_end, 2, some .int, 2)
abbrev mX8_house : tM := (yX8_house, cX8_house, 3, some .int, 5)
abbrev mX8_readVisit : tM := (yX8_readVisit, cX8_readVisit, 2, some .boolean, 3)
abbrev mX8_readWash : tM := (yX8_readWash, cX8_readWash, 2, some .boolean, 3)
abbrev mX8_readChange : tM := (yX8_readChange, cX8_readChange, 2, some .boolean, 3)
abbrev mX8_readAct : tM := (yX8_readAct, cX8_readAct, 3, some .boolean, 4)
abbrev mX8_readWeek : tM := (yX8_readWeek, cX8_readWeek, 2, some .boolean, 5)
abbrev mX8_does : tM := (yX8_does, cX8_does, 5, some .boolean, 4)
abbrev mX8_week : tM := (yX8_week, cX8_week, 4, some .int, 6)
abbrev mX8_isSister : tM := (yX8_isSister, cX8_isSister, 1, some .boolean, 2)
abbrev mX8_ringOf : tM := (yX8_ringOf, cX8_ringOf, 5, some .int, 1)
abbrev mX8_doorOf : tM := (yX8_doorOf, cX8_doorOf, 2, some .int, 1)
abbrev mX8_findFars : tM := (yX8_findFars, cX8_findFars, 8, none, 2)
abbrev mX8_visit : tM := (yX8_visit, cX8_visit, 8, some .int, 3)
abbrev mX8_isNext : tM := (yX8_isNext, cX8_isNext, 5, some .boolean, 2)
abbrev mX8_stain : tM := (yX8_stain, cX8_stain, 3, none, 1)
abbrev mX8_wash : tM := (yX8_wash, cX8_wash, 3, some .int, 3)
abbrev mX8_change : tM := (yX8_change, cX8_change, 4, some .int, 3)
abbrev mX8_next : tM := (yX8_next, cX8_next, 1, some .int, 1)
abbrev mX8_shown : tM := (yX8_shown, cX8_shown, 3, some .int, 3)
abbrev mX8_seen : tM := (yX8_seen, cX8_seen, 4, some .int, 3)
abbrev mX8_reach : tM := (yX8_reach, cX8_reach, 4, some .int, 3)
abbrev mX8_fits : tM := (yX8_fits, cX8_fits, 10, some .int, 3)
abbrev mX8_been : tM := (yX8_been, cX8_been, 7, some .int, 2)
abbrev mX8_gains : tM := (yX8_gains, cX8_gains, 4, some .int, 2)
abbrev mX8_look : tM := (yX8_look, cX8_look, 11, some .int, 3)
abbrev mX8_carried : tM := (yX8_carried, cX8_carried, 6, some .int, 1)
abbrev mX8_image : tM := (yX8_image, cX8_image, 2, some .int, 2)
abbrev mX8_restore : tM := (yX8_restore, cX8_restore, 2, some .int, 2)
abbrev mX8_isSheet : tM := (yX8_isSheet, cX8_isSheet, 2, some .boolean, 2)
abbrev mX8_asLane : tM := (yX8_asLane, cX8_asLane, 2, some .int, 1)
abbrev mX8_sheet : tM := (yX8_sheet, cX8_sheet, 5, some .int, 3)
abbrev mX8_drop : tM := (yX8_drop, cX8_drop, 2, some .int, 2)
abbrev mX8_lacksRow : tM := (yX8_lacksRow, cX8_lacksRow, 5, some .int, 2)
abbrev mX8_item : tM := (yX8_item, cX8_item, 6, some .int, 3)
abbrev mX8_nextOrder : tM := (yX8_nextOrder, cX8_nextOrder, 7, some .boolean, 1)
abbrev mX8_areTold : tM := (yX8_areTold, cX8_areTold, 7, some .boolean, 3)
abbrev mX8_areClean : tM := (yX8_areClean, cX8_areClean, 5, some .boolean, 3)
abbrev mX8_rings : tM := (yX8_rings, cX8_rings, 6, some .int, 2)
abbrev mX8_asked : tM := (yX8_asked, cX8_asked, 12, some .int, 4)
abbrev mX8_film : tM := (yX8_film, cX8_film, 6, some .int, 3)
abbrev mX8_copy : tM := (yX8_copy, cX8_copy, 7, some .int, 2)
abbrev mL_law : tM := (yL_law, cL_law, 4, some .boolean, 40)
theorem im_X0_init : tk_mc mX0_init 0 ∧ Cond.instanceMethod mX0_init.1 ∈ tk_TS := ⟨⟨tk_in 141 (by decide +kernel) (by decide +kernel), tk_in 45 (by decide +kernel) (by decide +kernel), ⟨by decide +kernel, by decide +kernel, by decide +kernel⟩, by decide⟩, tk_in 140 (by decide +kernel) (by decide +kernel)⟩
theorem im_X1_init : tk_mc mX1_init 0 ∧ Cond.instanceMethod mX1_init.1 ∈ tk_TS := ⟨⟨tk_in 179 (by decide +kernel) (by decide +kernel), tk_in 47 (by decide +kernel) (by decide +kernel), ⟨by decide +kernel, by decide +kernel, by decide +kernel⟩, by decide⟩, tk_in 178 (by decide +kernel) (by decide +kernel)⟩
theorem vm_X1_weigh : tk_vm mX1_weigh 0 1 := ⟨⟨tk_in 574 (by decide +kernel) (by decide +kernel), tk_in 47 (by decide +kernel) (by decide +kernel), ⟨by decide +kernel, by decide +kernel, by decide +kernel⟩, by decide⟩, ⟨tk_in 572 (by decide +kernel) (by decide +kernel), tk_in 573 (by decide +kernel) (by decide +kernel)⟩, by decide, _, rfl, rfl⟩
theorem vm_X1_changesTo : tk_vm mX1_changesTo 0 1 := ⟨⟨tk_in 578 (by decide +kernel) (by decide +kernel), tk_in 47 (by decide +kernel) (by decide +kernel), ⟨by decide +kernel, by decide +kernel, by decide +kernel⟩, by decide⟩, ⟨tk_in 577 (by decide +kernel) (by decide +kernel), tk_in 12 (by decide +kernel) (by decide +kernel)⟩, by decide, _, rfl, rfl⟩
theorem im_X2_init : tk_mc mX2_init 0 ∧ Cond.instanceMethod mX2_init.1 ∈ tk_TS := ⟨⟨tk_in 64 (by decide +kernel) (by decide +kernel), tk_in 42 (by decide +kernel) (by decide +kernel), ⟨by decide +kernel, by decide +kernel, by decide +kernel⟩, by decide⟩, tk_in 63 (by decide +kernel) (by decide +kernel)⟩
theorem vm_X2_has : tk_vm mX2_has 1 2 := ⟨⟨tk_in 313 (by decide +kernel) (by decide +kernel), tk_in 42 (by decide +kernel) (by decide +kernel), ⟨by decide +kernel, by decide +kernel, by decide +kernel⟩, by decide⟩, ⟨tk_in 311 (by decide +kernel) (by decide +kernel), tk_in 312 (by decide +kernel) (by decide +kernel)⟩, by decide, _, rfl, rfl⟩
theorem vm_X2_add : tk_vm mX2_add 3 2 := ⟨⟨tk_in 286 (by decide +kernel) (by decide +kernel), tk_in 42 (by decide +kernel) (by decide +kernel), ⟨by decide +kernel, by decide +kernel, by decide +kernel⟩, by decide⟩, ⟨tk_in 284 (by decide +kernel) (by decide +kernel), tk_in 285 (by decide +kernel) (by decide +kernel)⟩, by decide, _, rfl, rfl⟩
theorem vm_X2_becomeLike : tk_vm mX2_becomeLike 1 2 := ⟨⟨tk_in 364 (by decide +kernel) (by decide +kernel), tk_in 42 (by decide +kernel) (by decide +kernel), ⟨by decide +kernel, by decide +kernel, by decide +kernel⟩, by decide⟩, ⟨tk_in 362 (by decide +kernel) (by decide +kernel), tk_in 363 (by decide +kernel) (by decide +kernel)⟩, by decide, _, rfl, rfl⟩
theorem vm_X2_isAt : tk_vm mX2_isAt 2 2 := ⟨⟨tk_in 436 (by decide +kernel) (by decide +kernel), tk_in 42 (by decide +kernel) (by decide +kernel), ⟨by decide +kernel, by decide +kernel, by decide +kernel⟩, by decide⟩, ⟨tk_in 434 (by decide +kernel) (by decide +kernel), tk_in 435 (by decide +kernel) (by decide +kernel)⟩, by decide, _, rfl, rfl⟩
theorem vm_X2_at : tk_vm mX2_at 1 2 := ⟨⟨tk_in 483 (by decide +kernel) (by decide +kernel), tk_in 42 (by decide +kernel) (by decide +kernel), ⟨by decide +kernel, by decide +kernel, by decide +kernel⟩, by decide⟩, ⟨tk_in 481 (by decide +kernel) (by decide +kernel), tk_in 482 (by decide +kernel) (by decide +kernel)⟩, by decide, _, rfl, rfl⟩
theorem vm_X2_hasLockAt : tk_vm mX2_hasLockAt 2 2 := ⟨⟨tk_in 513 (by decide +kernel) (by decide +kernel), tk_in 42 (by decide +kernel) (by decide +kernel), ⟨by decide +kernel, by decide +kernel, by decide +kernel⟩, by decide⟩, ⟨tk_in 511 (by decide +kernel) (by decide +kernel), tk_in 512 (by decide +kernel) (by decide +kernel)⟩, by decide, _, rfl, rfl⟩
theorem vm_X2_canPass : tk_vm mX2_canPass 2 2 := ⟨⟨tk_in 420 (by decide +kernel) (by decide +kernel), tk_in 42 (by decide +kernel) (by decide +kernel), ⟨by decide +kernel, by decide +kernel, by decide +kernel⟩, by decide⟩, ⟨tk_in 418 (by decide +kernel) (by decide +kernel), tk_in 419 (by decide +kernel) (by decide +kernel)⟩, by decide, _, rfl, rfl⟩
theorem im_X3_init : tk_mc mX3_init 0 ∧ Cond.instanceMethod mX3_init.1 ∈ tk_TS := ⟨⟨tk_in 91 (by decide +kernel) (by decide +kernel), tk_in 43 (by decide +kernel) (by decide +kernel), ⟨by decide +kernel, by decide +kernel, by decide +kernel⟩, by decide⟩, tk_in 90 (by decide +kernel) (by decide +kernel)⟩
theorem vm_X3_has : tk_vm mX3_has 1 3 := ⟨⟨tk_in 305 (by decide +kernel) (by decide +kernel), tk_in 43 (by decide +kernel) (by decide +kernel), ⟨by decide +kernel, by decide +kernel, by decide +kernel⟩, by decide⟩, ⟨tk_in 303 (by decide +kernel) (by decide +kernel), tk_in 304 (by decide +kernel) (by decide +kernel)⟩, by decide, _, rfl, rfl⟩
theorem vm_X3_add : tk_vm mX3_add 2 3 := ⟨⟨tk_in 297 (by decide +kernel) (by decide +kernel), tk_in 43 (by decide +kernel) (by decide +kernel), ⟨by decide +kernel, by decide +kernel, by decide +kernel⟩, by decide⟩, ⟨tk_in 295 (by decide +kernel) (by decide +kernel), tk_in 296 (by decide +kernel) (by decide +kernel)⟩, by decide, _, rfl, rfl⟩
theorem vm_X3_becomeLike : tk_vm mX3_becomeLike 1 3 := ⟨⟨tk_in 536 (by decide +kernel) (by decide +kernel), tk_in 43 (by decide +kernel) (by decide +kernel), ⟨by decide +kernel, by decide +kernel, by decide +kernel⟩, by decide⟩, ⟨tk_in 534 (by decide +kernel) (by decide +kernel), tk_in 535 (by decide +kernel) (by decide +kernel)⟩, by decide, _, rfl, rfl⟩
theorem vm_X3_ring : tk_vm mX3_ring 2 3 := ⟨⟨tk_in 412 (by decide +kernel) (by decide +kernel), tk_in 43 (by decide +kernel) (by decide +kernel), ⟨by decide +kernel, by decide +kernel, by decide +kernel⟩, by decide⟩, ⟨tk_in 410 (by decide +kernel) (by decide +kernel), tk_in 411 (by decide +kernel) (by decide +kernel)⟩, by decide, _, rfl, rfl⟩
theorem vm_X3_stain : tk_vm mX3_stain 3 3 := ⟨⟨tk_in 440 (by decide +kernel) (by decide +kernel), tk_in 43 (by decide +kernel) (by decide +kernel), ⟨by decide +kernel, by decide +kernel, by decide +kernel⟩, by decide⟩, ⟨tk_in 438 (by decide +kernel) (by decide +kernel), tk_in 439 (by decide +kernel) (by decide +kernel)⟩, by decide, _, rfl, rfl⟩
theorem vm_X3_halve : tk_vm mX3_halve 1 3 := ⟨⟨tk_in 448 (by decide +kernel) (by decide +kernel), tk_in 43 (by decide +kernel) (by decide +kernel), ⟨by decide +kernel, by decide +kernel, by decide +kernel⟩, by decide⟩, ⟨tk_in 446 (by decide +kernel) (by decide +kernel), tk_in 447 (by decide +kernel) (by decide +kernel)⟩, by decide, _, rfl, rfl⟩
theorem vm_X3_stained : tk_vm mX3_stained 0 3 := ⟨⟨tk_in 464 (by decide +kernel) (by decide +kernel), tk_in 43 (by decide +kernel) (by decide +kernel), ⟨by decide +kernel, by decide +kernel, by decide +kernel⟩, by decide⟩, ⟨tk_in 462 (by decide +kernel) (by decide +kernel), tk_in 463 (by decide +kernel) (by decide +kernel)⟩, by decide, _, rfl, rfl⟩
theorem vm_X3_showing : tk_vm mX3_showing 1 3 := ⟨⟨tk_in 468 (by decide +kernel) (by decide +kernel), tk_in 43 (by decide +kernel) (by decide +kernel), ⟨by decide +kernel, by decide +kernel, by decide +kernel⟩, by decide⟩, ⟨tk_in 466 (by decide +kernel) (by decide +kernel), tk_in 467 (by decide +kernel) (by decide +kernel)⟩, by decide, _, rfl, rfl⟩
theorem vm_X3_showsOn : tk_vm mX3_showsOn 2 3 := ⟨⟨tk_in 472 (by decide +kernel) (by decide +kernel), tk_in 43 (by decide +kernel) (by decide +kernel), ⟨by decide +kernel, by decide +kernel, by decide +kernel⟩, by decide⟩, ⟨tk_in 470 (by decide +kernel) (by decide +kernel), tk_in 471 (by decide +kernel) (by decide +kernel)⟩, by decide, _, rfl, rfl⟩
theorem sm_X3_shows : tk_sm mX3_shows 3 := ⟨⟨tk_in 475 (by decide +kernel) (by decide +kernel), tk_in 43 (by decide +kernel) (by decide +kernel), ⟨by decide +kernel, by decide +kernel, by decide +kernel⟩, by decide⟩, tk_in 474 (by decide +kernel) (by decide +kernel)⟩
theorem im_X4_init : tk_mc mX4_init 0 ∧ Cond.instanceMethod mX4_init.1 ∈ tk_TS := ⟨⟨tk_in 215 (by decide +kernel) (by decide +kernel), tk_in 48 (by decide +kernel) (by decide +kernel), ⟨by decide +kernel, by decide +kernel, by decide +kernel⟩, by decide⟩, tk_in 214 (by decide +kernel) (by decide +kernel)⟩
theorem vm_X4_renew : tk_vm mX4_renew 2 4 := ⟨⟨tk_in 595 (by decide +kernel) (by decide +kernel), tk_in 48 (by decide +kernel) (by decide +kernel), ⟨by decide +kernel, by decide +kernel, by decide +kernel⟩, by decide⟩, ⟨tk_in 593 (by decide +kernel) (by decide +kernel), tk_in 594 (by decide +kernel) (by decide +kernel)⟩, by decide, _, rfl, rfl⟩
theorem vm_X4_holds : tk_vm mX4_holds 2 4 := ⟨⟨tk_in 559 (by decide +kernel) (by decide +kernel), tk_in 48 (by decide +kernel) (by decide +kernel), ⟨by decide +kernel, by decide +kernel, by decide +kernel⟩, by decide⟩, ⟨tk_in 557 (by decide +kernel) (by decide +kernel), tk_in 558 (by decide +kernel) (by decide +kernel)⟩, by decide, _, rfl, rfl⟩
theorem vm_X4_put : tk_vm mX4_put 2 4 := ⟨⟨tk_in 587 (by decide +kernel) (by decide +kernel), tk_in 48 (by decide +kernel) (by decide +kernel), ⟨by decide +kernel, by decide +kernel, by decide +kernel⟩, by decide⟩, ⟨tk_in 585 (by decide +kernel) (by decide +kernel), tk_in 586 (by decide +kernel) (by decide +kernel)⟩, by decide, _, rfl, rfl⟩
theorem im_X5_init : tk_mc mX5_init 0 ∧ Cond.instanceMethod mX5_init.1 ∈ tk_TS := ⟨⟨tk_in 122 (by decide +kernel) (by decide +kernel), tk_in 44 (by decide +kernel) (by decide +kernel), ⟨by decide +kernel, by decide +kernel, by decide +kernel⟩, by decide⟩, tk_in 121 (by decide +kernel) (by decide +kernel)⟩
theorem vm_X5_add : tk_vm mX5_add 1 5 := ⟨⟨tk_in 324 (by decide +kernel) (by decide +kernel), tk_in 44 (by decide +kernel) (by decide +kernel), ⟨by decide +kernel, by decide +kernel, by decide +kernel⟩, by decide⟩, ⟨tk_in 322 (by decide +kernel) (by decide +kernel), tk_in 323 (by decide +kernel) (by decide +kernel)⟩, by decide, _, rfl, rfl⟩
theorem vm_X5_empty : tk_vm mX5_empty 0 5 := ⟨⟨tk_in 371 (by decide +kernel) (by decide +kernel), tk_in 44 (by decide +kernel) (by decide +kernel), ⟨by decide +kernel, by decide +kernel, by decide +kernel⟩, by decide⟩, ⟨tk_in 369 (by decide +kernel) (by decide +kernel), tk_in 370 (by decide +kernel) (by decide +kernel)⟩, by decide, _, rfl, rfl⟩
theorem vm_X5_ahead : tk_vm mX5_ahead 0 5 := ⟨⟨tk_in 344 (by decide +kernel) (by decide +kernel), tk_in 44 (by decide +kernel) (by decide +kernel), ⟨by decide +kernel, by decide +kernel, by decide +kernel⟩, by decide⟩, ⟨tk_in 342 (by decide +kernel) (by decide +kernel), tk_in 343 (by decide +kernel) (by decide +kernel)⟩, by decide, _, rfl, rfl⟩
theorem vm_X5_fault : tk_vm mX5_fault 0 5 := ⟨⟨tk_in 359 (by decide +kernel) (by decide +kernel), tk_in 44 (by decide +kernel) (by decide +kernel), ⟨by decide +kernel, by decide +kernel, by decide +kernel⟩, by decide⟩, ⟨tk_in 357 (by decide +kernel) (by decide +kernel), tk_in 358 (by decide +kernel) (by decide +kernel)⟩, by decide, _, rfl, rfl⟩
theorem vm_X5_take : tk_vm mX5_take 1 5 := ⟨⟨tk_in 351 (by decide +kernel) (by decide +kernel), tk_in 44 (by decide +kernel) (by decide +kernel), ⟨by decide +kernel, by decide +kernel, by decide +kernel⟩, by decide⟩, ⟨tk_in 349 (by decide +kernel) (by decide +kernel), tk_in 350 (by decide +kernel) (by decide +kernel)⟩, by decide, _, rfl, rfl⟩
theorem vm_X5_placeAhead : tk_vm mX5_placeAhead 0 5 := ⟨⟨tk_in 340 (by decide +kernel) (by decide +kernel), tk_in 44 (by decide +kernel) (by decide +kernel), ⟨by decide +kernel, by decide +kernel, by decide +kernel⟩, by decide⟩, ⟨tk_in 338 (by decide +kernel) (by decide +kernel), tk_in 339 (by decide +kernel) (by decide +kernel)⟩, by decide, _, rfl, rfl⟩
theorem vm_X5_digit : tk_vm mX5_digit 1 5 := ⟨⟨tk_in 355 (by decide +kernel) (by decide +kernel), tk_in 44 (by decide +kernel) (by decide +kernel), ⟨by decide +kernel, by decide +kernel, by decide +kernel⟩, by decide⟩, ⟨tk_in 353 (by decide +kernel) (by decide +kernel), tk_in 354 (by decide +kernel) (by decide +kernel)⟩, by decide, _, rfl, rfl⟩
theorem vm_X5_numberUpTo : tk_vm mX5_numberUpTo 1 5 := ⟨⟨tk_in 391 (by decide +kernel) (by decide +kernel), tk_in 44 (by decide +kernel) (by decide +kernel), ⟨by decide +kernel, by decide +kernel, by decide +kernel⟩, by decide⟩, ⟨tk_in 389 (by decide +kernel) (by decide +kernel), tk_in 390 (by decide +kernel) (by decide +kernel)⟩, by decide, _, rfl, rfl⟩
theorem sm_X5_isDigit : tk_sm mX5_isDigit 1 := ⟨⟨tk_in 347 (by decide +kernel) (by decide +kernel), tk_in 44 (by decide +kernel) (by decide +kernel), ⟨by decide +kernel, by decide +kernel, by decide +kernel⟩, by decide⟩, tk_in 346 (by decide +kernel) (by decide +kernel)⟩
theorem im_X6_init : tk_mc mX6_init 0 ∧ Cond.instanceMethod mX6_init.1 ∈ tk_TS := ⟨⟨tk_in 168 (by decide +kernel) (by decide +kernel), tk_in 46 (by decide +kernel) (by decide +kernel), ⟨by decide +kernel, by decide +kernel, by decide +kernel⟩, by decide⟩, tk_in 167 (by decide +kernel) (by decide +kernel)⟩
theorem vm_X6_measure : tk_vm mX6_measure 3 6 := ⟨⟨tk_in 416 (by decide +kernel) (by decide +kernel), tk_in 46 (by decide +kernel) (by decide +kernel), ⟨by decide +kernel, by decide +kernel, by decide +kernel⟩, by decide⟩, ⟨tk_in 414 (by decide +kernel) (by decide +kernel), tk_in 415 (by decide +kernel) (by decide +kernel)⟩, by decide, _, rfl, rfl⟩
theorem vm_X6_spread : tk_vm mX6_spread 3 6 := ⟨⟨tk_in 424 (by decide +kernel) (by decide +kernel), tk_in 46 (by decide +kernel) (by decide +kernel), ⟨by decide +kernel, by decide +kernel, by decide +kernel⟩, by decide⟩, ⟨tk_in 423 (by decide +kernel) (by decide +kernel), tk_in 6 (by decide +kernel) (by decide +kernel)⟩, by decide, _, rfl, rfl⟩
theorem vm_X6_locksFromHall : tk_vm mX6_locksFromHall 2 6 := ⟨⟨tk_in 428 (by decide +kernel) (by decide +kernel), tk_in 46 (by decide +kernel) (by decide +kernel), ⟨by decide +kernel, by decide +kernel, by decide +kernel⟩, by decide⟩, ⟨tk_in 426 (by decide +kernel) (by decide +kernel), tk_in 427 (by decide +kernel) (by decide +kernel)⟩, by decide, _, rfl, rfl⟩
theorem vm_X6_doorNearer : tk_vm mX6_doorNearer 4 6 := ⟨⟨tk_in 432 (by decide +kernel) (by decide +kernel), tk_in 46 (by decide +kernel) (by decide +kernel), ⟨by decide +kernel, by decide +kernel, by decide +kernel⟩, by decide⟩, ⟨tk_in 431 (by decide +kernel) (by decide +kernel), tk_in 7 (by decide +kernel) (by decide +kernel)⟩, by decide, _, rfl, rfl⟩
theorem im_X7_init : tk_mc mX7_init 0 ∧ Cond.instanceMethod mX7_init.1 ∈ tk_TS := ⟨⟨tk_in 56 (by decide +kernel) (by decide +kernel), tk_in 41 (by decide +kernel) (by decide +kernel), ⟨by decide +kernel, by decide +kernel, by decide +kernel⟩, by decide⟩, tk_in 55 (by decide +kernel) (by decide +kernel)⟩
theorem vm_X7_door : tk_vm mX7_door 3 7 := ⟨⟨tk_in 273 (by decide +kernel) (by decide +kernel), tk_in 41 (by decide +kernel) (by decide +kernel), ⟨by decide +kernel, by decide +kernel, by decide +kernel⟩, by decide⟩, ⟨tk_in 271 (by decide +kernel) (by decide +kernel), tk_in 272 (by decide +kernel) (by decide +kernel)⟩, by decide, _, rfl, rfl⟩
theorem vm_X7_key : tk_vm mX7_key 2 7 := ⟨⟨tk_in 290 (by decide +kernel) (by decide +kernel), tk_in 41 (by decide +kernel) (by decide +kernel), ⟨by decide +kernel, by decide +kernel, by decide +kernel⟩, by decide⟩, ⟨tk_in 288 (by decide +kernel) (by decide +kernel), tk_in 289 (by decide +kernel) (by decide +kernel)⟩, by decide, _, rfl, rfl⟩
theorem vm_X7_told : tk_vm mX7_told 2 7 := ⟨⟨tk_in 301 (by decide +kernel) (by decide +kernel), tk_in 41 (by decide +kernel) (by decide +kernel), ⟨by decide +kernel, by decide +kernel, by decide +kernel⟩, by decide⟩, ⟨tk_in 299 (by decide +kernel) (by decide +kernel), tk_in 300 (by decide +kernel) (by decide +kernel)⟩, by decide, _, rfl, rfl⟩
theorem vm_X7_of : tk_vm mX7_of 2 7 := ⟨⟨tk_in 309 (by decide +kernel) (by decide +kernel), tk_in 41 (by decide +kernel) (by decide +kernel), ⟨by decide +kernel, by decide +kernel, by decide +kernel⟩, by decide⟩, ⟨tk_in 307 (by decide +kernel) (by decide +kernel), tk_in 308 (by decide +kernel) (by decide +kernel)⟩, by decide, _, rfl, rfl⟩
theorem vm_X7_type : tk_vm mX7_type 2 7 := ⟨⟨tk_in 317 (by decide +kernel) (by decide +kernel), tk_in 41 (by decide +kernel) (by decide +kernel), ⟨by decide +kernel, by decide +kernel, by decide +kernel⟩, by decide⟩, ⟨tk_in 315 (by decide +kernel) (by decide +kernel), tk_in 316 (by decide +kernel) (by decide +kernel)⟩, by decide, _, rfl, rfl⟩
theorem vm_X7_house : tk_vm mX7_house 0 7 := ⟨⟨tk_in 328 (by decide +kernel) (by decide +kernel), tk_in 41 (by decide +kernel) (by decide +kernel), ⟨by decide +kernel, by decide +kernel, by decide +kernel⟩, by decide⟩, ⟨tk_in 326 (by decide +kernel) (by decide +kernel), tk_in 327 (by decide +kernel) (by decide +kernel)⟩, by decide, _, rfl, rfl⟩
theorem vm_X7_week : tk_vm mX7_week 0 7 := ⟨⟨tk_in 375 (by decide +kernel) (by decide +kernel), tk_in 41 (by decide +kernel) (by decide +kernel), ⟨by decide +kernel, by decide +kernel, by decide +kernel⟩, by decide⟩, ⟨tk_in 373 (by decide +kernel) (by decide +kernel), tk_in 374 (by decide +kernel) (by decide +kernel)⟩, by decide, _, rfl, rfl⟩
theorem vm_X7_count : tk_vm mX7_count 1 7 := ⟨⟨tk_in 460 (by decide +kernel) (by decide +kernel), tk_in 41 (by decide +kernel) (by decide +kernel), ⟨by decide +kernel, by decide +kernel, by decide +kernel⟩, by decide⟩, ⟨tk_in 458 (by decide +kernel) (by decide +kernel), tk_in 459 (by decide +kernel) (by decide +kernel)⟩, by decide, _, rfl, rfl⟩
theorem vm_X7_visit : tk_vm mX7_visit 3 7 := ⟨⟨tk_in 402 (by decide +kernel) (by decide +kernel), tk_in 41 (by decide +kernel) (by decide +kernel), ⟨by decide +kernel, by decide +kernel, by decide +kernel⟩, by decide⟩, ⟨tk_in 400 (by decide +kernel) (by decide +kernel), tk_in 401 (by decide +kernel) (by decide +kernel)⟩, by decide, _, rfl, rfl⟩
theorem vm_X7_wash : tk_vm mX7_wash 2 7 := ⟨⟨tk_in 444 (by decide +kernel) (by decide +kernel), tk_in 41 (by decide +kernel) (by decide +kernel), ⟨by decide +kernel, by decide +kernel, by decide +kernel⟩, by decide⟩, ⟨tk_in 442 (by decide +kernel) (by decide +kernel), tk_in 443 (by decide +kernel) (by decide +kernel)⟩, by decide, _, rfl, rfl⟩
theorem vm_X7_change : tk_vm mX7_change 2 7 := ⟨⟨tk_in 452 (by decide +kernel) (by decide +kernel), tk_in 41 (by decide +kernel) (by decide +kernel), ⟨by decide +kernel, by decide +kernel, by decide +kernel⟩, by decide⟩, ⟨tk_in 450 (by decide +kernel) (by decide +kernel), tk_in 451 (by decide +kernel) (by decide +kernel)⟩, by decide, _, rfl, rfl⟩
theorem vm_X7_next : tk_vm mX7_next 0 7 := ⟨⟨tk_in 456 (by decide +kernel) (by decide +kernel), tk_in 41 (by decide +kernel) (by decide +kernel), ⟨by decide +kernel, by decide +kernel, by decide +kernel⟩, by decide⟩, ⟨tk_in 454 (by decide +kernel) (by decide +kernel), tk_in 455 (by decide +kernel) (by decide +kernel)⟩, by decide, _, rfl, rfl⟩
theorem vm_X7_shown : tk_vm mX7_shown 2 7 := ⟨⟨tk_in 492 (by decide +kernel) (by decide +kernel), tk_in 41 (by decide +kernel) (by decide +kernel), ⟨by decide +kernel, by decide +kernel, by decide +kernel⟩, by decide⟩, ⟨tk_in 490 (by decide +kernel) (by decide +kernel), tk_in 491 (by decide +kernel) (by decide +kernel)⟩, by decide, _, rfl, rfl⟩
theorem vm_X7_seen : tk_vm mX7_seen 3 7 := ⟨⟨tk_in 501 (by decide +kernel) (by decide +kernel), tk_in 41 (by decide +kernel) (by decide +kernel), ⟨by decide +kernel, by decide +kernel, by decide +kernel⟩, by decide⟩, ⟨tk_in 499 (by decide +kernel) (by decide +kernel), tk_in 500 (by decide +kernel) (by decide +kernel)⟩, by decide, _, rfl, rfl⟩
theorem vm_X7_reach : tk_vm mX7_reach 1 7 := ⟨⟨tk_in 505 (by decide +kernel) (by decide +kernel), tk_in 41 (by decide +kernel) (by decide +kernel), ⟨by decide +kernel, by decide +kernel, by decide +kernel⟩, by decide⟩, ⟨tk_in 503 (by decide +kernel) (by decide +kernel), tk_in 504 (by decide +kernel) (by decide +kernel)⟩, by decide, _, rfl, rfl⟩
theorem vm_X7_fits : tk_vm mX7_fits 3 7 := ⟨⟨tk_in 509 (by decide +kernel) (by decide +kernel), tk_in 41 (by decide +kernel) (by decide +kernel), ⟨by decide +kernel, by decide +kernel, by decide +kernel⟩, by decide⟩, ⟨tk_in 507 (by decide +kernel) (by decide +kernel), tk_in 508 (by decide +kernel) (by decide +kernel)⟩, by decide, _, rfl, rfl⟩
theorem vm_X7_been : tk_vm mX7_been 3 7 := ⟨⟨tk_in 517 (by decide +kernel) (by decide +kernel), tk_in 41 (by decide +kernel) (by decide +kernel), ⟨by decide +kernel, by decide +kernel, by decide +kernel⟩, by decide⟩, ⟨tk_in 515 (by decide +kernel) (by decide +kernel), tk_in 516 (by decide +kernel) (by decide +kernel)⟩, by decide, _, rfl, rfl⟩
theorem vm_X7_look : tk_vm mX7_look 3 7 := ⟨⟨tk_in 522 (by decide +kernel) (by decide +kernel), tk_in 41 (by decide +kernel) (by decide +kernel), ⟨by decide +kernel, by decide +kernel, by decide +kernel⟩, by decide⟩, ⟨tk_in 520 (by decide +kernel) (by decide +kernel), tk_in 521 (by decide +kernel) (by decide +kernel)⟩, by decide, _, rfl, rfl⟩
theorem vm_X7_image : tk_vm mX7_image 0 7 := ⟨⟨tk_in 532 (by decide +kernel) (by decide +kernel), tk_in 41 (by decide +kernel) (by decide +kernel), ⟨by decide +kernel, by decide +kernel, by decide +kernel⟩, by decide⟩, ⟨tk_in 530 (by decide +kernel) (by decide +kernel), tk_in 531 (by decide +kernel) (by decide +kernel)⟩, by decide, _, rfl, rfl⟩
theorem vm_X7_restore : tk_vm mX7_restore 0 7 := ⟨⟨tk_in 541 (by decide +kernel) (by decide +kernel), tk_in 41 (by decide +kernel) (by decide +kernel), ⟨by decide +kernel, by decide +kernel, by decide +kernel⟩, by decide⟩, ⟨tk_in 539 (by decide +kernel) (by decide +kernel), tk_in 540 (by decide +kernel) (by decide +kernel)⟩, by decide, _, rfl, rfl⟩
theorem vm_X7_asked : tk_vm mX7_asked 5 7 := ⟨⟨tk_in 545 (by decide +kernel) (by decide +kernel), tk_in 41 (by decide +kernel) (by decide +kernel), ⟨by decide +kernel, by decide +kernel, by decide +kernel⟩, by decide⟩, ⟨tk_in 543 (by decide +kernel) (by decide +kernel), tk_in 544 (by decide +kernel) (by decide +kernel)⟩, by decide, _, rfl, rfl⟩
theorem vm_X7_film : tk_vm mX7_film 3 7 := ⟨⟨tk_in 583 (by decide +kernel) (by decide +kernel), tk_in 41 (by decide +kernel) (by decide +kernel), ⟨by decide +kernel, by decide +kernel, by decide +kernel⟩, by decide⟩, ⟨tk_in 581 (by decide +kernel) (by decide +kernel), tk_in 582 (by decide +kernel) (by decide +kernel)⟩, by decide, _, rfl, rfl⟩
theorem vm_X7_sheet : tk_vm mX7_sheet 3 7 := ⟨⟨tk_in 591 (by decide +kernel) (by decide +kernel), tk_in 41 (by decide +kernel) (by decide +kernel), ⟨by decide +kernel, by decide +kernel, by decide +kernel⟩, by decide⟩, ⟨tk_in 589 (by decide +kernel) (by decide +kernel), tk_in 590 (by decide +kernel) (by decide +kernel)⟩, by decide, _, rfl, rfl⟩
theorem vm_X7_drop : tk_vm mX7_drop 1 7 := ⟨⟨tk_in 599 (by decide +kernel) (by decide +kernel), tk_in 41 (by decide +kernel) (by decide +kernel), ⟨by decide +kernel, by decide +kernel, by decide +kernel⟩, by decide⟩, ⟨tk_in 597 (by decide +kernel) (by decide +kernel), tk_in 598 (by decide +kernel) (by decide +kernel)⟩, by decide, _, rfl, rfl⟩
theorem vm_X7_item : tk_vm mX7_item 4 7 := ⟨⟨tk_in 603 (by decide +kernel) (by decide +kernel), tk_in 41 (by decide +kernel) (by decide +kernel), ⟨by decide +kernel, by decide +kernel, by decide +kernel⟩, by decide⟩, ⟨tk_in 601 (by decide +kernel) (by decide +kernel), tk_in 602 (by decide +kernel) (by decide +kernel)⟩, by decide, _, rfl, rfl⟩
theorem vm_X7_copy : tk_vm mX7_copy 5 7 := ⟨⟨tk_in 607 (by decide +kernel) (by decide +kernel), tk_in 41 (by decide +kernel) (by decide +kernel), ⟨by decide +kernel, by decide +kernel, by decide +kernel⟩, by decide⟩, ⟨tk_in 605 (by decide +kernel) (by decide +kernel), tk_in 606 (by decide +kernel) (by decide +kernel)⟩, by decide, _, rfl, rfl⟩
theorem sm_X7_isPlace : tk_sm mX7_isPlace 1 := ⟨⟨tk_in 276 (by decide +kernel) (by decide +kernel), tk_in 41 (by decide +kernel) (by decide +kernel), ⟨by decide +kernel, by decide +kernel, by decide +kernel⟩, by decide⟩, tk_in 275 (by decide +kernel) (by decide +kernel)⟩
theorem sm_X7_mayHaveDoor : tk_sm mX7_mayHaveDoor 2 := ⟨⟨tk_in 279 (by decide +kernel) (by decide +kernel), tk_in 41 (by decide +kernel) (by decide +kernel), ⟨by decide +kernel, by decide +kernel, by decide +kernel⟩, by decide⟩, tk_in 278 (by decide +kernel) (by decide +kernel)⟩
theorem sm_X7_isKind : tk_sm mX7_isKind 1 := ⟨⟨tk_in 293 (by decide +kernel) (by decide +kernel), tk_in 41 (by decide +kernel) (by decide +kernel), ⟨by decide +kernel, by decide +kernel, by decide +kernel⟩, by decide⟩, tk_in 292 (by decide +kernel) (by decide +kernel)⟩
theorem sm_X7_isSister : tk_sm mX7_isSister 1 := ⟨⟨tk_in 405 (by decide +kernel) (by decide +kernel), tk_in 41 (by decide +kernel) (by decide +kernel), ⟨by decide +kernel, by decide +kernel, by decide +kernel⟩, by decide⟩, tk_in 404 (by decide +kernel) (by decide +kernel)⟩
theorem sm_X7_isStay : tk_sm mX7_isStay 1 := ⟨⟨tk_in 408 (by decide +kernel) (by decide +kernel), tk_in 41 (by decide +kernel) (by decide +kernel), ⟨by decide +kernel, by decide +kernel, by decide +kernel⟩, by decide⟩, tk_in 407 (by decide +kernel) (by decide +kernel)⟩
theorem vm_X7_isDayAhead : tk_vm mX7_isDayAhead 1 7 := ⟨⟨tk_in 496 (by decide +kernel) (by decide +kernel), tk_in 41 (by decide +kernel) (by decide +kernel), ⟨by decide +kernel, by decide +kernel, by decide +kernel⟩, by decide⟩, ⟨tk_in 495 (by decide +kernel) (by decide +kernel), tk_in 8 (by decide +kernel) (by decide +kernel)⟩, by decide, _, rfl, rfl⟩
theorem sm_X7_isSheet : tk_sm mX7_isSheet 1 := ⟨⟨tk_in 552 (by decide +kernel) (by decide +kernel), tk_in 41 (by decide +kernel) (by decide +kernel), ⟨by decide +kernel, by decide +kernel, by decide +kernel⟩, by decide⟩, tk_in 551 (by decide +kernel) (by decide +kernel)⟩
theorem sm_X7_isLane : tk_sm mX7_isLane 1 := ⟨⟨tk_in 555 (by decide +kernel) (by decide +kernel), tk_in 41 (by decide +kernel) (by decide +kernel), ⟨by decide +kernel, by decide +kernel, by decide +kernel⟩, by decide⟩, tk_in 554 (by decide +kernel) (by decide +kernel)⟩
theorem sm_X7_byteOf : tk_sm mX7_byteOf 2 := ⟨⟨tk_in 320 (by decide +kernel) (by decide +kernel), tk_in 41 (by decide +kernel) (by decide +kernel), ⟨by decide +kernel, by decide +kernel, by decide +kernel⟩, by decide⟩, tk_in 319 (by decide +kernel) (by decide +kernel)⟩
theorem vm_X7_refusalOf : tk_vm mX7_refusalOf 2 7 := ⟨⟨tk_in 549 (by decide +kernel) (by decide +kernel), tk_in 41 (by decide +kernel) (by decide +kernel), ⟨by decide +kernel, by decide +kernel, by decide +kernel⟩, by decide⟩, ⟨tk_in 548 (by decide +kernel) (by decide +kernel), tk_in 9 (by decide +kernel) (by decide +kernel)⟩, by decide, _, rfl, rfl⟩
theorem vm_X7_readHouse : tk_vm mX7_readHouse 0 7 := ⟨⟨tk_in 332 (by decide +kernel) (by decide +kernel), tk_in 41 (by decide +kernel) (by decide +kernel), ⟨by decide +kernel, by decide +kernel, by decide +kernel⟩, by decide⟩, ⟨tk_in 331 (by decide +kernel) (by decide +kernel), tk_in 0 (by decide +kernel) (by decide +kernel)⟩, by decide, _, rfl, rfl⟩
theorem vm_X7_readDoor : tk_vm mX7_readDoor 0 7 := ⟨⟨tk_in 336 (by decide +kernel) (by decide +kernel), tk_in 41 (by decide +kernel) (by decide +kernel), ⟨by decide +kernel, by decide +kernel, by decide +kernel⟩, by decide⟩, ⟨tk_in 335 (by decide +kernel) (by decide +kernel), tk_in 1 (by decide +kernel) (by decide +kernel)⟩, by decide, _, rfl, rfl⟩
theorem vm_X7_readWeek : tk_vm mX7_readWeek 1 7 := ⟨⟨tk_in 379 (by decide +kernel) (by decide +kernel), tk_in 41 (by decide +kernel) (by decide +kernel), ⟨by decide +kernel, by decide +kernel, by decide +kernel⟩, by decide⟩, ⟨tk_in 378 (by decide +kernel) (by decide +kernel), tk_in 2 (by decide +kernel) (by decide +kernel)⟩, by decide, _, rfl, rfl⟩
theorem vm_X7_readAct : tk_vm mX7_readAct 0 7 := ⟨⟨tk_in 383 (by decide +kernel) (by decide +kernel), tk_in 41 (by decide +kernel) (by decide +kernel), ⟨by decide +kernel, by decide +kernel, by decide +kernel⟩, by decide⟩, ⟨tk_in 382 (by decide +kernel) (by decide +kernel), tk_in 3 (by decide +kernel) (by decide +kernel)⟩, by decide, _, rfl, rfl⟩
theorem vm_X7_readVisit : tk_vm mX7_readVisit 0 7 := ⟨⟨tk_in 387 (by decide +kernel) (by decide +kernel), tk_in 41 (by decide +kernel) (by decide +kernel), ⟨by decide +kernel, by decide +kernel, by decide +kernel⟩, by decide⟩, ⟨tk_in 386 (by decide +kernel) (by decide +kernel), tk_in 4 (by decide +kernel) (by decide +kernel)⟩, by decide, _, rfl, rfl⟩
theorem vm_X7_doAct : tk_vm mX7_doAct 0 7 := ⟨⟨tk_in 398 (by decide +kernel) (by decide +kernel), tk_in 41 (by decide +kernel) (by decide +kernel), ⟨by decide +kernel, by decide +kernel, by decide +kernel⟩, by decide⟩, ⟨tk_in 397 (by decide +kernel) (by decide +kernel), tk_in 5 (by decide +kernel) (by decide +kernel)⟩, by decide, _, rfl, rfl⟩
theorem sm_X7_hersBy : tk_sm mX7_hersBy 4 := ⟨⟨tk_in 528 (by decide +kernel) (by decide +kernel), tk_in 41 (by decide +kernel) (by decide +kernel), ⟨by decide +kernel, by decide +kernel, by decide +kernel⟩, by decide⟩, tk_in 527 (by decide +kernel) (by decide +kernel)⟩
theorem sm_X7_isRest : tk_sm mX7_isRest 4 := ⟨⟨tk_in 525 (by decide +kernel) (by decide +kernel), tk_in 41 (by decide +kernel) (by decide +kernel), ⟨by decide +kernel, by decide +kernel, by decide +kernel⟩, by decide⟩, tk_in 524 (by decide +kernel) (by decide +kernel)⟩
theorem vm_X7_takeAsked : tk_vm mX7_takeAsked 3 7 := ⟨⟨tk_in 563 (by decide +kernel) (by decide +kernel), tk_in 41 (by decide +kernel) (by decide +kernel), ⟨by decide +kernel, by decide +kernel, by decide +kernel⟩, by decide⟩, ⟨tk_in 562 (by decide +kernel) (by decide +kernel), tk_in 10 (by decide +kernel) (by decide +kernel)⟩, by decide, _, rfl, rfl⟩
theorem vm_X7_cleanFor : tk_vm mX7_cleanFor 1 7 := ⟨⟨tk_in 567 (by decide +kernel) (by decide +kernel), tk_in 41 (by decide +kernel) (by decide +kernel), ⟨by decide +kernel, by decide +kernel, by decide +kernel⟩, by decide⟩, ⟨tk_in 566 (by decide +kernel) (by decide +kernel), tk_in 11 (by decide +kernel) (by decide +kernel)⟩, by decide, _, rfl, rfl⟩
theorem sm_X7_tryRows_0 : tk_sm (mX7_tryRows 0) 3 := ⟨⟨tk_in 570 (by decide +kernel) (by decide +kernel), tk_in 41 (by decide +kernel) (by decide +kernel), ⟨by decide +kernel, by decide +kernel, by decide +kernel⟩, by decide⟩, tk_in 569 (by decide +kernel) (by decide +kernel)⟩
theorem sm_X7_tryRows (d : Nat) : tk_sm (mX7_tryRows d) 3 := sm_X7_tryRows_0
theorem im_X8_init : tk_mc mX8_init 0 ∧ Cond.instanceMethod mX8_init.1 ∈ tk_TS := ⟨⟨tk_in 613 (by decide +kernel) (by decide +kernel), tk_in 49 (by decide +kernel) (by decide +kernel), ⟨by decide +kernel, by decide +kernel, by decide +kernel⟩, by decide⟩, tk_in 612 (by decide +kernel) (by decide +kernel)⟩
theorem sm_X8_in : tk_sm mX8_in 3 := ⟨⟨tk_in 701 (by decide +kernel) (by decide +kernel), tk_in 49 (by decide +kernel) (by decide +kernel), ⟨by decide +kernel, by decide +kernel, by decide +kernel⟩, by decide⟩, tk_in 700 (by decide +kernel) (by decide +kernel)⟩
theorem sm_X8_has : tk_sm mX8_has 2 := ⟨⟨tk_in 830 (by decide +kernel) (by decide +kernel), tk_in 49 (by decide +kernel) (by decide +kernel), ⟨by decide +kernel, by decide +kernel, by decide +kernel⟩, by decide⟩, tk_in 829 (by decide +kernel) (by decide +kernel)⟩
theorem sm_X8_isPlace : tk_sm mX8_isPlace 1 := ⟨⟨tk_in 697 (by decide +kernel) (by decide +kernel), tk_in 49 (by decide +kernel) (by decide +kernel), ⟨by decide +kernel, by decide +kernel, by decide +kernel⟩, by decide⟩, tk_in 696 (by decide +kernel) (by decide +kernel)⟩
theorem vm_X8_isKey : tk_vm mX8_isKey 1 8 := ⟨⟨tk_in 718 (by decide +kernel) (by decide +kernel), tk_in 49 (by decide +kernel) (by decide +kernel), ⟨by decide +kernel, by decide +kernel, by decide +kernel⟩, by decide⟩, ⟨tk_in 717 (by decide +kernel) (by decide +kernel), tk_in 13 (by decide +kernel) (by decide +kernel)⟩, by decide, _, rfl, rfl⟩
theorem sm_X8_canJoin : tk_sm mX8_canJoin 2 := ⟨⟨tk_in 704 (by decide +kernel) (by decide +kernel), tk_in 49 (by decide +kernel) (by decide +kernel), ⟨by decide +kernel, by decide +kernel, by decide +kernel⟩, by decide⟩, tk_in 703 (by decide +kernel) (by decide +kernel)⟩
theorem vm_X8_door : tk_vm mX8_door 3 8 := ⟨⟨tk_in 694 (by decide +kernel) (by decide +kernel), tk_in 49 (by decide +kernel) (by decide +kernel), ⟨by decide +kernel, by decide +kernel, by decide +kernel⟩, by decide⟩, ⟨tk_in 692 (by decide +kernel) (by decide +kernel), tk_in 693 (by decide +kernel) (by decide +kernel)⟩, by decide, _, rfl, rfl⟩
theorem vm_X8_key : tk_vm mX8_key 2 8 := ⟨⟨tk_in 709 (by decide +kernel) (by decide +kernel), tk_in 49 (by decide +kernel) (by decide +kernel), ⟨by decide +kernel, by decide +kernel, by decide +kernel⟩, by decide⟩, ⟨tk_in 707 (by decide +kernel) (by decide +kernel), tk_in 708 (by decide +kernel) (by decide +kernel)⟩, by decide, _, rfl, rfl⟩
theorem vm_X8_told : tk_vm mX8_told 2 8 := ⟨⟨tk_in 714 (by decide +kernel) (by decide +kernel), tk_in 49 (by decide +kernel) (by decide +kernel), ⟨by decide +kernel, by decide +kernel, by decide +kernel⟩, by decide⟩, ⟨tk_in 712 (by decide +kernel) (by decide +kernel), tk_in 713 (by decide +kernel) (by decide +kernel)⟩, by decide, _, rfl, rfl⟩
theorem vm_X8_of : tk_vm mX8_of 2 8 := ⟨⟨tk_in 722 (by decide +kernel) (by decide +kernel), tk_in 49 (by decide +kernel) (by decide +kernel), ⟨by decide +kernel, by decide +kernel, by decide +kernel⟩, by decide⟩, ⟨tk_in 720 (by decide +kernel) (by decide +kernel), tk_in 721 (by decide +kernel) (by decide +kernel)⟩, by decide, _, rfl, rfl⟩
theorem sm_X8_shownOf : tk_sm mX8_shownOf 3 := ⟨⟨tk_in 734 (by decide +kernel) (by decide +kernel), tk_in 49 (by decide +kernel) (by decide +kernel), ⟨by decide +kernel, by decide +kernel, by decide +kernel⟩, by decide⟩, tk_in 733 (by decide +kernel) (by decide +kernel)⟩
theorem vm_X8_shownBy : tk_vm mX8_shownBy 2 8 := ⟨⟨tk_in 731 (by decide +kernel) (by decide +kernel), tk_in 49 (by decide +kernel) (by decide +kernel), ⟨by decide +kernel, by decide +kernel, by decide +kernel⟩, by decide⟩, ⟨tk_in 730 (by decide +kernel) (by decide +kernel), tk_in 14 (by decide +kernel) (by decide +kernel)⟩, by decide, _, rfl, rfl⟩
theorem vm_X8_count : tk_vm mX8_count 1 8 := ⟨⟨tk_in 727 (by decide +kernel) (by decide +kernel), tk_in 49 (by decide +kernel) (by decide +kernel), ⟨by decide +kernel, by decide +kernel, by decide +kernel⟩, by decide⟩, ⟨tk_in 725 (by decide +kernel) (by decide +kernel), tk_in 726 (by decide +kernel) (by decide +kernel)⟩, by decide, _, rfl, rfl⟩
theorem vm_X8_type : tk_vm mX8_type 2 8 := ⟨⟨tk_in 738 (by decide +kernel) (by decide +kernel), tk_in 49 (by decide +kernel) (by decide +kernel), ⟨by decide +kernel, by decide +kernel, by decide +kernel⟩, by decide⟩, ⟨tk_in 736 (by decide +kernel) (by decide +kernel), tk_in 737 (by decide +kernel) (by decide +kernel)⟩, by decide, _, rfl, rfl⟩
theorem vm_X8_nextByte : tk_vm mX8_nextByte 0 8 := ⟨⟨tk_in 757 (by decide +kernel) (by decide +kernel), tk_in 49 (by decide +kernel) (by decide +kernel), ⟨by decide +kernel, by decide +kernel, by decide +kernel⟩, by decide⟩, ⟨tk_in 756 (by decide +kernel) (by decide +kernel), tk_in 17 (by decide +kernel) (by decide +kernel)⟩, by decide, _, rfl, rfl⟩
theorem vm_X8_takes : tk_vm mX8_takes 1 8 := ⟨⟨tk_in 767 (by decide +kernel) (by decide +kernel), tk_in 49 (by decide +kernel) (by decide +kernel), ⟨by decide +kernel, by decide +kernel, by decide +kernel⟩, by decide⟩, ⟨tk_in 766 (by decide +kernel) (by decide +kernel), tk_in 19 (by decide +kernel) (by decide +kernel)⟩, by decide, _, rfl, rfl⟩
theorem vm_X8_readDigit : tk_vm mX8_readDigit 1 8 := ⟨⟨tk_in 771 (by decide +kernel) (by decide +kernel), tk_in 49 (by decide +kernel) (by decide +kernel), ⟨by decide +kernel, by decide +kernel, by decide +kernel⟩, by decide⟩, ⟨tk_in 770 (by decide +kernel) (by decide +kernel), tk_in 20 (by decide +kernel) (by decide +kernel)⟩, by decide, _, rfl, rfl⟩
theorem vm_X8_readMinutes : tk_vm mX8_readMinutes 0 8 := ⟨⟨tk_in 795 (by decide +kernel) (by decide +kernel), tk_in 49 (by decide +kernel) (by decide +kernel), ⟨by decide +kernel, by decide +kernel, by decide +kernel⟩, by decide⟩, ⟨tk_in 794 (by decide +kernel) (by decide +kernel), tk_in 25 (by decide +kernel) (by decide +kernel)⟩, by decide, _, rfl, rfl⟩
theorem vm_X8_signOf : tk_vm mX8_signOf 1 8 := ⟨⟨tk_in 761 (by decide +kernel) (by decide +kernel), tk_in 49 (by decide +kernel) (by decide +kernel), ⟨by decide +kernel, by decide +kernel, by decide +kernel⟩, by decide⟩, ⟨tk_in 760 (by decide +kernel) (by decide +kernel), tk_in 18 (by decide +kernel) (by decide +kernel)⟩, by decide, _, rfl, rfl⟩
theorem vm_X8_readDoor : tk_vm mX8_readDoor 1 8 := ⟨⟨tk_in 753 (by decide +kernel) (by decide +kernel), tk_in 49 (by decide +kernel) (by decide +kernel), ⟨by decide +kernel, by decide +kernel, by decide +kernel⟩, by decide⟩, ⟨tk_in 752 (by decide +kernel) (by decide +kernel), tk_in 16 (by decide +kernel) (by decide +kernel)⟩, by decide, _, rfl, rfl⟩
theorem vm_X8_readHouse : tk_vm mX8_readHouse 0 8 := ⟨⟨tk_in 749 (by decide +kernel) (by decide +kernel), tk_in 49 (by decide +kernel) (by decide +kernel), ⟨by decide +kernel, by decide +kernel, by decide +kernel⟩, by decide⟩, ⟨tk_in 748 (by decide +kernel) (by decide +kernel), tk_in 15 (by decide +kernel) (by decide +kernel)⟩, by decide, _, rfl, rfl⟩
theorem vm_X8_end : tk_vm mX8_end 1 8 := ⟨⟨tk_in 775 (by decide +kernel) (by decide +kernel), tk_in 49 (by decide +kernel) (by decide +kernel), ⟨by decide +kernel, by decide +kernel, by decide +kernel⟩, by decide⟩, ⟨tk_in 774 (by decide +kernel) (by decide +kernel), tk_in 21 (by decide +kernel) (by decide +kernel)⟩, by decide, _, rfl, rfl⟩
theorem vm_X8_house : tk_vm mX8_house 0 8 := ⟨⟨tk_in 745 (by decide +kernel) (by decide +kernel), tk_in 49 (by decide +kernel) (by decide +kernel), ⟨by decide +kernel, by decide +kernel, by decide +kernel⟩, by decide⟩, ⟨tk_in 743 (by decide +kernel) (by decide +kernel), tk_in 744 (by decide +kernel) (by decide +kernel)⟩, by decide, _, rfl, rfl⟩
theorem vm_X8_readVisit : tk_vm mX8_readVisit 1 8 := ⟨⟨tk_in 791 (by decide +kernel) (by decide +kernel), tk_in 49 (by decide +kernel) (by decide +kernel), ⟨by decide +kernel, by decide +kernel, by decide +kernel⟩, by decide⟩, ⟨tk_in 790 (by decide +kernel) (by decide +kernel), tk_in 24 (by decide +kernel) (by decide +kernel)⟩, by decide, _, rfl, rfl⟩
theorem vm_X8_readWash : tk_vm mX8_readWash 1 8 := ⟨⟨tk_in 799 (by decide +kernel) (by decide +kernel), tk_in 49 (by decide +kernel) (by decide +kernel), ⟨by decide +kernel, by decide +kernel, by decide +kernel⟩, by decide⟩, ⟨tk_in 798 (by decide +kernel) (by decide +kernel), tk_in 26 (by decide +kernel) (by decide +kernel)⟩, by decide, _, rfl, rfl⟩
theorem vm_X8_readChange : tk_vm mX8_readChange 1 8 := ⟨⟨tk_in 803 (by decide +kernel) (by decide +kernel), tk_in 49 (by decide +kernel) (by decide +kernel), ⟨by decide +kernel, by decide +kernel, by decide +kernel⟩, by decide⟩, ⟨tk_in 802 (by decide +kernel) (by decide +kernel), tk_in 27 (by decide +kernel) (by decide +kernel)⟩, by decide, _, rfl, rfl⟩
theorem vm_X8_readAct : tk_vm mX8_readAct 1 8 := ⟨⟨tk_in 787 (by decide +kernel) (by decide +kernel), tk_in 49 (by decide +kernel) (by decide +kernel), ⟨by decide +kernel, by decide +kernel, by decide +kernel⟩, by decide⟩, ⟨tk_in 786 (by decide +kernel) (by decide +kernel), tk_in 23 (by decide +kernel) (by decide +kernel)⟩, by decide, _, rfl, rfl⟩
theorem vm_X8_readWeek : tk_vm mX8_readWeek 0 8 := ⟨⟨tk_in 783 (by decide +kernel) (by decide +kernel), tk_in 49 (by decide +kernel) (by decide +kernel), ⟨by decide +kernel, by decide +kernel, by decide +kernel⟩, by decide⟩, ⟨tk_in 782 (by decide +kernel) (by decide +kernel), tk_in 22 (by decide +kernel) (by decide +kernel)⟩, by decide, _, rfl, rfl⟩
theorem vm_X8_does : tk_vm mX8_does 1 8 := ⟨⟨tk_in 807 (by decide +kernel) (by decide +kernel), tk_in 49 (by decide +kernel) (by decide +kernel), ⟨by decide +kernel, by decide +kernel, by decide +kernel⟩, by decide⟩, ⟨tk_in 806 (by decide +kernel) (by decide +kernel), tk_in 28 (by decide +kernel) (by decide +kernel)⟩, by decide, _, rfl, rfl⟩
theorem vm_X8_week : tk_vm mX8_week 0 8 := ⟨⟨tk_in 779 (by decide +kernel) (by decide +kernel), tk_in 49 (by decide +kernel) (by decide +kernel), ⟨by decide +kernel, by decide +kernel, by decide +kernel⟩, by decide⟩, ⟨tk_in 777 (by decide +kernel) (by decide +kernel), tk_in 778 (by decide +kernel) (by decide +kernel)⟩, by decide, _, rfl, rfl⟩
theorem sm_X8_isSister : tk_sm mX8_isSister 1 := ⟨⟨tk_in 814 (by decide +kernel) (by decide +kernel), tk_in 49 (by decide +kernel) (by decide +kernel), ⟨by decide +kernel, by decide +kernel, by decide +kernel⟩, by decide⟩, tk_in 813 (by decide +kernel) (by decide +kernel)⟩
theorem vm_X8_ringOf : tk_vm mX8_ringOf 2 8 := ⟨⟨tk_in 819 (by decide +kernel) (by decide +kernel), tk_in 49 (by decide +kernel) (by decide +kernel), ⟨by decide +kernel, by decide +kernel, by decide +kernel⟩, by decide⟩, ⟨tk_in 818 (by decide +kernel) (by decide +kernel), tk_in 29 (by decide +kernel) (by decide +kernel)⟩, by decide, _, rfl, rfl⟩
theorem vm_X8_doorOf : tk_vm mX8_doorOf 1 8 := ⟨⟨tk_in 827 (by decide +kernel) (by decide +kernel), tk_in 49 (by decide +kernel) (by decide +kernel), ⟨by decide +kernel, by decide +kernel, by decide +kernel⟩, by decide⟩, ⟨tk_in 826 (by decide +kernel) (by decide +kernel), tk_in 31 (by decide +kernel) (by decide +kernel)⟩, by decide, _, rfl, rfl⟩
theorem vm_X8_findFars : tk_vm mX8_findFars 2 8 := ⟨⟨tk_in 823 (by decide +kernel) (by decide +kernel), tk_in 49 (by decide +kernel) (by decide +kernel), ⟨by decide +kernel, by decide +kernel, by decide +kernel⟩, by decide⟩, ⟨tk_in 822 (by decide +kernel) (by decide +kernel), tk_in 30 (by decide +kernel) (by decide +kernel)⟩, by decide, _, rfl, rfl⟩
theorem vm_X8_visit : tk_vm mX8_visit 3 8 := ⟨⟨tk_in 811 (by decide +kernel) (by decide +kernel), tk_in 49 (by decide +kernel) (by decide +kernel), ⟨by decide +kernel, by decide +kernel, by decide +kernel⟩, by decide⟩, ⟨tk_in 809 (by decide +kernel) (by decide +kernel), tk_in 810 (by decide +kernel) (by decide +kernel)⟩, by decide, _, rfl, rfl⟩
theorem vm_X8_isNext : tk_vm mX8_isNext 3 8 := ⟨⟨tk_in 834 (by decide +kernel) (by decide +kernel), tk_in 49 (by decide +kernel) (by decide +kernel), ⟨by decide +kernel, by decide +kernel, by decide +kernel⟩, by decide⟩, ⟨tk_in 833 (by decide +kernel) (by decide +kernel), tk_in 32 (by decide +kernel) (by decide +kernel)⟩, by decide, _, rfl, rfl⟩
theorem vm_X8_stain : tk_vm mX8_stain 2 8 := ⟨⟨tk_in 838 (by decide +kernel) (by decide +kernel), tk_in 49 (by decide +kernel) (by decide +kernel), ⟨by decide +kernel, by decide +kernel, by decide +kernel⟩, by decide⟩, ⟨tk_in 837 (by decide +kernel) (by decide +kernel), tk_in 33 (by decide +kernel) (by decide +kernel)⟩, by decide, _, rfl, rfl⟩
theorem vm_X8_wash : tk_vm mX8_wash 2 8 := ⟨⟨tk_in 842 (by decide +kernel) (by decide +kernel), tk_in 49 (by decide +kernel) (by decide +kernel), ⟨by decide +kernel, by decide +kernel, by decide +kernel⟩, by decide⟩, ⟨tk_in 840 (by decide +kernel) (by decide +kernel), tk_in 841 (by decide +kernel) (by decide +kernel)⟩, by decide, _, rfl, rfl⟩
theorem vm_X8_change : tk_vm mX8_change 2 8 := ⟨⟨tk_in 846 (by decide +kernel) (by decide +kernel), tk_in 49 (by decide +kernel) (by decide +kernel), ⟨by decide +kernel, by decide +kernel, by decide +kernel⟩, by decide⟩, ⟨tk_in 844 (by decide +kernel) (by decide +kernel), tk_in 845 (by decide +kernel) (by decide +kernel)⟩, by decide, _, rfl, rfl⟩
theorem vm_X8_next : tk_vm mX8_next 0 8 := ⟨⟨tk_in 851 (by decide +kernel) (by decide +kernel), tk_in 49 (by decide +kernel) (by decide +kernel), ⟨by decide +kernel, by decide +kernel, by decide +kernel⟩, by decide⟩, ⟨tk_in 849 (by decide +kernel) (by decide +kernel), tk_in 850 (by decide +kernel) (by decide +kernel)⟩, by decide, _, rfl, rfl⟩
theorem vm_X8_shown : tk_vm mX8_shown 2 8 := ⟨⟨tk_in 859 (by decide +kernel) (by decide +kernel), tk_in 49 (by decide +kernel) (by decide +kernel), ⟨by decide +kernel, by decide +kernel, by decide +kernel⟩, by decide⟩, ⟨tk_in 857 (by decide +kernel) (by decide +kernel), tk_in 858 (by decide +kernel) (by decide +kernel)⟩, by decide, _, rfl, rfl⟩
theorem vm_X8_seen : tk_vm mX8_seen 3 8 := ⟨⟨tk_in 864 (by decide +kernel) (by decide +kernel), tk_in 49 (by decide +kernel) (by decide +kernel), ⟨by decide +kernel, by decide +kernel, by decide +kernel⟩, by decide⟩, ⟨tk_in 862 (by decide +kernel) (by decide +kernel), tk_in 863 (by decide +kernel) (by decide +kernel)⟩, by decide, _, rfl, rfl⟩
theorem vm_X8_reach : tk_vm mX8_reach 1 8 := ⟨⟨tk_in 868 (by decide +kernel) (by decide +kernel), tk_in 49 (by decide +kernel) (by decide +kernel), ⟨by decide +kernel, by decide +kernel, by decide +kernel⟩, by decide⟩, ⟨tk_in 866 (by decide +kernel) (by decide +kernel), tk_in 867 (by decide +kernel) (by decide +kernel)⟩, by decide, _, rfl, rfl⟩
theorem vm_X8_fits : tk_vm mX8_fits 3 8 := ⟨⟨tk_in 872 (by decide +kernel) (by decide +kernel), tk_in 49 (by decide +kernel) (by decide +kernel), ⟨by decide +kernel, by decide +kernel, by decide +kernel⟩, by decide⟩, ⟨tk_in 870 (by decide +kernel) (by decide +kernel), tk_in 871 (by decide +kernel) (by decide +kernel)⟩, by decide, _, rfl, rfl⟩
theorem vm_X8_been : tk_vm mX8_been 3 8 := ⟨⟨tk_in 878 (by decide +kernel) (by decide +kernel), tk_in 49 (by decide +kernel) (by decide +kernel), ⟨by decide +kernel, by decide +kernel, by decide +kernel⟩, by decide⟩, ⟨tk_in 876 (by decide +kernel) (by decide +kernel), tk_in 877 (by decide +kernel) (by decide +kernel)⟩, by decide, _, rfl, rfl⟩
theorem sm_X8_gains : tk_sm mX8_gains 4 := ⟨⟨tk_in 886 (by decide +kernel) (by decide +kernel), tk_in 49 (by decide +kernel) (by decide +kernel), ⟨by decide +kernel, by decide +kernel, by decide +kernel⟩, by decide⟩, tk_in 885 (by decide +kernel) (by decide +kernel)⟩
theorem vm_X8_look : tk_vm mX8_look 3 8 := ⟨⟨tk_in 883 (by decide +kernel) (by decide +kernel), tk_in 49 (by decide +kernel) (by decide +kernel), ⟨by decide +kernel, by decide +kernel, by decide +kernel⟩, by decide⟩, ⟨tk_in 881 (by decide +kernel) (by decide +kernel), tk_in 882 (by decide +kernel) (by decide +kernel)⟩, by decide, _, rfl, rfl⟩
theorem vm_X8_carried : tk_vm mX8_carried 3 8 := ⟨⟨tk_in 894 (by decide +kernel) (by decide +kernel), tk_in 49 (by decide +kernel) (by decide +kernel), ⟨by decide +kernel, by decide +kernel, by decide +kernel⟩, by decide⟩, ⟨tk_in 893 (by decide +kernel) (by decide +kernel), tk_in 34 (by decide +kernel) (by decide +kernel)⟩, by decide, _, rfl, rfl⟩
theorem vm_X8_image : tk_vm mX8_image 0 8 := ⟨⟨tk_in 890 (by decide +kernel) (by decide +kernel), tk_in 49 (by decide +kernel) (by decide +kernel), ⟨by decide +kernel, by decide +kernel, by decide +kernel⟩, by decide⟩, ⟨tk_in 888 (by decide +kernel) (by decide +kernel), tk_in 889 (by decide +kernel) (by decide +kernel)⟩, by decide, _, rfl, rfl⟩
theorem vm_X8_restore : tk_vm mX8_restore 0 8 := ⟨⟨tk_in 898 (by decide +kernel) (by decide +kernel), tk_in 49 (by decide +kernel) (by decide +kernel), ⟨by decide +kernel, by decide +kernel, by decide +kernel⟩, by decide⟩, ⟨tk_in 896 (by decide +kernel) (by decide +kernel), tk_in 897 (by decide +kernel) (by decide +kernel)⟩, by decide, _, rfl, rfl⟩
theorem sm_X8_isSheet : tk_sm mX8_isSheet 2 := ⟨⟨tk_in 905 (by decide +kernel) (by decide +kernel), tk_in 49 (by decide +kernel) (by decide +kernel), ⟨by decide +kernel, by decide +kernel, by decide +kernel⟩, by decide⟩, tk_in 904 (by decide +kernel) (by decide +kernel)⟩
theorem sm_X8_asLane : tk_sm mX8_asLane 2 := ⟨⟨tk_in 920 (by decide +kernel) (by decide +kernel), tk_in 49 (by decide +kernel) (by decide +kernel), ⟨by decide +kernel, by decide +kernel, by decide +kernel⟩, by decide⟩, tk_in 919 (by decide +kernel) (by decide +kernel)⟩
theorem vm_X8_sheet : tk_vm mX8_sheet 3 8 := ⟨⟨tk_in 902 (by decide +kernel) (by decide +kernel), tk_in 49 (by decide +kernel) (by decide +kernel), ⟨by decide +kernel, by decide +kernel, by decide +kernel⟩, by decide⟩, ⟨tk_in 900 (by decide +kernel) (by decide +kernel), tk_in 901 (by decide +kernel) (by decide +kernel)⟩, by decide, _, rfl, rfl⟩
theorem vm_X8_drop : tk_vm mX8_drop 1 8 := ⟨⟨tk_in 909 (by decide +kernel) (by decide +kernel), tk_in 49 (by decide +kernel) (by decide +kernel), ⟨by decide +kernel, by decide +kernel, by decide +kernel⟩, by decide⟩, ⟨tk_in 907 (by decide +kernel) (by decide +kernel), tk_in 908 (by decide +kernel) (by decide +kernel)⟩, by decide, _, rfl, rfl⟩
theorem vm_X8_lacksRow : tk_vm mX8_lacksRow 4 8 := ⟨⟨tk_in 917 (by decide +kernel) (by decide +kernel), tk_in 49 (by decide +kernel) (by decide +kernel), ⟨by decide +kernel, by decide +kernel, by decide +kernel⟩, by decide⟩, ⟨tk_in 916 (by decide +kernel) (by decide +kernel), tk_in 35 (by decide +kernel) (by decide +kernel)⟩, by decide, _, rfl, rfl⟩
theorem vm_X8_item : tk_vm mX8_item 4 8 := ⟨⟨tk_in 913 (by decide +kernel) (by decide +kernel), tk_in 49 (by decide +kernel) (by decide +kernel), ⟨by decide +kernel, by decide +kernel, by decide +kernel⟩, by decide⟩, ⟨tk_in 911 (by decide +kernel) (by decide +kernel), tk_in 912 (by decide +kernel) (by decide +kernel)⟩, by decide, _, rfl, rfl⟩
theorem vm_X8_nextOrder : tk_vm mX8_nextOrder 1 8 := ⟨⟨tk_in 941 (by decide +kernel) (by decide +kernel), tk_in 49 (by decide +kernel) (by decide +kernel), ⟨by decide +kernel, by decide +kernel, by decide +kernel⟩, by decide⟩, ⟨tk_in 940 (by decide +kernel) (by decide +kernel), tk_in 39 (by decide +kernel) (by decide +kernel)⟩, by decide, _, rfl, rfl⟩
theorem vm_X8_areTold : tk_vm mX8_areTold 2 8 := ⟨⟨tk_in 929 (by decide +kernel) (by decide +kernel), tk_in 49 (by decide +kernel) (by decide +kernel), ⟨by decide +kernel, by decide +kernel, by decide +kernel⟩, by decide⟩, ⟨tk_in 928 (by decide +kernel) (by decide +kernel), tk_in 36 (by decide +kernel) (by decide +kernel)⟩, by decide, _, rfl, rfl⟩
theorem vm_X8_areClean : tk_vm mX8_areClean 2 8 := ⟨⟨tk_in 933 (by decide +kernel) (by decide +kernel), tk_in 49 (by decide +kernel) (by decide +kernel), ⟨by decide +kernel, by decide +kernel, by decide +kernel⟩, by decide⟩, ⟨tk_in 932 (by decide +kernel) (by decide +kernel), tk_in 37 (by decide +kernel) (by decide +kernel)⟩, by decide, _, rfl, rfl⟩
theorem vm_X8_rings : tk_vm mX8_rings 1 8 := ⟨⟨tk_in 937 (by decide +kernel) (by decide +kernel), tk_in 49 (by decide +kernel) (by decide +kernel), ⟨by decide +kernel, by decide +kernel, by decide +kernel⟩, by decide⟩, ⟨tk_in 936 (by decide +kernel) (by decide +kernel), tk_in 38 (by decide +kernel) (by decide +kernel)⟩, by decide, _, rfl, rfl⟩
theorem vm_X8_asked : tk_vm mX8_asked 5 8 := ⟨⟨tk_in 924 (by decide +kernel) (by decide +kernel), tk_in 49 (by decide +kernel) (by decide +kernel), ⟨by decide +kernel, by decide +kernel, by decide +kernel⟩, by decide⟩, ⟨tk_in 922 (by decide +kernel) (by decide +kernel), tk_in 923 (by decide +kernel) (by decide +kernel)⟩, by decide, _, rfl, rfl⟩
theorem vm_X8_film : tk_vm mX8_film 3 8 := ⟨⟨tk_in 945 (by decide +kernel) (by decide +kernel), tk_in 49 (by decide +kernel) (by decide +kernel), ⟨by decide +kernel, by decide +kernel, by decide +kernel⟩, by decide⟩, ⟨tk_in 943 (by decide +kernel) (by decide +kernel), tk_in 944 (by decide +kernel) (by decide +kernel)⟩, by decide, _, rfl, rfl⟩
theorem vm_X8_copy : tk_vm mX8_copy 5 8 := ⟨⟨tk_in 949 (by decide +kernel) (by decide +kernel), tk_in 49 (by decide +kernel) (by decide +kernel), ⟨by decide +kernel, by decide +kernel, by decide +kernel⟩, by decide⟩, ⟨tk_in 947 (by decide +kernel) (by decide +kernel), tk_in 948 (by decide +kernel) (by decide +kernel)⟩, by decide, _, rfl, rfl⟩
theorem tk_lays0 : (∀ w ∈ u_ws RX0 TX0 5, w ∈ tk_TS) ∧ (∀ w ∈ u_ws RX1 TX1 7, w ∈ tk_TS) ∧ (∀ w ∈ u_ws RX2 TX2 4, w ∈ tk_TS) ∧ (∀ w ∈ u_ws RX3 TX3 6, w ∈ tk_TS) ∧ (∀ w ∈ u_ws RX4 TX4 3, w ∈ tk_TS) ∧ (∀ w ∈ u_ws RX5 TX5 3, w ∈ tk_TS) ∧ (∀ w ∈ u_ws RX6 TX6 1, w ∈ tk_TS) ∧ (∀ w ∈ u_ws RX7 TX7 13, w ∈ tk_TS) ∧ (∀ w ∈ u_ws RX8 TX8 25, w ∈ tk_TS) := by
  refine ⟨?_, ?_, ?_, ?_, ?_, ?_, ?_, ?_, ?_⟩
  · intro w hw
    have hall : (u_ws RX0 TX0 5).all goodWord = true := by decide +kernel
    have hpl : u_ws RX0 TX0 5 = ([153, 155, 157, 159, 161] : List Nat).filterMap (fun i => lw_tbl[i]?) := by decide +kernel
    have hg := List.all_eq_true.mp hall w hw
    rw [hpl] at hw
    obtain ⟨j, -, hj⟩ := List.mem_filterMap.mp hw
    exact tk_in j hj hg
  · intro w hw
    have hall : (u_ws RX1 TX1 7).all goodWord = true := by decide +kernel
    have hpl : u_ws RX1 TX1 7 = ([195, 197, 199, 201, 203, 205, 207] : List Nat).filterMap (fun i => lw_tbl[i]?) := by decide +kernel
    have hg := List.all_eq_true.mp hall w hw
    rw [hpl] at hw
    obtain ⟨j, -, hj⟩ := List.mem_filterMap.mp hw
    exact tk_in j hj hg
  · intro w hw
    have hall : (u_ws RX2 TX2 4).all goodWord = true := by decide +kernel
    have hpl : u_ws RX2 TX2 4 = ([77, 79, 81, 83] : List Nat).filterMap (fun i => lw_tbl[i]?) := by decide +kernel
    have hg := List.all_eq_true.mp hall w hw
    rw [hpl] at hw
    obtain ⟨j, -, hj⟩ := List.mem_filterMap.mp hw
    exact tk_in j hj hg
  · intro w hw
    have hall : (u_ws RX3 TX3 6).all goodWord = true := by decide +kernel
    have hpl : u_ws RX3 TX3 6 = ([105, 107, 109, 111, 113, 115] : List Nat).filterMap (fun i => lw_tbl[i]?) := by decide +kernel
    have hg := List.all_eq_true.mp hall w hw
    rw [hpl] at hw
    obtain ⟨j, -, hj⟩ := List.mem_filterMap.mp hw
    exact tk_in j hj hg
  · intro w hw
    have hall : (u_ws RX4 TX4 3).all goodWord = true := by decide +kernel
    have hpl : u_ws RX4 TX4 3 = ([223, 225, 227] : List Nat).filterMap (fun i => lw_tbl[i]?) := by decide +kernel
    have hg := List.all_eq_true.mp hall w hw
    rw [hpl] at hw
    obtain ⟨j, -, hj⟩ := List.mem_filterMap.mp hw
    exact tk_in j hj hg
  · intro w hw
    have hall : (u_ws RX5 TX5 3).all goodWord = true := by decide +kernel
    have hpl : u_ws RX5 TX5 3 = ([129, 131, 133] : List Nat).filterMap (fun i => lw_tbl[i]?) := by decide +kernel
    have hg := List.all_eq_true.mp hall w hw
    rw [hpl] at hw
    obtain ⟨j, -, hj⟩ := List.mem_filterMap.mp hw
    exact tk_in j hj hg
  · intro w hw
    have hall : (u_ws RX6 TX6 1).all goodWord = true := by decide +kernel
    have hpl : u_ws RX6 TX6 1 = ([172] : List Nat).filterMap (fun i => lw_tbl[i]?) := by decide +kernel
    have hg := List.all_eq_true.mp hall w hw
    rw [hpl] at hw
    obtain ⟨j, -, hj⟩ := List.mem_filterMap.mp hw
    exact tk_in j hj hg
  · intro w hw
    have hall : (u_ws RX7 TX7 13).all goodWord = true := by decide +kernel
    have hpl : u_ws RX7 TX7 13 = ([243, 245, 247, 249, 251, 253, 255, 257, 259, 261, 263, 265, 267] : List Nat).filterMap (fun i => lw_tbl[i]?) := by decide +kernel
    have hg := List.all_eq_true.mp hall w hw
    rw [hpl] at hw
    obtain ⟨j, -, hj⟩ := List.mem_filterMap.mp hw
    exact tk_in j hj hg
  · intro w hw
    have hall : (u_ws RX8 TX8 25).all goodWord = true := by decide +kernel
    have hpl : u_ws RX8 TX8 25 = ([640, 642, 644, 646, 648, 650, 652, 654, 656, 658, 660, 662, 664, 666, 668, 670, 672, 674, 676, 678, 680, 682, 684, 686, 688] : List Nat).filterMap (fun i => lw_tbl[i]?) := by decide +kernel
    have hg := List.all_eq_true.mp hall w hw
    rw [hpl] at hw
    obtain ⟨j, -, hj⟩ := List.mem_filterMap.mp hw
    exact tk_in j hj hg
theorem fl_X7_10 : tk_fl RX7 10 7 0 true (.object "TellKeys$Doors") := ⟨_, _, _, tyX7, rfl, by decide, tk_in 230 (by decide +kernel) (by decide +kernel), tk_lays0.2.2.2.2.2.2.2.1, rfl, by decide +kernel, tyX7_ok, nmX7, rfl⟩
theorem fl_X7_19 : tk_fl RX7 19 7 1 true (.object "TellKeys$Keys") := ⟨_, _, _, tyX7, rfl, by decide, tk_in 231 (by decide +kernel) (by decide +kernel), tk_lays0.2.2.2.2.2.2.2.1, rfl, by decide +kernel, tyX7_ok, nmX7, rfl⟩
theorem fl_X7_23 : tk_fl RX7 23 7 2 false .int := ⟨_, _, _, tyX7, rfl, by decide, tk_in 232 (by decide +kernel) (by decide +kernel), tk_lays0.2.2.2.2.2.2.2.1, rfl, by decide +kernel, tyX7_ok, nmX7, rfl⟩
theorem fl_X7_27 : tk_fl RX7 27 7 3 true (.object "TellKeys$Doors") := ⟨_, _, _, tyX7, rfl, by decide, tk_in 233 (by decide +kernel) (by decide +kernel), tk_lays0.2.2.2.2.2.2.2.1, rfl, by decide +kernel, tyX7_ok, nmX7, rfl⟩
theorem fl_X7_30 : tk_fl RX7 30 7 4 true (.object "TellKeys$Keys") := ⟨_, _, _, tyX7, rfl, by decide, tk_in 234 (by decide +kernel) (by decide +kernel), tk_lays0.2.2.2.2.2.2.2.1, rfl, by decide +kernel, tyX7_ok, nmX7, rfl⟩
theorem fl_X7_33 : tk_fl RX7 33 7 5 false .int := ⟨_, _, _, tyX7, rfl, by decide, tk_in 235 (by decide +kernel) (by decide +kernel), tk_lays0.2.2.2.2.2.2.2.1, rfl, by decide +kernel, tyX7_ok, nmX7, rfl⟩
theorem fl_X7_36 : tk_fl RX7 36 7 6 false .boolean := ⟨_, _, _, tyX7, rfl, by decide, tk_in 236 (by decide +kernel) (by decide +kernel), tk_lays0.2.2.2.2.2.2.2.1, rfl, by decide +kernel, tyX7_ok, nmX7, rfl⟩
theorem fl_X7_43 : tk_fl RX7 43 7 7 true (.object "TellKeys$Tape") := ⟨_, _, _, tyX7, rfl, by decide, tk_in 237 (by decide +kernel) (by decide +kernel), tk_lays0.2.2.2.2.2.2.2.1, rfl, by decide +kernel, tyX7_ok, nmX7, rfl⟩
theorem fl_X7_47 : tk_fl RX7 47 7 8 true (.object "TellKeys$Doors") := ⟨_, _, _, tyX7, rfl, by decide, tk_in 238 (by decide +kernel) (by decide +kernel), tk_lays0.2.2.2.2.2.2.2.1, rfl, by decide +kernel, tyX7_ok, nmX7, rfl⟩
theorem fl_X7_53 : tk_fl RX7 53 7 9 true (.object "TellKeys$Act") := ⟨_, _, _, tyX7, rfl, by decide, tk_in 239 (by decide +kernel) (by decide +kernel), tk_lays0.2.2.2.2.2.2.2.1, rfl, by decide +kernel, tyX7_ok, nmX7, rfl⟩
theorem fl_X7_60 : tk_fl RX7 60 7 10 true (.object "TellKeys$Ways") := ⟨_, _, _, tyX7, rfl, by decide, tk_in 240 (by decide +kernel) (by decide +kernel), tk_lays0.2.2.2.2.2.2.2.1, rfl, by decide +kernel, tyX7_ok, nmX7, rfl⟩
theorem fl_X7_67 : tk_fl RX7 67 7 11 true (.object "TellKeys$Asking") := ⟨_, _, _, tyX7, rfl, by decide, tk_in 241 (by decide +kernel) (by decide +kernel), tk_lays0.2.2.2.2.2.2.2.1, rfl, by decide +kernel, tyX7_ok, nmX7, rfl⟩
theorem fl_X7_73 : tk_fl RX7 73 7 12 true (.array (.object "TellKeys$Sheet")) := ⟨_, _, _, tyX7, rfl, by decide, tk_in 242 (by decide +kernel) (by decide +kernel), tk_lays0.2.2.2.2.2.2.2.1, rfl, by decide +kernel, tyX7_ok, nmX7, rfl⟩
theorem fl_X7_99 : tk_fl RX7 99 3 1 true (.array .int) := ⟨_, _, _, tyX3, rfl, by decide, tk_in 96 (by decide +kernel) (by decide +kernel), tk_lays0.2.2.2.1, rfl, by decide +kernel, tyX3_ok, nmX3, rfl⟩
theorem fl_X7_103 : tk_fl RX7 103 3 2 true (.array .int) := ⟨_, _, _, tyX3, rfl, by decide, tk_in 98 (by decide +kernel) (by decide +kernel), tk_lays0.2.2.2.1, rfl, by decide +kernel, tyX3_ok, nmX3, rfl⟩
theorem fl_X7_106 : tk_fl RX7 106 3 3 true (.array .int) := ⟨_, _, _, tyX3, rfl, by decide, tk_in 100 (by decide +kernel) (by decide +kernel), tk_lays0.2.2.2.1, rfl, by decide +kernel, tyX3_ok, nmX3, rfl⟩
theorem fl_X7_109 : tk_fl RX7 109 3 4 true (.array .int) := ⟨_, _, _, tyX3, rfl, by decide, tk_in 102 (by decide +kernel) (by decide +kernel), tk_lays0.2.2.2.1, rfl, by decide +kernel, tyX3_ok, nmX3, rfl⟩
theorem fl_X7_112 : tk_fl RX7 112 3 5 true (.array .int) := ⟨_, _, _, tyX3, rfl, by decide, tk_in 104 (by decide +kernel) (by decide +kernel), tk_lays0.2.2.2.1, rfl, by decide +kernel, tyX3_ok, nmX3, rfl⟩
theorem fl_X7_116 : tk_fl RX7 116 2 1 true (.array .int) := ⟨_, _, _, tyX2, rfl, by decide, tk_in 70 (by decide +kernel) (by decide +kernel), tk_lays0.2.2.1, rfl, by decide +kernel, tyX2_ok, nmX2, rfl⟩
theorem fl_X7_119 : tk_fl RX7 119 2 2 true (.array .int) := ⟨_, _, _, tyX2, rfl, by decide, tk_in 73 (by decide +kernel) (by decide +kernel), tk_lays0.2.2.1, rfl, by decide +kernel, tyX2_ok, nmX2, rfl⟩
theorem fl_X7_122 : tk_fl RX7 122 2 3 true (.array .int) := ⟨_, _, _, tyX2, rfl, by decide, tk_in 76 (by decide +kernel) (by decide +kernel), tk_lays0.2.2.1, rfl, by decide +kernel, tyX2_ok, nmX2, rfl⟩
theorem fl_X7_129 : tk_fl RX7 129 5 0 false .int := ⟨_, _, _, tyX5, rfl, by decide, tk_in 125 (by decide +kernel) (by decide +kernel), tk_lays0.2.2.2.2.2.1, rfl, by decide +kernel, tyX5_ok, nmX5, rfl⟩
theorem fl_X7_146 : tk_fl RX7 146 2 0 false .int := ⟨_, _, _, tyX2, rfl, by decide, tk_in 67 (by decide +kernel) (by decide +kernel), tk_lays0.2.2.1, rfl, by decide +kernel, tyX2_ok, nmX2, rfl⟩
theorem fl_X7_149 : tk_fl RX7 149 3 0 false .int := ⟨_, _, _, tyX3, rfl, by decide, tk_in 94 (by decide +kernel) (by decide +kernel), tk_lays0.2.2.2.1, rfl, by decide +kernel, tyX3_ok, nmX3, rfl⟩
theorem fl_X7_174 : tk_fl RX7 174 6 0 true (.array .int) := ⟨_, _, _, tyX6, rfl, by decide, tk_in 171 (by decide +kernel) (by decide +kernel), tk_lays0.2.2.2.2.2.2.1, rfl, by decide +kernel, tyX6_ok, nmX6, rfl⟩
theorem fl_X7_225 : tk_fl RX7 225 1 1 false .int := ⟨_, _, _, tyX1, rfl, by decide, tk_in 184 (by decide +kernel) (by decide +kernel), tk_lays0.2.1, rfl, by decide +kernel, tyX1_ok, nmX1, rfl⟩
theorem fl_X7_228 : tk_fl RX7 228 1 6 true (.array .int) := ⟨_, _, _, tyX1, rfl, by decide, tk_in 194 (by decide +kernel) (by decide +kernel), tk_lays0.2.1, rfl, by decide +kernel, tyX1_ok, nmX1, rfl⟩
theorem fl_X7_244 : tk_fl RX7 244 4 1 false .int := ⟨_, _, _, tyX4, rfl, by decide, tk_in 220 (by decide +kernel) (by decide +kernel), tk_lays0.2.2.2.2.1, rfl, by decide +kernel, tyX4_ok, nmX4, rfl⟩
theorem fl_X7_245 : tk_fl RX7 245 4 0 false .int := ⟨_, _, _, tyX4, rfl, by decide, tk_in 218 (by decide +kernel) (by decide +kernel), tk_lays0.2.2.2.2.1, rfl, by decide +kernel, tyX4_ok, nmX4, rfl⟩
theorem fl_X7_248 : tk_fl RX7 248 4 2 true (.array .int) := ⟨_, _, _, tyX4, rfl, by decide, tk_in 222 (by decide +kernel) (by decide +kernel), tk_lays0.2.2.2.2.1, rfl, by decide +kernel, tyX4_ok, nmX4, rfl⟩
theorem fl_X7_262 : tk_fl RX7 262 5 1 false .int := ⟨_, _, _, tyX5, rfl, by decide, tk_in 127 (by decide +kernel) (by decide +kernel), tk_lays0.2.2.2.2.2.1, rfl, by decide +kernel, tyX5_ok, nmX5, rfl⟩
theorem fl_X7_289 : tk_fl RX7 289 0 0 false .int := ⟨_, _, _, tyX0, rfl, by decide, tk_in 144 (by decide +kernel) (by decide +kernel), tk_lays0.1, rfl, by decide +kernel, tyX0_ok, nmX0, rfl⟩
theorem fl_X7_295 : tk_fl RX7 295 0 1 false .int := ⟨_, _, _, tyX0, rfl, by decide, tk_in 146 (by decide +kernel) (by decide +kernel), tk_lays0.1, rfl, by decide +kernel, tyX0_ok, nmX0, rfl⟩
theorem fl_X7_298 : tk_fl RX7 298 0 2 false .int := ⟨_, _, _, tyX0, rfl, by decide, tk_in 148 (by decide +kernel) (by decide +kernel), tk_lays0.1, rfl, by decide +kernel, tyX0_ok, nmX0, rfl⟩
theorem fl_X7_301 : tk_fl RX7 301 0 3 false .int := ⟨_, _, _, tyX0, rfl, by decide, tk_in 150 (by decide +kernel) (by decide +kernel), tk_lays0.1, rfl, by decide +kernel, tyX0_ok, nmX0, rfl⟩
theorem fl_X7_307 : tk_fl RX7 307 0 4 false .int := ⟨_, _, _, tyX0, rfl, by decide, tk_in 152 (by decide +kernel) (by decide +kernel), tk_lays0.1, rfl, by decide +kernel, tyX0_ok, nmX0, rfl⟩
theorem fl_X7_325 : tk_fl RX7 325 1 2 true (.array .int) := ⟨_, _, _, tyX1, rfl, by decide, tk_in 186 (by decide +kernel) (by decide +kernel), tk_lays0.2.1, rfl, by decide +kernel, tyX1_ok, nmX1, rfl⟩
theorem fl_X7_327 : tk_fl RX7 327 1 3 true (.array .int) := ⟨_, _, _, tyX1, rfl, by decide, tk_in 188 (by decide +kernel) (by decide +kernel), tk_lays0.2.1, rfl, by decide +kernel, tyX1_ok, nmX1, rfl⟩
theorem fl_X7_330 : tk_fl RX7 330 1 0 false .int := ⟨_, _, _, tyX1, rfl, by decide, tk_in 182 (by decide +kernel) (by decide +kernel), tk_lays0.2.1, rfl, by decide +kernel, tyX1_ok, nmX1, rfl⟩
theorem fl_X7_331 : tk_fl RX7 331 1 4 true (.array .int) := ⟨_, _, _, tyX1, rfl, by decide, tk_in 190 (by decide +kernel) (by decide +kernel), tk_lays0.2.1, rfl, by decide +kernel, tyX1_ok, nmX1, rfl⟩
theorem fl_X7_340 : tk_fl RX7 340 1 5 true (.array .int) := ⟨_, _, _, tyX1, rfl, by decide, tk_in 192 (by decide +kernel) (by decide +kernel), tk_lays0.2.1, rfl, by decide +kernel, tyX1_ok, nmX1, rfl⟩
theorem fl_X0_7 : tk_fl RX0 7 0 0 false .int := ⟨_, _, _, tyX0, rfl, by decide, tk_in 143 (by decide +kernel) (by decide +kernel), tk_lays0.1, rfl, by decide +kernel, tyX0_ok, nmX0, rfl⟩
theorem fl_X0_13 : tk_fl RX0 13 0 1 false .int := ⟨_, _, _, tyX0, rfl, by decide, tk_in 145 (by decide +kernel) (by decide +kernel), tk_lays0.1, rfl, by decide +kernel, tyX0_ok, nmX0, rfl⟩
theorem fl_X0_16 : tk_fl RX0 16 0 2 false .int := ⟨_, _, _, tyX0, rfl, by decide, tk_in 147 (by decide +kernel) (by decide +kernel), tk_lays0.1, rfl, by decide +kernel, tyX0_ok, nmX0, rfl⟩
theorem fl_X0_19 : tk_fl RX0 19 0 3 false .int := ⟨_, _, _, tyX0, rfl, by decide, tk_in 149 (by decide +kernel) (by decide +kernel), tk_lays0.1, rfl, by decide +kernel, tyX0_ok, nmX0, rfl⟩
theorem fl_X0_22 : tk_fl RX0 22 0 4 false .int := ⟨_, _, _, tyX0, rfl, by decide, tk_in 151 (by decide +kernel) (by decide +kernel), tk_lays0.1, rfl, by decide +kernel, tyX0_ok, nmX0, rfl⟩
theorem fl_X1_9 : tk_fl RX1 9 1 0 false .int := ⟨_, _, _, tyX1, rfl, by decide, tk_in 181 (by decide +kernel) (by decide +kernel), tk_lays0.2.1, rfl, by decide +kernel, tyX1_ok, nmX1, rfl⟩
theorem fl_X1_15 : tk_fl RX1 15 1 1 false .int := ⟨_, _, _, tyX1, rfl, by decide, tk_in 183 (by decide +kernel) (by decide +kernel), tk_lays0.2.1, rfl, by decide +kernel, tyX1_ok, nmX1, rfl⟩
theorem fl_X1_18 : tk_fl RX1 18 1 2 true (.array .int) := ⟨_, _, _, tyX1, rfl, by decide, tk_in 185 (by decide +kernel) (by decide +kernel), tk_lays0.2.1, rfl, by decide +kernel, tyX1_ok, nmX1, rfl⟩
theorem fl_X1_22 : tk_fl RX1 22 1 3 true (.array .int) := ⟨_, _, _, tyX1, rfl, by decide, tk_in 187 (by decide +kernel) (by decide +kernel), tk_lays0.2.1, rfl, by decide +kernel, tyX1_ok, nmX1, rfl⟩
theorem fl_X1_25 : tk_fl RX1 25 1 4 true (.array .int) := ⟨_, _, _, tyX1, rfl, by decide, tk_in 189 (by decide +kernel) (by decide +kernel), tk_lays0.2.1, rfl, by decide +kernel, tyX1_ok, nmX1, rfl⟩
theorem fl_X1_28 : tk_fl RX1 28 1 5 true (.array .int) := ⟨_, _, _, tyX1, rfl, by decide, tk_in 191 (by decide +kernel) (by decide +kernel), tk_lays0.2.1, rfl, by decide +kernel, tyX1_ok, nmX1, rfl⟩
theorem fl_X1_31 : tk_fl RX1 31 1 6 true (.array .int) := ⟨_, _, _, tyX1, rfl, by decide, tk_in 193 (by decide +kernel) (by decide +kernel), tk_lays0.2.1, rfl, by decide +kernel, tyX1_ok, nmX1, rfl⟩
theorem fl_X2_9 : tk_fl RX2 9 2 0 false .int := ⟨_, _, _, tyX2, rfl, by decide, tk_in 66 (by decide +kernel) (by decide +kernel), tk_lays0.2.2.1, rfl, by decide +kernel, tyX2_ok, nmX2, rfl⟩
theorem fl_X2_15 : tk_fl RX2 15 2 1 true (.array .int) := ⟨_, _, _, tyX2, rfl, by decide, tk_in 68 (by decide +kernel) (by decide +kernel), tk_lays0.2.2.1, rfl, by decide +kernel, tyX2_ok, nmX2, rfl⟩
theorem fl_X2_19 : tk_fl RX2 19 2 2 true (.array .int) := ⟨_, _, _, tyX2, rfl, by decide, tk_in 71 (by decide +kernel) (by decide +kernel), tk_lays0.2.2.1, rfl, by decide +kernel, tyX2_ok, nmX2, rfl⟩
theorem fl_X2_22 : tk_fl RX2 22 2 3 true (.array .int) := ⟨_, _, _, tyX2, rfl, by decide, tk_in 74 (by decide +kernel) (by decide +kernel), tk_lays0.2.2.1, rfl, by decide +kernel, tyX2_ok, nmX2, rfl⟩
theorem fl_X3_9 : tk_fl RX3 9 3 0 false .int := ⟨_, _, _, tyX3, rfl, by decide, tk_in 93 (by decide +kernel) (by decide +kernel), tk_lays0.2.2.2.1, rfl, by decide +kernel, tyX3_ok, nmX3, rfl⟩
theorem fl_X3_15 : tk_fl RX3 15 3 1 true (.array .int) := ⟨_, _, _, tyX3, rfl, by decide, tk_in 95 (by decide +kernel) (by decide +kernel), tk_lays0.2.2.2.1, rfl, by decide +kernel, tyX3_ok, nmX3, rfl⟩
theorem fl_X3_19 : tk_fl RX3 19 3 2 true (.array .int) := ⟨_, _, _, tyX3, rfl, by decide, tk_in 97 (by decide +kernel) (by decide +kernel), tk_lays0.2.2.2.1, rfl, by decide +kernel, tyX3_ok, nmX3, rfl⟩
theorem fl_X3_22 : tk_fl RX3 22 3 3 true (.array .int) := ⟨_, _, _, tyX3, rfl, by decide, tk_in 99 (by decide +kernel) (by decide +kernel), tk_lays0.2.2.2.1, rfl, by decide +kernel, tyX3_ok, nmX3, rfl⟩
theorem fl_X3_25 : tk_fl RX3 25 3 4 true (.array .int) := ⟨_, _, _, tyX3, rfl, by decide, tk_in 101 (by decide +kernel) (by decide +kernel), tk_lays0.2.2.2.1, rfl, by decide +kernel, tyX3_ok, nmX3, rfl⟩
theorem fl_X3_28 : tk_fl RX3 28 3 5 true (.array .int) := ⟨_, _, _, tyX3, rfl, by decide, tk_in 103 (by decide +kernel) (by decide +kernel), tk_lays0.2.2.2.1, rfl, by decide +kernel, tyX3_ok, nmX3, rfl⟩
theorem fl_X4_9 : tk_fl RX4 9 4 0 false .int := ⟨_, _, _, tyX4, rfl, by decide, tk_in 217 (by decide +kernel) (by decide +kernel), tk_lays0.2.2.2.2.1, rfl, by decide +kernel, tyX4_ok, nmX4, rfl⟩
theorem fl_X4_15 : tk_fl RX4 15 4 1 false .int := ⟨_, _, _, tyX4, rfl, by decide, tk_in 219 (by decide +kernel) (by decide +kernel), tk_lays0.2.2.2.2.1, rfl, by decide +kernel, tyX4_ok, nmX4, rfl⟩
theorem fl_X4_18 : tk_fl RX4 18 4 2 true (.array .int) := ⟨_, _, _, tyX4, rfl, by decide, tk_in 221 (by decide +kernel) (by decide +kernel), tk_lays0.2.2.2.2.1, rfl, by decide +kernel, tyX4_ok, nmX4, rfl⟩
theorem fl_X5_9 : tk_fl RX5 9 5 0 false .int := ⟨_, _, _, tyX5, rfl, by decide, tk_in 124 (by decide +kernel) (by decide +kernel), tk_lays0.2.2.2.2.2.1, rfl, by decide +kernel, tyX5_ok, nmX5, rfl⟩
theorem fl_X5_15 : tk_fl RX5 15 5 1 false .int := ⟨_, _, _, tyX5, rfl, by decide, tk_in 126 (by decide +kernel) (by decide +kernel), tk_lays0.2.2.2.2.2.1, rfl, by decide +kernel, tyX5_ok, nmX5, rfl⟩
theorem fl_X5_18 : tk_fl RX5 18 5 2 true (.array .byte) := ⟨_, _, _, tyX5, rfl, by decide, tk_in 128 (by decide +kernel) (by decide +kernel), tk_lays0.2.2.2.2.2.1, rfl, by decide +kernel, tyX5_ok, nmX5, rfl⟩
theorem fl_X6_9 : tk_fl RX6 9 6 0 true (.array .int) := ⟨_, _, _, tyX6, rfl, by decide, tk_in 170 (by decide +kernel) (by decide +kernel), tk_lays0.2.2.2.2.2.2.1, rfl, by decide +kernel, tyX6_ok, nmX6, rfl⟩
theorem fl_X6_21 : tk_fl RX6 21 2 1 true (.array .int) := ⟨_, _, _, tyX2, rfl, by decide, tk_in 69 (by decide +kernel) (by decide +kernel), tk_lays0.2.2.1, rfl, by decide +kernel, tyX2_ok, nmX2, rfl⟩
theorem fl_X6_24 : tk_fl RX6 24 2 2 true (.array .int) := ⟨_, _, _, tyX2, rfl, by decide, tk_in 72 (by decide +kernel) (by decide +kernel), tk_lays0.2.2.1, rfl, by decide +kernel, tyX2_ok, nmX2, rfl⟩
theorem fl_X6_35 : tk_fl RX6 35 2 3 true (.array .int) := ⟨_, _, _, tyX2, rfl, by decide, tk_in 75 (by decide +kernel) (by decide +kernel), tk_lays0.2.2.1, rfl, by decide +kernel, tyX2_ok, nmX2, rfl⟩
theorem fl_X8_7 : tk_fl RX8 7 8 0 true (.array .int) := ⟨_, _, _, tyX8, rfl, by decide, tk_in 615 (by decide +kernel) (by decide +kernel), tk_lays0.2.2.2.2.2.2.2.2, rfl, by decide +kernel, tyX8_ok, nmX8, rfl⟩
theorem fl_X8_13 : tk_fl RX8 13 8 1 true (.array .int) := ⟨_, _, _, tyX8, rfl, by decide, tk_in 616 (by decide +kernel) (by decide +kernel), tk_lays0.2.2.2.2.2.2.2.2, rfl, by decide +kernel, tyX8_ok, nmX8, rfl⟩
theorem fl_X8_16 : tk_fl RX8 16 8 2 true (.array .int) := ⟨_, _, _, tyX8, rfl, by decide, tk_in 617 (by decide +kernel) (by decide +kernel), tk_lays0.2.2.2.2.2.2.2.2, rfl, by decide +kernel, tyX8_ok, nmX8, rfl⟩
theorem fl_X8_19 : tk_fl RX8 19 8 4 true (.array .int) := ⟨_, _, _, tyX8, rfl, by decide, tk_in 619 (by decide +kernel) (by decide +kernel), tk_lays0.2.2.2.2.2.2.2.2, rfl, by decide +kernel, tyX8_ok, nmX8, rfl⟩
theorem fl_X8_22 : tk_fl RX8 22 8 5 true (.array .int) := ⟨_, _, _, tyX8, rfl, by decide, tk_in 620 (by decide +kernel) (by decide +kernel), tk_lays0.2.2.2.2.2.2.2.2, rfl, by decide +kernel, tyX8_ok, nmX8, rfl⟩
theorem fl_X8_25 : tk_fl RX8 25 8 6 true (.array .int) := ⟨_, _, _, tyX8, rfl, by decide, tk_in 621 (by decide +kernel) (by decide +kernel), tk_lays0.2.2.2.2.2.2.2.2, rfl, by decide +kernel, tyX8_ok, nmX8, rfl⟩
theorem fl_X8_28 : tk_fl RX8 28 8 7 true (.array .int) := ⟨_, _, _, tyX8, rfl, by decide, tk_in 622 (by decide +kernel) (by decide +kernel), tk_lays0.2.2.2.2.2.2.2.2, rfl, by decide +kernel, tyX8_ok, nmX8, rfl⟩
theorem fl_X8_31 : tk_fl RX8 31 8 8 true (.array .int) := ⟨_, _, _, tyX8, rfl, by decide, tk_in 623 (by decide +kernel) (by decide +kernel), tk_lays0.2.2.2.2.2.2.2.2, rfl, by decide +kernel, tyX8_ok, nmX8, rfl⟩
theorem fl_X8_34 : tk_fl RX8 34 8 11 true (.array .int) := ⟨_, _, _, tyX8, rfl, by decide, tk_in 626 (by decide +kernel) (by decide +kernel), tk_lays0.2.2.2.2.2.2.2.2, rfl, by decide +kernel, tyX8_ok, nmX8, rfl⟩
theorem fl_X8_37 : tk_fl RX8 37 8 15 true (.array .int) := ⟨_, _, _, tyX8, rfl, by decide, tk_in 630 (by decide +kernel) (by decide +kernel), tk_lays0.2.2.2.2.2.2.2.2, rfl, by decide +kernel, tyX8_ok, nmX8, rfl⟩
theorem fl_X8_40 : tk_fl RX8 40 8 16 true (.array .int) := ⟨_, _, _, tyX8, rfl, by decide, tk_in 631 (by decide +kernel) (by decide +kernel), tk_lays0.2.2.2.2.2.2.2.2, rfl, by decide +kernel, tyX8_ok, nmX8, rfl⟩
theorem fl_X8_43 : tk_fl RX8 43 8 18 true (.array .int) := ⟨_, _, _, tyX8, rfl, by decide, tk_in 633 (by decide +kernel) (by decide +kernel), tk_lays0.2.2.2.2.2.2.2.2, rfl, by decide +kernel, tyX8_ok, nmX8, rfl⟩
theorem fl_X8_46 : tk_fl RX8 46 8 19 true (.array .int) := ⟨_, _, _, tyX8, rfl, by decide, tk_in 634 (by decide +kernel) (by decide +kernel), tk_lays0.2.2.2.2.2.2.2.2, rfl, by decide +kernel, tyX8_ok, nmX8, rfl⟩
theorem fl_X8_49 : tk_fl RX8 49 8 20 true (.array .int) := ⟨_, _, _, tyX8, rfl, by decide, tk_in 635 (by decide +kernel) (by decide +kernel), tk_lays0.2.2.2.2.2.2.2.2, rfl, by decide +kernel, tyX8_ok, nmX8, rfl⟩
theorem fl_X8_52 : tk_fl RX8 52 8 21 true (.array .int) := ⟨_, _, _, tyX8, rfl, by decide, tk_in 636 (by decide +kernel) (by decide +kernel), tk_lays0.2.2.2.2.2.2.2.2, rfl, by decide +kernel, tyX8_ok, nmX8, rfl⟩
theorem fl_X8_55 : tk_fl RX8 55 8 22 true (.array .int) := ⟨_, _, _, tyX8, rfl, by decide, tk_in 637 (by decide +kernel) (by decide +kernel), tk_lays0.2.2.2.2.2.2.2.2, rfl, by decide +kernel, tyX8_ok, nmX8, rfl⟩
theorem fl_X8_58 : tk_fl RX8 58 8 23 true (.array .int) := ⟨_, _, _, tyX8, rfl, by decide, tk_in 638 (by decide +kernel) (by decide +kernel), tk_lays0.2.2.2.2.2.2.2.2, rfl, by decide +kernel, tyX8_ok, nmX8, rfl⟩
theorem fl_X8_61 : tk_fl RX8 61 8 24 true (.array .int) := ⟨_, _, _, tyX8, rfl, by decide, tk_in 639 (by decide +kernel) (by decide +kernel), tk_lays0.2.2.2.2.2.2.2.2, rfl, by decide +kernel, tyX8_ok, nmX8, rfl⟩
theorem fl_X8_70 : tk_fl RX8 70 8 9 false .int := ⟨_, _, _, tyX8, rfl, by decide, tk_in 624 (by decide +kernel) (by decide +kernel), tk_lays0.2.2.2.2.2.2.2.2, rfl, by decide +kernel, tyX8_ok, nmX8, rfl⟩
theorem fl_X8_84 : tk_fl RX8 84 8 3 false .int := ⟨_, _, _, tyX8, rfl, by decide, tk_in 618 (by decide +kernel) (by decide +kernel), tk_lays0.2.2.2.2.2.2.2.2, rfl, by decide +kernel, tyX8_ok, nmX8, rfl⟩
theorem fl_X8_98 : tk_fl RX8 98 8 10 false .int := ⟨_, _, _, tyX8, rfl, by decide, tk_in 625 (by decide +kernel) (by decide +kernel), tk_lays0.2.2.2.2.2.2.2.2, rfl, by decide +kernel, tyX8_ok, nmX8, rfl⟩
theorem fl_X8_111 : tk_fl RX8 111 8 12 false .int := ⟨_, _, _, tyX8, rfl, by decide, tk_in 627 (by decide +kernel) (by decide +kernel), tk_lays0.2.2.2.2.2.2.2.2, rfl, by decide +kernel, tyX8_ok, nmX8, rfl⟩
theorem fl_X8_114 : tk_fl RX8 114 8 13 false .int := ⟨_, _, _, tyX8, rfl, by decide, tk_in 628 (by decide +kernel) (by decide +kernel), tk_lays0.2.2.2.2.2.2.2.2, rfl, by decide +kernel, tyX8_ok, nmX8, rfl⟩
theorem fl_X8_138 : tk_fl RX8 138 8 14 false .int := ⟨_, _, _, tyX8, rfl, by decide, tk_in 629 (by decide +kernel) (by decide +kernel), tk_lays0.2.2.2.2.2.2.2.2, rfl, by decide +kernel, tyX8_ok, nmX8, rfl⟩
theorem fl_X8_226 : tk_fl RX8 226 8 17 false .boolean := ⟨_, _, _, tyX8, rfl, by decide, tk_in 632 (by decide +kernel) (by decide +kernel), tk_lays0.2.2.2.2.2.2.2.2, rfl, by decide +kernel, tyX8_ok, nmX8, rfl⟩
theorem ml_X7_1 : Cond.methodLink RX7 1 objectInit ∈ tk_TS := tk_in 57 (by decide +kernel) (by decide +kernel)
theorem ml_X7_9 : Cond.methodLink RX7 9 yX2_init ∈ tk_TS := tk_in 62 (by decide +kernel) (by decide +kernel)
theorem ml_X7_78 : Cond.methodLink RX7 78 yX7_isPlace ∈ tk_TS := tk_in 274 (by decide +kernel) (by decide +kernel)
theorem ml_X7_82 : Cond.methodLink RX7 82 yX7_mayHaveDoor ∈ tk_TS := tk_in 277 (by decide +kernel) (by decide +kernel)
theorem ml_X7_86 : Cond.methodLink RX7 86 yX2_add ∈ tk_TS := tk_in 283 (by decide +kernel) (by decide +kernel)
theorem ml_X7_90 : Cond.methodLink RX7 90 yX7_isKind ∈ tk_TS := tk_in 291 (by decide +kernel) (by decide +kernel)
theorem ml_X7_93 : Cond.methodLink RX7 93 yX3_add ∈ tk_TS := tk_in 294 (by decide +kernel) (by decide +kernel)
theorem ml_X7_96 : Cond.methodLink RX7 96 yX3_has ∈ tk_TS := tk_in 302 (by decide +kernel) (by decide +kernel)
theorem ml_X7_115 : Cond.methodLink RX7 115 yX2_has ∈ tk_TS := tk_in 310 (by decide +kernel) (by decide +kernel)
theorem ml_X7_125 : Cond.methodLink RX7 125 yX7_byteOf ∈ tk_TS := tk_in 318 (by decide +kernel) (by decide +kernel)
theorem ml_X7_132 : Cond.methodLink RX7 132 yX5_add ∈ tk_TS := tk_in 321 (by decide +kernel) (by decide +kernel)
theorem ml_X7_135 : Cond.methodLink RX7 135 yX7_readHouse ∈ tk_TS := tk_in 329 (by decide +kernel) (by decide +kernel)
theorem ml_X7_139 : Cond.methodLink RX7 139 yX5_empty ∈ tk_TS := tk_in 368 (by decide +kernel) (by decide +kernel)
theorem ml_X7_142 : Cond.methodLink RX7 142 yX7_readWeek ∈ tk_TS := tk_in 376 (by decide +kernel) (by decide +kernel)
theorem ml_X7_150 : Cond.methodLink RX7 150 yX3_stained ∈ tk_TS := tk_in 461 (by decide +kernel) (by decide +kernel)
theorem ml_X7_153 : Cond.methodLink RX7 153 yX3_showing ∈ tk_TS := tk_in 465 (by decide +kernel) (by decide +kernel)
theorem ml_X7_157 : Cond.methodLink RX7 157 yX2_at ∈ tk_TS := tk_in 480 (by decide +kernel) (by decide +kernel)
theorem ml_X7_160 : Cond.methodLink RX7 160 yX7_isSister ∈ tk_TS := tk_in 403 (by decide +kernel) (by decide +kernel)
theorem ml_X7_163 : Cond.methodLink RX7 163 yX7_isStay ∈ tk_TS := tk_in 406 (by decide +kernel) (by decide +kernel)
theorem ml_X7_166 : Cond.methodLink RX7 166 yX3_ring ∈ tk_TS := tk_in 409 (by decide +kernel) (by decide +kernel)
theorem ml_X7_170 : Cond.methodLink RX7 170 yX6_measure ∈ tk_TS := tk_in 413 (by decide +kernel) (by decide +kernel)
theorem ml_X7_177 : Cond.methodLink RX7 177 yX6_locksFromHall ∈ tk_TS := tk_in 425 (by decide +kernel) (by decide +kernel)
theorem ml_X7_181 : Cond.methodLink RX7 181 yX3_stain ∈ tk_TS := tk_in 437 (by decide +kernel) (by decide +kernel)
theorem ml_X7_185 : Cond.methodLink RX7 185 yX3_halve ∈ tk_TS := tk_in 445 (by decide +kernel) (by decide +kernel)
theorem ml_X7_188 : Cond.methodLink RX7 188 yX7_isDayAhead ∈ tk_TS := tk_in 493 (by decide +kernel) (by decide +kernel)
theorem ml_X7_191 : Cond.methodLink RX7 191 yX3_showsOn ∈ tk_TS := tk_in 497 (by decide +kernel) (by decide +kernel)
theorem ml_X7_194 : Cond.methodLink RX7 194 yX2_hasLockAt ∈ tk_TS := tk_in 510 (by decide +kernel) (by decide +kernel)
theorem ml_X7_197 : Cond.methodLink RX7 197 yX3_shows ∈ tk_TS := tk_in 518 (by decide +kernel) (by decide +kernel)
theorem ml_X7_200 : Cond.methodLink RX7 200 yX7_isRest ∈ tk_TS := tk_in 523 (by decide +kernel) (by decide +kernel)
theorem ml_X7_204 : Cond.methodLink RX7 204 yX2_becomeLike ∈ tk_TS := tk_in 361 (by decide +kernel) (by decide +kernel)
theorem ml_X7_208 : Cond.methodLink RX7 208 yX3_becomeLike ∈ tk_TS := tk_in 533 (by decide +kernel) (by decide +kernel)
theorem ml_X7_211 : Cond.methodLink RX7 211 yX7_refusalOf ∈ tk_TS := tk_in 546 (by decide +kernel) (by decide +kernel)
theorem ml_X7_214 : Cond.methodLink RX7 214 yX4_holds ∈ tk_TS := tk_in 556 (by decide +kernel) (by decide +kernel)
theorem ml_X7_217 : Cond.methodLink RX7 217 yX7_takeAsked ∈ tk_TS := tk_in 560 (by decide +kernel) (by decide +kernel)
theorem ml_X7_221_0 : Cond.methodLink RX7 221 (mX7_tryRows 0).1 ∈ tk_TS := tk_in 568 (by decide +kernel) (by decide +kernel)
theorem ml_X7_221 (d : Nat) : Cond.methodLink RX7 221 (mX7_tryRows d).1 ∈ tk_TS := ml_X7_221_0
theorem ml_X7_231 : Cond.methodLink RX7 231 yX4_put ∈ tk_TS := tk_in 584 (by decide +kernel) (by decide +kernel)
theorem ml_X7_235 : Cond.methodLink RX7 235 yX7_isSheet ∈ tk_TS := tk_in 550 (by decide +kernel) (by decide +kernel)
theorem ml_X7_238 : Cond.methodLink RX7 238 yX7_isLane ∈ tk_TS := tk_in 553 (by decide +kernel) (by decide +kernel)
theorem ml_X7_241 : Cond.methodLink RX7 241 yX4_renew ∈ tk_TS := tk_in 592 (by decide +kernel) (by decide +kernel)
theorem ml_X7_251 : Cond.methodLink RX7 251 arraycopyName ∈ tk_TS := tk_in 608 (by decide +kernel) (by decide +kernel)
theorem ml_X7_257 : Cond.methodLink RX7 257 Lib.Math.abs.name ∈ tk_TS := tk_in 280 (by decide +kernel) (by decide +kernel)
theorem ml_X7_264 : Cond.methodLink RX7 264 yX7_readDoor ∈ tk_TS := tk_in 333 (by decide +kernel) (by decide +kernel)
theorem ml_X7_268 : Cond.methodLink RX7 268 yX5_fault ∈ tk_TS := tk_in 356 (by decide +kernel) (by decide +kernel)
theorem ml_X7_271 : Cond.methodLink RX7 271 yX5_take ∈ tk_TS := tk_in 348 (by decide +kernel) (by decide +kernel)
theorem ml_X7_274 : Cond.methodLink RX7 274 yX5_ahead ∈ tk_TS := tk_in 360 (by decide +kernel) (by decide +kernel)
theorem ml_X7_277 : Cond.methodLink RX7 277 yX5_placeAhead ∈ tk_TS := tk_in 337 (by decide +kernel) (by decide +kernel)
theorem ml_X7_280 : Cond.methodLink RX7 280 yX5_digit ∈ tk_TS := tk_in 352 (by decide +kernel) (by decide +kernel)
theorem ml_X7_283 : Cond.methodLink RX7 283 yX7_readAct ∈ tk_TS := tk_in 380 (by decide +kernel) (by decide +kernel)
theorem ml_X7_286 : Cond.methodLink RX7 286 yX7_doAct ∈ tk_TS := tk_in 395 (by decide +kernel) (by decide +kernel)
theorem ml_X7_292 : Cond.methodLink RX7 292 yX7_readVisit ∈ tk_TS := tk_in 384 (by decide +kernel) (by decide +kernel)
theorem ml_X7_304 : Cond.methodLink RX7 304 yX5_numberUpTo ∈ tk_TS := tk_in 388 (by decide +kernel) (by decide +kernel)
theorem ml_X7_309 : Cond.methodLink RX7 309 yX7_visit ∈ tk_TS := tk_in 399 (by decide +kernel) (by decide +kernel)
theorem ml_X7_312 : Cond.methodLink RX7 312 yX7_wash ∈ tk_TS := tk_in 441 (by decide +kernel) (by decide +kernel)
theorem ml_X7_315 : Cond.methodLink RX7 315 yX7_change ∈ tk_TS := tk_in 449 (by decide +kernel) (by decide +kernel)
theorem ml_X7_318 : Cond.methodLink RX7 318 yX7_next ∈ tk_TS := tk_in 453 (by decide +kernel) (by decide +kernel)
theorem ml_X7_321 : Cond.methodLink RX7 321 yX7_hersBy ∈ tk_TS := tk_in 526 (by decide +kernel) (by decide +kernel)
theorem ml_X7_334 : Cond.methodLink RX7 334 yX7_cleanFor ∈ tk_TS := tk_in 564 (by decide +kernel) (by decide +kernel)
theorem ml_X7_337 : Cond.methodLink RX7 337 yX1_weigh ∈ tk_TS := tk_in 571 (by decide +kernel) (by decide +kernel)
theorem ml_X0_1 : Cond.methodLink RX0 1 objectInit ∈ tk_TS := tk_in 142 (by decide +kernel) (by decide +kernel)
theorem ml_X1_3 : Cond.methodLink RX1 3 objectInit ∈ tk_TS := tk_in 180 (by decide +kernel) (by decide +kernel)
theorem ml_X1_34 : Cond.methodLink RX1 34 yX1_changesTo ∈ tk_TS := tk_in 575 (by decide +kernel) (by decide +kernel)
theorem ml_X1_38 : Cond.methodLink RX1 38 arraycopyName ∈ tk_TS := tk_in 579 (by decide +kernel) (by decide +kernel)
theorem ml_X2_3 : Cond.methodLink RX2 3 objectInit ∈ tk_TS := tk_in 65 (by decide +kernel) (by decide +kernel)
theorem ml_X2_25 : Cond.methodLink RX2 25 arraycopyName ∈ tk_TS := tk_in 365 (by decide +kernel) (by decide +kernel)
theorem ml_X2_31 : Cond.methodLink RX2 31 yX2_isAt ∈ tk_TS := tk_in 484 (by decide +kernel) (by decide +kernel)
theorem ml_X3_3 : Cond.methodLink RX3 3 objectInit ∈ tk_TS := tk_in 92 (by decide +kernel) (by decide +kernel)
theorem ml_X3_31 : Cond.methodLink RX3 31 arraycopyName ∈ tk_TS := tk_in 537 (by decide +kernel) (by decide +kernel)
theorem ml_X3_37 : Cond.methodLink RX3 37 yX3_showsOn ∈ tk_TS := tk_in 469 (by decide +kernel) (by decide +kernel)
theorem ml_X3_41 : Cond.methodLink RX3 41 yX3_shows ∈ tk_TS := tk_in 473 (by decide +kernel) (by decide +kernel)
theorem ml_X3_45 : Cond.methodLink RX3 45 Lib.Math.max.name ∈ tk_TS := tk_in 476 (by decide +kernel) (by decide +kernel)
theorem ml_X3_50 : Cond.methodLink RX3 50 Lib.Math.min.name ∈ tk_TS := tk_in 479 (by decide +kernel) (by decide +kernel)
theorem ml_X4_3 : Cond.methodLink RX4 3 objectInit ∈ tk_TS := tk_in 216 (by decide +kernel) (by decide +kernel)
theorem ml_X5_3 : Cond.methodLink RX5 3 objectInit ∈ tk_TS := tk_in 123 (by decide +kernel) (by decide +kernel)
theorem ml_X5_22 : Cond.methodLink RX5 22 yX5_ahead ∈ tk_TS := tk_in 341 (by decide +kernel) (by decide +kernel)
theorem ml_X5_26 : Cond.methodLink RX5 26 yX5_isDigit ∈ tk_TS := tk_in 345 (by decide +kernel) (by decide +kernel)
theorem ml_X5_30 : Cond.methodLink RX5 30 Lib.Math.min.name ∈ tk_TS := tk_in 392 (by decide +kernel) (by decide +kernel)
theorem ml_X6_3 : Cond.methodLink RX6 3 objectInit ∈ tk_TS := tk_in 169 (by decide +kernel) (by decide +kernel)
theorem ml_X6_15 : Cond.methodLink RX6 15 yX2_canPass ∈ tk_TS := tk_in 417 (by decide +kernel) (by decide +kernel)
theorem ml_X6_27 : Cond.methodLink RX6 27 yX6_spread ∈ tk_TS := tk_in 421 (by decide +kernel) (by decide +kernel)
theorem ml_X6_31 : Cond.methodLink RX6 31 yX6_doorNearer ∈ tk_TS := tk_in 429 (by decide +kernel) (by decide +kernel)
theorem ml_X6_38 : Cond.methodLink RX6 38 yX2_isAt ∈ tk_TS := tk_in 433 (by decide +kernel) (by decide +kernel)
theorem ml_L_9 : Cond.methodLink RL 9 yX7_init ∈ tk_TS := tk_in 54 (by decide +kernel) (by decide +kernel)
theorem ml_L_12 : Cond.methodLink RL 12 yX8_init ∈ tk_TS := tk_in 611 (by decide +kernel) (by decide +kernel)
theorem ml_L_13 : Cond.methodLink RL 13 yX7_door ∈ tk_TS := tk_in 270 (by decide +kernel) (by decide +kernel)
theorem ml_L_17 : Cond.methodLink RL 17 yX8_door ∈ tk_TS := tk_in 691 (by decide +kernel) (by decide +kernel)
theorem ml_L_18 : Cond.methodLink RL 18 yX7_key ∈ tk_TS := tk_in 287 (by decide +kernel) (by decide +kernel)
theorem ml_L_22 : Cond.methodLink RL 22 yX8_key ∈ tk_TS := tk_in 706 (by decide +kernel) (by decide +kernel)
theorem ml_L_23 : Cond.methodLink RL 23 yX7_told ∈ tk_TS := tk_in 298 (by decide +kernel) (by decide +kernel)
theorem ml_L_26 : Cond.methodLink RL 26 yX8_told ∈ tk_TS := tk_in 711 (by decide +kernel) (by decide +kernel)
theorem ml_L_27 : Cond.methodLink RL 27 yX7_of ∈ tk_TS := tk_in 306 (by decide +kernel) (by decide +kernel)
theorem ml_L_30 : Cond.methodLink RL 30 yX8_of ∈ tk_TS := tk_in 719 (by decide +kernel) (by decide +kernel)
theorem ml_L_33 : Cond.methodLink RL 33 yX7_type ∈ tk_TS := tk_in 314 (by decide +kernel) (by decide +kernel)
theorem ml_L_37 : Cond.methodLink RL 37 yX8_type ∈ tk_TS := tk_in 735 (by decide +kernel) (by decide +kernel)
theorem ml_L_38 : Cond.methodLink RL 38 yX7_house ∈ tk_TS := tk_in 325 (by decide +kernel) (by decide +kernel)
theorem ml_L_42 : Cond.methodLink RL 42 yX8_house ∈ tk_TS := tk_in 742 (by decide +kernel) (by decide +kernel)
theorem ml_L_43 : Cond.methodLink RL 43 yX7_week ∈ tk_TS := tk_in 372 (by decide +kernel) (by decide +kernel)
theorem ml_L_46 : Cond.methodLink RL 46 yX8_week ∈ tk_TS := tk_in 776 (by decide +kernel) (by decide +kernel)
theorem ml_L_47 : Cond.methodLink RL 47 yX7_count ∈ tk_TS := tk_in 457 (by decide +kernel) (by decide +kernel)
theorem ml_L_51 : Cond.methodLink RL 51 yX8_count ∈ tk_TS := tk_in 724 (by decide +kernel) (by decide +kernel)
theorem ml_L_52 : Cond.methodLink RL 52 yX7_visit ∈ tk_TS := tk_in 485 (by decide +kernel) (by decide +kernel)
theorem ml_L_55 : Cond.methodLink RL 55 yX8_visit ∈ tk_TS := tk_in 852 (by decide +kernel) (by decide +kernel)
theorem ml_L_56 : Cond.methodLink RL 56 yX7_wash ∈ tk_TS := tk_in 486 (by decide +kernel) (by decide +kernel)
theorem ml_L_59 : Cond.methodLink RL 59 yX8_wash ∈ tk_TS := tk_in 853 (by decide +kernel) (by decide +kernel)
theorem ml_L_60 : Cond.methodLink RL 60 yX7_change ∈ tk_TS := tk_in 487 (by decide +kernel) (by decide +kernel)
theorem ml_L_63 : Cond.methodLink RL 63 yX8_change ∈ tk_TS := tk_in 854 (by decide +kernel) (by decide +kernel)
theorem ml_L_64 : Cond.methodLink RL 64 yX7_next ∈ tk_TS := tk_in 488 (by decide +kernel) (by decide +kernel)
theorem ml_L_67 : Cond.methodLink RL 67 yX8_next ∈ tk_TS := tk_in 855 (by decide +kernel) (by decide +kernel)
theorem ml_L_68 : Cond.methodLink RL 68 yX7_shown ∈ tk_TS := tk_in 489 (by decide +kernel) (by decide +kernel)
theorem ml_L_71 : Cond.methodLink RL 71 yX8_shown ∈ tk_TS := tk_in 856 (by decide +kernel) (by decide +kernel)
theorem ml_L_72 : Cond.methodLink RL 72 yX7_seen ∈ tk_TS := tk_in 498 (by decide +kernel) (by decide +kernel)
theorem ml_L_75 : Cond.methodLink RL 75 yX8_seen ∈ tk_TS := tk_in 861 (by decide +kernel) (by decide +kernel)
theorem ml_L_76 : Cond.methodLink RL 76 yX7_reach ∈ tk_TS := tk_in 502 (by decide +kernel) (by decide +kernel)
theorem ml_L_79 : Cond.methodLink RL 79 yX8_reach ∈ tk_TS := tk_in 865 (by decide +kernel) (by decide +kernel)
theorem ml_L_80 : Cond.methodLink RL 80 yX7_fits ∈ tk_TS := tk_in 506 (by decide +kernel) (by decide +kernel)
theorem ml_L_83 : Cond.methodLink RL 83 yX8_fits ∈ tk_TS := tk_in 869 (by decide +kernel) (by decide +kernel)
theorem ml_L_84 : Cond.methodLink RL 84 yX7_been ∈ tk_TS := tk_in 514 (by decide +kernel) (by decide +kernel)
theorem ml_L_87 : Cond.methodLink RL 87 yX8_been ∈ tk_TS := tk_in 875 (by decide +kernel) (by decide +kernel)
theorem ml_L_88 : Cond.methodLink RL 88 yX7_look ∈ tk_TS := tk_in 519 (by decide +kernel) (by decide +kernel)
theorem ml_L_91 : Cond.methodLink RL 91 yX8_look ∈ tk_TS := tk_in 880 (by decide +kernel) (by decide +kernel)
theorem ml_L_92 : Cond.methodLink RL 92 yX7_image ∈ tk_TS := tk_in 529 (by decide +kernel) (by decide +kernel)
theorem ml_L_95 : Cond.methodLink RL 95 yX8_image ∈ tk_TS := tk_in 887 (by decide +kernel) (by decide +kernel)
theorem ml_L_96 : Cond.methodLink RL 96 yX7_restore ∈ tk_TS := tk_in 538 (by decide +kernel) (by decide +kernel)
theorem ml_L_99 : Cond.methodLink RL 99 yX8_restore ∈ tk_TS := tk_in 895 (by decide +kernel) (by decide +kernel)
theorem ml_L_100 : Cond.methodLink RL 100 yX7_asked ∈ tk_TS := tk_in 542 (by decide +kernel) (by decide +kernel)
theorem ml_L_104 : Cond.methodLink RL 104 yX8_asked ∈ tk_TS := tk_in 921 (by decide +kernel) (by decide +kernel)
theorem ml_L_105 : Cond.methodLink RL 105 yX7_film ∈ tk_TS := tk_in 580 (by decide +kernel) (by decide +kernel)
theorem ml_L_108 : Cond.methodLink RL 108 yX8_film ∈ tk_TS := tk_in 942 (by decide +kernel) (by decide +kernel)
theorem ml_L_109 : Cond.methodLink RL 109 yX7_sheet ∈ tk_TS := tk_in 588 (by decide +kernel) (by decide +kernel)
theorem ml_L_112 : Cond.methodLink RL 112 yX8_sheet ∈ tk_TS := tk_in 899 (by decide +kernel) (by decide +kernel)
theorem ml_L_113 : Cond.methodLink RL 113 yX7_drop ∈ tk_TS := tk_in 596 (by decide +kernel) (by decide +kernel)
theorem ml_L_116 : Cond.methodLink RL 116 yX8_drop ∈ tk_TS := tk_in 906 (by decide +kernel) (by decide +kernel)
theorem ml_L_117 : Cond.methodLink RL 117 yX7_item ∈ tk_TS := tk_in 600 (by decide +kernel) (by decide +kernel)
theorem ml_L_121 : Cond.methodLink RL 121 yX8_item ∈ tk_TS := tk_in 910 (by decide +kernel) (by decide +kernel)
theorem ml_L_122 : Cond.methodLink RL 122 yX7_copy ∈ tk_TS := tk_in 604 (by decide +kernel) (by decide +kernel)
theorem ml_L_125 : Cond.methodLink RL 125 yX8_copy ∈ tk_TS := tk_in 946 (by decide +kernel) (by decide +kernel)
theorem ml_X8_1 : Cond.methodLink RX8 1 objectInit ∈ tk_TS := tk_in 614 (by decide +kernel) (by decide +kernel)
theorem ml_X8_66 : Cond.methodLink RX8 66 yX8_in ∈ tk_TS := tk_in 699 (by decide +kernel) (by decide +kernel)
theorem ml_X8_74 : Cond.methodLink RX8 74 yX8_isPlace ∈ tk_TS := tk_in 695 (by decide +kernel) (by decide +kernel)
theorem ml_X8_78 : Cond.methodLink RX8 78 yX8_canJoin ∈ tk_TS := tk_in 702 (by decide +kernel) (by decide +kernel)
theorem ml_X8_89 : Cond.methodLink RX8 89 yX8_isKey ∈ tk_TS := tk_in 715 (by decide +kernel) (by decide +kernel)
theorem ml_X8_94 : Cond.methodLink RX8 94 yX8_shownOf ∈ tk_TS := tk_in 732 (by decide +kernel) (by decide +kernel)
theorem ml_X8_101 : Cond.methodLink RX8 101 yX8_shownBy ∈ tk_TS := tk_in 728 (by decide +kernel) (by decide +kernel)
theorem ml_X8_117 : Cond.methodLink RX8 117 yX8_nextByte ∈ tk_TS := tk_in 754 (by decide +kernel) (by decide +kernel)
theorem ml_X8_125 : Cond.methodLink RX8 125 yX8_signOf ∈ tk_TS := tk_in 758 (by decide +kernel) (by decide +kernel)
theorem ml_X8_129 : Cond.methodLink RX8 129 yX8_takes ∈ tk_TS := tk_in 764 (by decide +kernel) (by decide +kernel)
theorem ml_X8_132 : Cond.methodLink RX8 132 yX8_readDigit ∈ tk_TS := tk_in 768 (by decide +kernel) (by decide +kernel)
theorem ml_X8_135 : Cond.methodLink RX8 135 yX8_readDoor ∈ tk_TS := tk_in 750 (by decide +kernel) (by decide +kernel)
theorem ml_X8_141 : Cond.methodLink RX8 141 yX8_readHouse ∈ tk_TS := tk_in 746 (by decide +kernel) (by decide +kernel)
theorem ml_X8_145 : Cond.methodLink RX8 145 yX8_end ∈ tk_TS := tk_in 772 (by decide +kernel) (by decide +kernel)
theorem ml_X8_149 : Cond.methodLink RX8 149 yX8_readMinutes ∈ tk_TS := tk_in 792 (by decide +kernel) (by decide +kernel)
theorem ml_X8_152 : Cond.methodLink RX8 152 yX8_readVisit ∈ tk_TS := tk_in 788 (by decide +kernel) (by decide +kernel)
theorem ml_X8_155 : Cond.methodLink RX8 155 yX8_readWash ∈ tk_TS := tk_in 796 (by decide +kernel) (by decide +kernel)
theorem ml_X8_158 : Cond.methodLink RX8 158 yX8_readChange ∈ tk_TS := tk_in 800 (by decide +kernel) (by decide +kernel)
theorem ml_X8_161 : Cond.methodLink RX8 161 yX8_readAct ∈ tk_TS := tk_in 784 (by decide +kernel) (by decide +kernel)
theorem ml_X8_164 : Cond.methodLink RX8 164 yX8_visit ∈ tk_TS := tk_in 808 (by decide +kernel) (by decide +kernel)
theorem ml_X8_167 : Cond.methodLink RX8 167 yX8_wash ∈ tk_TS := tk_in 839 (by decide +kernel) (by decide +kernel)
theorem ml_X8_170 : Cond.methodLink RX8 170 yX8_change ∈ tk_TS := tk_in 843 (by decide +kernel) (by decide +kernel)
theorem ml_X8_173 : Cond.methodLink RX8 173 yX8_next ∈ tk_TS := tk_in 848 (by decide +kernel) (by decide +kernel)
theorem ml_X8_176 : Cond.methodLink RX8 176 yX8_readWeek ∈ tk_TS := tk_in 780 (by decide +kernel) (by decide +kernel)
theorem ml_X8_179 : Cond.methodLink RX8 179 yX8_does ∈ tk_TS := tk_in 804 (by decide +kernel) (by decide +kernel)
theorem ml_X8_182 : Cond.methodLink RX8 182 yX8_doorOf ∈ tk_TS := tk_in 824 (by decide +kernel) (by decide +kernel)
theorem ml_X8_185 : Cond.methodLink RX8 185 yX8_has ∈ tk_TS := tk_in 828 (by decide +kernel) (by decide +kernel)
theorem ml_X8_188 : Cond.methodLink RX8 188 yX8_isSister ∈ tk_TS := tk_in 812 (by decide +kernel) (by decide +kernel)
theorem ml_X8_193 : Cond.methodLink RX8 193 yX8_ringOf ∈ tk_TS := tk_in 816 (by decide +kernel) (by decide +kernel)
theorem ml_X8_197 : Cond.methodLink RX8 197 yX8_findFars ∈ tk_TS := tk_in 820 (by decide +kernel) (by decide +kernel)
theorem ml_X8_201 : Cond.methodLink RX8 201 yX8_isNext ∈ tk_TS := tk_in 831 (by decide +kernel) (by decide +kernel)
theorem ml_X8_205 : Cond.methodLink RX8 205 yX8_stain ∈ tk_TS := tk_in 835 (by decide +kernel) (by decide +kernel)
theorem ml_X8_218 : Cond.methodLink RX8 218 yX8_gains ∈ tk_TS := tk_in 884 (by decide +kernel) (by decide +kernel)
theorem ml_X8_222 : Cond.methodLink RX8 222 yX8_carried ∈ tk_TS := tk_in 891 (by decide +kernel) (by decide +kernel)
theorem ml_X8_230 : Cond.methodLink RX8 230 yX8_isSheet ∈ tk_TS := tk_in 903 (by decide +kernel) (by decide +kernel)
theorem ml_X8_233 : Cond.methodLink RX8 233 yX8_lacksRow ∈ tk_TS := tk_in 914 (by decide +kernel) (by decide +kernel)
theorem ml_X8_236 : Cond.methodLink RX8 236 yX8_asLane ∈ tk_TS := tk_in 918 (by decide +kernel) (by decide +kernel)
theorem ml_X8_241 : Cond.methodLink RX8 241 yX8_areTold ∈ tk_TS := tk_in 926 (by decide +kernel) (by decide +kernel)
theorem ml_X8_244 : Cond.methodLink RX8 244 yX8_areClean ∈ tk_TS := tk_in 930 (by decide +kernel) (by decide +kernel)
theorem ml_X8_247 : Cond.methodLink RX8 247 yX8_rings ∈ tk_TS := tk_in 934 (by decide +kernel) (by decide +kernel)
theorem ml_X8_250 : Cond.methodLink RX8 250 yX8_nextOrder ∈ tk_TS := tk_in 938 (by decide +kernel) (by decide +kernel)
theorem kl_X8_64 : Cond.constantLong RX8 64 (10) ∈ tk_TS := tk_in 698 (by decide +kernel) (by decide +kernel)
theorem kl_X8_82 : Cond.constantLong RX8 82 (8) ∈ tk_TS := tk_in 705 (by decide +kernel) (by decide +kernel)
theorem kl_X8_87 : Cond.constantLong RX8 87 (3) ∈ tk_TS := tk_in 710 (by decide +kernel) (by decide +kernel)
theorem kl_X8_92 : Cond.constantLong RX8 92 (2) ∈ tk_TS := tk_in 723 (by decide +kernel) (by decide +kernel)
theorem kl_X8_105 : Cond.constantLong RX8 105 (255) ∈ tk_TS := tk_in 739 (by decide +kernel) (by decide +kernel)
theorem kl_X8_107 : Cond.constantLong RX8 107 (32) ∈ tk_TS := tk_in 740 (by decide +kernel) (by decide +kernel)
theorem kl_X8_109 : Cond.constantLong RX8 109 (126) ∈ tk_TS := tk_in 741 (by decide +kernel) (by decide +kernel)
theorem kl_X8_121 : Cond.constantLong RX8 121 (48) ∈ tk_TS := tk_in 762 (by decide +kernel) (by decide +kernel)
theorem kl_X8_123 : Cond.constantLong RX8 123 (57) ∈ tk_TS := tk_in 763 (by decide +kernel) (by decide +kernel)
theorem kl_X8_191 : Cond.constantLong RX8 191 (30) ∈ tk_TS := tk_in 815 (by decide +kernel) (by decide +kernel)
theorem kl_X8_208 : Cond.constantLong RX8 208 (4) ∈ tk_TS := tk_in 847 (by decide +kernel) (by decide +kernel)
theorem kl_X8_210 : Cond.constantLong RX8 210 (999) ∈ tk_TS := tk_in 860 (by decide +kernel) (by decide +kernel)
theorem kl_X8_212 : Cond.constantLong RX8 212 (-1) ∈ tk_TS := tk_in 873 (by decide +kernel) (by decide +kernel)
theorem kl_X8_214 : Cond.constantLong RX8 214 (16) ∈ tk_TS := tk_in 874 (by decide +kernel) (by decide +kernel)
theorem kl_X8_216 : Cond.constantLong RX8 216 (99) ∈ tk_TS := tk_in 879 (by decide +kernel) (by decide +kernel)
theorem kl_X8_239 : Cond.constantLong RX8 239 (6) ∈ tk_TS := tk_in 925 (by decide +kernel) (by decide +kernel)
theorem kl_L_31 : Cond.constantLong RL 31 (4294967295) ∈ tk_TS := tk_in 950 (by decide +kernel) (by decide +kernel)
end
