-- ===== PART A: goes FIRST, ahead of the names: the tables' words, and 'selects' of the private methods out of them =====
/-- a private method of a class that the tables say can be made, by its rows of tables_1 -/
def lw_okq (q : MethodName × Nat) : Prop := (q.1.cls ≠ "java/lang/invoke/MethodHandle" ∧ q.1.cls ≠ "java/lang/invoke/VarHandle") ∧ Cond.instantiable q.1.cls q.2 ∈ tables_1 ∧ Cond.privateMethod q.1 ∈ tables_1 ∧ Cond.instanceMethod q.1 ∈ tables_1
theorem lw_p0 : lw_okq (⟨"TellKeys", "readHouse", "()I"⟩, 13) := ⟨⟨by decide +kernel, by decide +kernel⟩, List.mem_of_getElem? (i := 13) (by decide +kernel), List.mem_of_getElem? (i := 290) (by decide +kernel), List.mem_of_getElem? (i := 291) (by decide +kernel)⟩
theorem lw_p1 : lw_okq (⟨"TellKeys", "readDoor", "()Z"⟩, 13) := ⟨⟨by decide +kernel, by decide +kernel⟩, List.mem_of_getElem? (i := 13) (by decide +kernel), List.mem_of_getElem? (i := 294) (by decide +kernel), List.mem_of_getElem? (i := 295) (by decide +kernel)⟩
theorem lw_p2 : lw_okq (⟨"TellKeys", "readWeek", "(Z)I"⟩, 13) := ⟨⟨by decide +kernel, by decide +kernel⟩, List.mem_of_getElem? (i := 13) (by decide +kernel), List.mem_of_getElem? (i := 337) (by decide +kernel), List.mem_of_getElem? (i := 338) (by decide +kernel)⟩
theorem lw_p3 : lw_okq (⟨"TellKeys", "readAct", "()Z"⟩, 13) := ⟨⟨by decide +kernel, by decide +kernel⟩, List.mem_of_getElem? (i := 13) (by decide +kernel), List.mem_of_getElem? (i := 341) (by decide +kernel), List.mem_of_getElem? (i := 342) (by decide +kernel)⟩
theorem lw_p4 : lw_okq (⟨"TellKeys", "readVisit", "()Z"⟩, 13) := ⟨⟨by decide +kernel, by decide +kernel⟩, List.mem_of_getElem? (i := 13) (by decide +kernel), List.mem_of_getElem? (i := 345) (by decide +kernel), List.mem_of_getElem? (i := 346) (by decide +kernel)⟩
theorem lw_p5 : lw_okq (⟨"TellKeys", "doAct", "()Z"⟩, 13) := ⟨⟨by decide +kernel, by decide +kernel⟩, List.mem_of_getElem? (i := 13) (by decide +kernel), List.mem_of_getElem? (i := 356) (by decide +kernel), List.mem_of_getElem? (i := 357) (by decide +kernel)⟩
theorem lw_p6 : lw_okq (⟨"TellKeys$Ways", "spread", "(III)V"⟩, 1) := ⟨⟨by decide +kernel, by decide +kernel⟩, List.mem_of_getElem? (i := 125) (by decide +kernel), List.mem_of_getElem? (i := 382) (by decide +kernel), List.mem_of_getElem? (i := 383) (by decide +kernel)⟩
theorem lw_p7 : lw_okq (⟨"TellKeys$Ways", "doorNearer", "(LTellKeys$Doors;III)I"⟩, 1) := ⟨⟨by decide +kernel, by decide +kernel⟩, List.mem_of_getElem? (i := 125) (by decide +kernel), List.mem_of_getElem? (i := 390) (by decide +kernel), List.mem_of_getElem? (i := 391) (by decide +kernel)⟩
theorem lw_p8 : lw_okq (⟨"TellKeys", "isDayAhead", "(I)Z"⟩, 13) := ⟨⟨by decide +kernel, by decide +kernel⟩, List.mem_of_getElem? (i := 13) (by decide +kernel), List.mem_of_getElem? (i := 454) (by decide +kernel), List.mem_of_getElem? (i := 455) (by decide +kernel)⟩
theorem lw_p9 : lw_okq (⟨"TellKeys", "refusalOf", "(II)I"⟩, 13) := ⟨⟨by decide +kernel, by decide +kernel⟩, List.mem_of_getElem? (i := 13) (by decide +kernel), List.mem_of_getElem? (i := 507) (by decide +kernel), List.mem_of_getElem? (i := 508) (by decide +kernel)⟩
theorem lw_p10 : lw_okq (⟨"TellKeys", "takeAsked", "(LTellKeys$Sheet;II)Z"⟩, 13) := ⟨⟨by decide +kernel, by decide +kernel⟩, List.mem_of_getElem? (i := 13) (by decide +kernel), List.mem_of_getElem? (i := 521) (by decide +kernel), List.mem_of_getElem? (i := 522) (by decide +kernel)⟩
theorem lw_p11 : lw_okq (⟨"TellKeys", "cleanFor", "(I)I"⟩, 13) := ⟨⟨by decide +kernel, by decide +kernel⟩, List.mem_of_getElem? (i := 13) (by decide +kernel), List.mem_of_getElem? (i := 525) (by decide +kernel), List.mem_of_getElem? (i := 526) (by decide +kernel)⟩
theorem lw_p12 : lw_okq (⟨"TellKeys$Asking", "changesTo", "()I"⟩, 7) := ⟨⟨by decide +kernel, by decide +kernel⟩, List.mem_of_getElem? (i := 136) (by decide +kernel), List.mem_of_getElem? (i := 536) (by decide +kernel), List.mem_of_getElem? (i := 537) (by decide +kernel)⟩
theorem lw_p13 : lw_okq (⟨"TellKeysModel", "isKey", "(I)Z"⟩, 25) := ⟨⟨by decide +kernel, by decide +kernel⟩, List.mem_of_getElem? (i := 570) (by decide +kernel), List.mem_of_getElem? (i := 676) (by decide +kernel), List.mem_of_getElem? (i := 677) (by decide +kernel)⟩
theorem lw_p14 : lw_okq (⟨"TellKeysModel", "shownBy", "(II)I"⟩, 25) := ⟨⟨by decide +kernel, by decide +kernel⟩, List.mem_of_getElem? (i := 570) (by decide +kernel), List.mem_of_getElem? (i := 689) (by decide +kernel), List.mem_of_getElem? (i := 690) (by decide +kernel)⟩
theorem lw_p15 : lw_okq (⟨"TellKeysModel", "readHouse", "()Z"⟩, 25) := ⟨⟨by decide +kernel, by decide +kernel⟩, List.mem_of_getElem? (i := 570) (by decide +kernel), List.mem_of_getElem? (i := 707) (by decide +kernel), List.mem_of_getElem? (i := 708) (by decide +kernel)⟩
def lw_privs_1 : List (MethodName × Nat) := [(⟨"TellKeys", "readHouse", "()I"⟩, 13), (⟨"TellKeys", "readDoor", "()Z"⟩, 13), (⟨"TellKeys", "readWeek", "(Z)I"⟩, 13), (⟨"TellKeys", "readAct", "()Z"⟩, 13), (⟨"TellKeys", "readVisit", "()Z"⟩, 13), (⟨"TellKeys", "doAct", "()Z"⟩, 13), (⟨"TellKeys$Ways", "spread", "(III)V"⟩, 1), (⟨"TellKeys$Ways", "doorNearer", "(LTellKeys$Doors;III)I"⟩, 1), (⟨"TellKeys", "isDayAhead", "(I)Z"⟩, 13), (⟨"TellKeys", "refusalOf", "(II)I"⟩, 13), (⟨"TellKeys", "takeAsked", "(LTellKeys$Sheet;II)Z"⟩, 13), (⟨"TellKeys", "cleanFor", "(I)I"⟩, 13), (⟨"TellKeys$Asking", "changesTo", "()I"⟩, 7), (⟨"TellKeysModel", "isKey", "(I)Z"⟩, 25), (⟨"TellKeysModel", "shownBy", "(II)I"⟩, 25), (⟨"TellKeysModel", "readHouse", "()Z"⟩, 25)]
theorem lw_r1 : ∀ q ∈ lw_privs_1, lw_okq q := List.forall_mem_cons.mpr ⟨lw_p0, List.forall_mem_cons.mpr ⟨lw_p1, List.forall_mem_cons.mpr ⟨lw_p2, List.forall_mem_cons.mpr ⟨lw_p3, List.forall_mem_cons.mpr ⟨lw_p4, List.forall_mem_cons.mpr ⟨lw_p5, List.forall_mem_cons.mpr ⟨lw_p6, List.forall_mem_cons.mpr ⟨lw_p7, List.forall_mem_cons.mpr ⟨lw_p8, List.forall_mem_cons.mpr ⟨lw_p9, List.forall_mem_cons.mpr ⟨lw_p10, List.forall_mem_cons.mpr ⟨lw_p11, List.forall_mem_cons.mpr ⟨lw_p12, List.forall_mem_cons.mpr ⟨lw_p13, List.forall_mem_cons.mpr ⟨lw_p14, List.forall_mem_cons.mpr ⟨lw_p15, fun _ h => absurd h List.not_mem_nil⟩⟩⟩⟩⟩⟩⟩⟩⟩⟩⟩⟩⟩⟩⟩⟩
theorem lw_p16 : lw_okq (⟨"TellKeysModel", "readDoor", "(I)Z"⟩, 25) := ⟨⟨by decide +kernel, by decide +kernel⟩, List.mem_of_getElem? (i := 570) (by decide +kernel), List.mem_of_getElem? (i := 711) (by decide +kernel), List.mem_of_getElem? (i := 712) (by decide +kernel)⟩
theorem lw_p17 : lw_okq (⟨"TellKeysModel", "nextByte", "()I"⟩, 25) := ⟨⟨by decide +kernel, by decide +kernel⟩, List.mem_of_getElem? (i := 570) (by decide +kernel), List.mem_of_getElem? (i := 715) (by decide +kernel), List.mem_of_getElem? (i := 716) (by decide +kernel)⟩
theorem lw_p18 : lw_okq (⟨"TellKeysModel", "signOf", "(I)I"⟩, 25) := ⟨⟨by decide +kernel, by decide +kernel⟩, List.mem_of_getElem? (i := 570) (by decide +kernel), List.mem_of_getElem? (i := 719) (by decide +kernel), List.mem_of_getElem? (i := 720) (by decide +kernel)⟩
theorem lw_p19 : lw_okq (⟨"TellKeysModel", "takes", "(I)Z"⟩, 25) := ⟨⟨by decide +kernel, by decide +kernel⟩, List.mem_of_getElem? (i := 570) (by decide +kernel), List.mem_of_getElem? (i := 725) (by decide +kernel), List.mem_of_getElem? (i := 726) (by decide +kernel)⟩
theorem lw_p20 : lw_okq (⟨"TellKeysModel", "readDigit", "(I)I"⟩, 25) := ⟨⟨by decide +kernel, by decide +kernel⟩, List.mem_of_getElem? (i := 570) (by decide +kernel), List.mem_of_getElem? (i := 729) (by decide +kernel), List.mem_of_getElem? (i := 730) (by decide +kernel)⟩
theorem lw_p21 : lw_okq (⟨"TellKeysModel", "end", "(Z)I"⟩, 25) := ⟨⟨by decide +kernel, by decide +kernel⟩, List.mem_of_getElem? (i := 570) (by decide +kernel), List.mem_of_getElem? (i := 733) (by decide +kernel), List.mem_of_getElem? (i := 734) (by decide +kernel)⟩
theorem lw_p22 : lw_okq (⟨"TellKeysModel", "readWeek", "()Z"⟩, 25) := ⟨⟨by decide +kernel, by decide +kernel⟩, List.mem_of_getElem? (i := 570) (by decide +kernel), List.mem_of_getElem? (i := 741) (by decide +kernel), List.mem_of_getElem? (i := 742) (by decide +kernel)⟩
theorem lw_p23 : lw_okq (⟨"TellKeysModel", "readAct", "(I)Z"⟩, 25) := ⟨⟨by decide +kernel, by decide +kernel⟩, List.mem_of_getElem? (i := 570) (by decide +kernel), List.mem_of_getElem? (i := 745) (by decide +kernel), List.mem_of_getElem? (i := 746) (by decide +kernel)⟩
theorem lw_p24 : lw_okq (⟨"TellKeysModel", "readVisit", "(I)Z"⟩, 25) := ⟨⟨by decide +kernel, by decide +kernel⟩, List.mem_of_getElem? (i := 570) (by decide +kernel), List.mem_of_getElem? (i := 749) (by decide +kernel), List.mem_of_getElem? (i := 750) (by decide +kernel)⟩
theorem lw_p25 : lw_okq (⟨"TellKeysModel", "readMinutes", "()I"⟩, 25) := ⟨⟨by decide +kernel, by decide +kernel⟩, List.mem_of_getElem? (i := 570) (by decide +kernel), List.mem_of_getElem? (i := 753) (by decide +kernel), List.mem_of_getElem? (i := 754) (by decide +kernel)⟩
theorem lw_p26 : lw_okq (⟨"TellKeysModel", "readWash", "(I)Z"⟩, 25) := ⟨⟨by decide +kernel, by decide +kernel⟩, List.mem_of_getElem? (i := 570) (by decide +kernel), List.mem_of_getElem? (i := 757) (by decide +kernel), List.mem_of_getElem? (i := 758) (by decide +kernel)⟩
theorem lw_p27 : lw_okq (⟨"TellKeysModel", "readChange", "(I)Z"⟩, 25) := ⟨⟨by decide +kernel, by decide +kernel⟩, List.mem_of_getElem? (i := 570) (by decide +kernel), List.mem_of_getElem? (i := 761) (by decide +kernel), List.mem_of_getElem? (i := 762) (by decide +kernel)⟩
theorem lw_p28 : lw_okq (⟨"TellKeysModel", "does", "(I)Z"⟩, 25) := ⟨⟨by decide +kernel, by decide +kernel⟩, List.mem_of_getElem? (i := 570) (by decide +kernel), List.mem_of_getElem? (i := 765) (by decide +kernel), List.mem_of_getElem? (i := 766) (by decide +kernel)⟩
theorem lw_p29 : lw_okq (⟨"TellKeysModel", "ringOf", "(IZ)I"⟩, 25) := ⟨⟨by decide +kernel, by decide +kernel⟩, List.mem_of_getElem? (i := 570) (by decide +kernel), List.mem_of_getElem? (i := 777) (by decide +kernel), List.mem_of_getElem? (i := 778) (by decide +kernel)⟩
theorem lw_p30 : lw_okq (⟨"TellKeysModel", "findFars", "(II)V"⟩, 25) := ⟨⟨by decide +kernel, by decide +kernel⟩, List.mem_of_getElem? (i := 570) (by decide +kernel), List.mem_of_getElem? (i := 781) (by decide +kernel), List.mem_of_getElem? (i := 782) (by decide +kernel)⟩
theorem lw_p31 : lw_okq (⟨"TellKeysModel", "doorOf", "(I)I"⟩, 25) := ⟨⟨by decide +kernel, by decide +kernel⟩, List.mem_of_getElem? (i := 570) (by decide +kernel), List.mem_of_getElem? (i := 785) (by decide +kernel), List.mem_of_getElem? (i := 786) (by decide +kernel)⟩
def lw_privs_2 : List (MethodName × Nat) := [(⟨"TellKeysModel", "readDoor", "(I)Z"⟩, 25), (⟨"TellKeysModel", "nextByte", "()I"⟩, 25), (⟨"TellKeysModel", "signOf", "(I)I"⟩, 25), (⟨"TellKeysModel", "takes", "(I)Z"⟩, 25), (⟨"TellKeysModel", "readDigit", "(I)I"⟩, 25), (⟨"TellKeysModel", "end", "(Z)I"⟩, 25), (⟨"TellKeysModel", "readWeek", "()Z"⟩, 25), (⟨"TellKeysModel", "readAct", "(I)Z"⟩, 25), (⟨"TellKeysModel", "readVisit", "(I)Z"⟩, 25), (⟨"TellKeysModel", "readMinutes", "()I"⟩, 25), (⟨"TellKeysModel", "readWash", "(I)Z"⟩, 25), (⟨"TellKeysModel", "readChange", "(I)Z"⟩, 25), (⟨"TellKeysModel", "does", "(I)Z"⟩, 25), (⟨"TellKeysModel", "ringOf", "(IZ)I"⟩, 25), (⟨"TellKeysModel", "findFars", "(II)V"⟩, 25), (⟨"TellKeysModel", "doorOf", "(I)I"⟩, 25)]
theorem lw_r2 : ∀ q ∈ lw_privs_2, lw_okq q := List.forall_mem_cons.mpr ⟨lw_p16, List.forall_mem_cons.mpr ⟨lw_p17, List.forall_mem_cons.mpr ⟨lw_p18, List.forall_mem_cons.mpr ⟨lw_p19, List.forall_mem_cons.mpr ⟨lw_p20, List.forall_mem_cons.mpr ⟨lw_p21, List.forall_mem_cons.mpr ⟨lw_p22, List.forall_mem_cons.mpr ⟨lw_p23, List.forall_mem_cons.mpr ⟨lw_p24, List.forall_mem_cons.mpr ⟨lw_p25, List.forall_mem_cons.mpr ⟨lw_p26, List.forall_mem_cons.mpr ⟨lw_p27, List.forall_mem_cons.mpr ⟨lw_p28, List.forall_mem_cons.mpr ⟨lw_p29, List.forall_mem_cons.mpr ⟨lw_p30, List.forall_mem_cons.mpr ⟨lw_p31, fun _ h => absurd h List.not_mem_nil⟩⟩⟩⟩⟩⟩⟩⟩⟩⟩⟩⟩⟩⟩⟩⟩
theorem lw_p32 : lw_okq (⟨"TellKeysModel", "isNext", "(III)Z"⟩, 25) := ⟨⟨by decide +kernel, by decide +kernel⟩, List.mem_of_getElem? (i := 570) (by decide +kernel), List.mem_of_getElem? (i := 792) (by decide +kernel), List.mem_of_getElem? (i := 793) (by decide +kernel)⟩
theorem lw_p33 : lw_okq (⟨"TellKeysModel", "stain", "(II)V"⟩, 25) := ⟨⟨by decide +kernel, by decide +kernel⟩, List.mem_of_getElem? (i := 570) (by decide +kernel), List.mem_of_getElem? (i := 796) (by decide +kernel), List.mem_of_getElem? (i := 797) (by decide +kernel)⟩
theorem lw_p34 : lw_okq (⟨"TellKeysModel", "carried", "(IIZ)I"⟩, 25) := ⟨⟨by decide +kernel, by decide +kernel⟩, List.mem_of_getElem? (i := 570) (by decide +kernel), List.mem_of_getElem? (i := 852) (by decide +kernel), List.mem_of_getElem? (i := 853) (by decide +kernel)⟩
theorem lw_p35 : lw_okq (⟨"TellKeysModel", "lacksRow", "(IIII)I"⟩, 25) := ⟨⟨by decide +kernel, by decide +kernel⟩, List.mem_of_getElem? (i := 570) (by decide +kernel), List.mem_of_getElem? (i := 875) (by decide +kernel), List.mem_of_getElem? (i := 876) (by decide +kernel)⟩
theorem lw_p36 : lw_okq (⟨"TellKeysModel", "areTold", "(II)Z"⟩, 25) := ⟨⟨by decide +kernel, by decide +kernel⟩, List.mem_of_getElem? (i := 570) (by decide +kernel), List.mem_of_getElem? (i := 887) (by decide +kernel), List.mem_of_getElem? (i := 888) (by decide +kernel)⟩
theorem lw_p37 : lw_okq (⟨"TellKeysModel", "areClean", "(II)Z"⟩, 25) := ⟨⟨by decide +kernel, by decide +kernel⟩, List.mem_of_getElem? (i := 570) (by decide +kernel), List.mem_of_getElem? (i := 891) (by decide +kernel), List.mem_of_getElem? (i := 892) (by decide +kernel)⟩
theorem lw_p38 : lw_okq (⟨"TellKeysModel", "rings", "(I)I"⟩, 25) := ⟨⟨by decide +kernel, by decide +kernel⟩, List.mem_of_getElem? (i := 570) (by decide +kernel), List.mem_of_getElem? (i := 895) (by decide +kernel), List.mem_of_getElem? (i := 896) (by decide +kernel)⟩
theorem lw_p39 : lw_okq (⟨"TellKeysModel", "nextOrder", "(I)Z"⟩, 25) := ⟨⟨by decide +kernel, by decide +kernel⟩, List.mem_of_getElem? (i := 570) (by decide +kernel), List.mem_of_getElem? (i := 899) (by decide +kernel), List.mem_of_getElem? (i := 900) (by decide +kernel)⟩
def lw_privs_3 : List (MethodName × Nat) := [(⟨"TellKeysModel", "isNext", "(III)Z"⟩, 25), (⟨"TellKeysModel", "stain", "(II)V"⟩, 25), (⟨"TellKeysModel", "carried", "(IIZ)I"⟩, 25), (⟨"TellKeysModel", "lacksRow", "(IIII)I"⟩, 25), (⟨"TellKeysModel", "areTold", "(II)Z"⟩, 25), (⟨"TellKeysModel", "areClean", "(II)Z"⟩, 25), (⟨"TellKeysModel", "rings", "(I)I"⟩, 25), (⟨"TellKeysModel", "nextOrder", "(I)Z"⟩, 25)]
theorem lw_r3 : ∀ q ∈ lw_privs_3, lw_okq q := List.forall_mem_cons.mpr ⟨lw_p32, List.forall_mem_cons.mpr ⟨lw_p33, List.forall_mem_cons.mpr ⟨lw_p34, List.forall_mem_cons.mpr ⟨lw_p35, List.forall_mem_cons.mpr ⟨lw_p36, List.forall_mem_cons.mpr ⟨lw_p37, List.forall_mem_cons.mpr ⟨lw_p38, List.forall_mem_cons.mpr ⟨lw_p39, fun _ h => absurd h List.not_mem_nil⟩⟩⟩⟩⟩⟩⟩⟩
def lw_privs : List (MethodName × Nat) := lw_privs_1 ++ (lw_privs_2 ++ (lw_privs_3))
def lw_tbl : List Cond := k2_sels lw_privs ++ tables_1
theorem lw_privs_ok : ∀ q ∈ lw_privs, lw_okq q := by
  show ∀ q ∈ lw_privs_1 ++ (lw_privs_2 ++ (lw_privs_3)), lw_okq q
  exact List.forall_mem_append.mpr ⟨lw_r1, List.forall_mem_append.mpr ⟨lw_r2, lw_r3⟩⟩
def RX0 : String := "TellKeys$Act"
def TX0 : u_T := fun k => match k with
  | 0 => ("TellKeys$Act", "sign", "I", false)
  | 1 => ("TellKeys$Act", "sister", "I", false)
  | 2 => ("TellKeys$Act", "key", "I", false)
  | 3 => ("TellKeys$Act", "to", "I", false)
  | _ => ("TellKeys$Act", "minutes", "I", false)
def tyX0 : Nat → FieldType := fun k => match k with
  | 0 => .int
  | 1 => .int
  | 2 => .int
  | 3 => .int
  | _ => .int
theorem nmX0 : ∀ a, a < 5 → ∀ b, b < 5 → a ≠ b → (TX0 a).2.1 ≠ (TX0 b).2.1 := by decide +kernel
theorem tyX0_ok : ∀ k, k < 5 → parseFieldDescriptor (TX0 k).2.2.1 = some (tyX0 k) := by decide +kernel
abbrev cX0_init : ByteArray := prog_2_method_1_code
def yX0_init : MethodName := ⟨RX0, "<init>", "()V"⟩
def RX1 : String := "TellKeys$Asking"
def TX1 : u_T := fun k => match k with
  | 0 => ("TellKeys$Asking", "number", "I", false)
  | 1 => ("TellKeys$Asking", "fewest", "I", false)
  | 2 => ("TellKeys$Asking", "key", "[I", true)
  | 3 => ("TellKeys$Asking", "day", "[I", true)
  | 4 => ("TellKeys$Asking", "clean", "[I", true)
  | 5 => ("TellKeys$Asking", "row", "[I", true)
  | _ => ("TellKeys$Asking", "best", "[I", true)
def tyX1 : Nat → FieldType := fun k => match k with
  | 0 => .int
  | 1 => .int
  | 2 => .array .int
  | 3 => .array .int
  | 4 => .array .int
  | 5 => .array .int
  | _ => .array .int
theorem nmX1 : ∀ a, a < 7 → ∀ b, b < 7 → a ≠ b → (TX1 a).2.1 ≠ (TX1 b).2.1 := by decide +kernel
theorem tyX1_ok : ∀ k, k < 7 → parseFieldDescriptor (TX1 k).2.2.1 = some (tyX1 k) := by decide +kernel
abbrev cX1_init : ByteArray := prog_3_method_1_code
def yX1_init : MethodName := ⟨RX1, "<init>", "()V"⟩
abbrev cX1_weigh : ByteArray := prog_3_method_2_code
def yX1_weigh : MethodName := ⟨RX1, "weigh", "()V"⟩
abbrev cX1_changesTo : ByteArray := prog_3_method_3_code
def yX1_changesTo : MethodName := ⟨RX1, "changesTo", "()I"⟩
def RX2 : String := "TellKeys$Doors"
def TX2 : u_T := fun k => match k with
  | 0 => ("TellKeys$Doors", "number", "I", false)
  | 1 => ("TellKeys$Doors", "one", "[I", true)
  | 2 => ("TellKeys$Doors", "other", "[I", true)
  | _ => ("TellKeys$Doors", "lock", "[I", true)
def tyX2 : Nat → FieldType := fun k => match k with
  | 0 => .int
  | 1 => .array .int
  | 2 => .array .int
  | _ => .array .int
theorem nmX2 : ∀ a, a < 4 → ∀ b, b < 4 → a ≠ b → (TX2 a).2.1 ≠ (TX2 b).2.1 := by decide +kernel
theorem tyX2_ok : ∀ k, k < 4 → parseFieldDescriptor (TX2 k).2.2.1 = some (tyX2 k) := by decide +kernel
abbrev cX2_init : ByteArray := prog_4_method_1_code
def yX2_init : MethodName := ⟨RX2, "<init>", "()V"⟩
abbrev cX2_has : ByteArray := prog_4_method_2_code
def yX2_has : MethodName := ⟨RX2, "has", "(I)Z"⟩
abbrev cX2_add : ByteArray := prog_4_method_3_code
def yX2_add : MethodName := ⟨RX2, "add", "(III)I"⟩
abbrev cX2_becomeLike : ByteArray := prog_4_method_4_code
def yX2_becomeLike : MethodName := ⟨RX2, "becomeLike", "(LTellKeys$Doors;)V"⟩
abbrev cX2_isAt : ByteArray := prog_4_method_5_code
def yX2_isAt : MethodName := ⟨RX2, "isAt", "(II)Z"⟩
abbrev cX2_at : ByteArray := prog_4_method_6_code
def yX2_at : MethodName := ⟨RX2, "at", "(I)I"⟩
abbrev cX2_hasLockAt : ByteArray := prog_4_method_7_code
def yX2_hasLockAt : MethodName := ⟨RX2, "hasLockAt", "(II)Z"⟩
abbrev cX2_canPass : ByteArray := prog_4_method_8_code
def yX2_canPass : MethodName := ⟨RX2, "canPass", "(II)Z"⟩
def RX3 : String := "TellKeys$Keys"
def TX3 : u_T := fun k => match k with
  | 0 => ("TellKeys$Keys", "number", "I", false)
  | 1 => ("TellKeys$Keys", "kind", "[I", true)
  | 2 => ("TellKeys$Keys", "tells", "[I", true)
  | 3 => ("TellKeys$Keys", "where", "[I", true)
  | 4 => ("TellKeys$Keys", "minutes", "[I", true)
  | _ => ("TellKeys$Keys", "gotOn", "[I", true)
def tyX3 : Nat → FieldType := fun k => match k with
  | 0 => .int
  | 1 => .array .int
  | 2 => .array .int
  | 3 => .array .int
  | 4 => .array .int
  | _ => .array .int
theorem nmX3 : ∀ a, a < 6 → ∀ b, b < 6 → a ≠ b → (TX3 a).2.1 ≠ (TX3 b).2.1 := by decide +kernel
theorem tyX3_ok : ∀ k, k < 6 → parseFieldDescriptor (TX3 k).2.2.1 = some (tyX3 k) := by decide +kernel
abbrev cX3_init : ByteArray := prog_5_method_1_code
def yX3_init : MethodName := ⟨RX3, "<init>", "()V"⟩
abbrev cX3_has : ByteArray := prog_5_method_2_code
def yX3_has : MethodName := ⟨RX3, "has", "(I)Z"⟩
abbrev cX3_add : ByteArray := prog_5_method_3_code
def yX3_add : MethodName := ⟨RX3, "add", "(II)I"⟩
abbrev cX3_becomeLike : ByteArray := prog_5_method_4_code
def yX3_becomeLike : MethodName := ⟨RX3, "becomeLike", "(LTellKeys$Keys;)V"⟩
abbrev cX3_ring : ByteArray := prog_5_method_5_code
def yX3_ring : MethodName := ⟨RX3, "ring", "(IZ)I"⟩
abbrev cX3_stain : ByteArray := prog_5_method_6_code
def yX3_stain : MethodName := ⟨RX3, "stain", "(III)V"⟩
abbrev cX3_halve : ByteArray := prog_5_method_7_code
def yX3_halve : MethodName := ⟨RX3, "halve", "(I)V"⟩
abbrev cX3_stained : ByteArray := prog_5_method_8_code
def yX3_stained : MethodName := ⟨RX3, "stained", "()I"⟩
abbrev cX3_showing : ByteArray := prog_5_method_9_code
def yX3_showing : MethodName := ⟨RX3, "showing", "(I)I"⟩
abbrev cX3_showsOn : ByteArray := prog_5_method_10_code
def yX3_showsOn : MethodName := ⟨RX3, "showsOn", "(II)I"⟩
abbrev cX3_shows : ByteArray := prog_5_method_11_code
def yX3_shows : MethodName := ⟨RX3, "shows", "(III)I"⟩
def RX4 : String := "TellKeys$Sheet"
def TX4 : u_T := fun k => match k with
  | 0 => ("TellKeys$Sheet", "lane", "I", false)
  | 1 => ("TellKeys$Sheet", "size", "I", false)
  | _ => ("TellKeys$Sheet", "items", "[I", true)
def tyX4 : Nat → FieldType := fun k => match k with
  | 0 => .int
  | 1 => .int
  | _ => .array .int
theorem nmX4 : ∀ a, a < 3 → ∀ b, b < 3 → a ≠ b → (TX4 a).2.1 ≠ (TX4 b).2.1 := by decide +kernel
theorem tyX4_ok : ∀ k, k < 3 → parseFieldDescriptor (TX4 k).2.2.1 = some (tyX4 k) := by decide +kernel
abbrev cX4_init : ByteArray := prog_6_method_1_code
def yX4_init : MethodName := ⟨RX4, "<init>", "()V"⟩
abbrev cX4_renew : ByteArray := prog_6_method_2_code
def yX4_renew : MethodName := ⟨RX4, "renew", "(II)V"⟩
abbrev cX4_holds : ByteArray := prog_6_method_3_code
def yX4_holds : MethodName := ⟨RX4, "holds", "(II)Z"⟩
abbrev cX4_put : ByteArray := prog_6_method_4_code
def yX4_put : MethodName := ⟨RX4, "put", "(II)V"⟩
def RX5 : String := "TellKeys$Tape"
def TX5 : u_T := fun k => match k with
  | 0 => ("TellKeys$Tape", "size", "I", false)
  | 1 => ("TellKeys$Tape", "at", "I", false)
  | _ => ("TellKeys$Tape", "signs", "[B", true)
def tyX5 : Nat → FieldType := fun k => match k with
  | 0 => .int
  | 1 => .int
  | _ => .array .byte
theorem nmX5 : ∀ a, a < 3 → ∀ b, b < 3 → a ≠ b → (TX5 a).2.1 ≠ (TX5 b).2.1 := by decide +kernel
theorem tyX5_ok : ∀ k, k < 3 → parseFieldDescriptor (TX5 k).2.2.1 = some (tyX5 k) := by decide +kernel
abbrev cX5_init : ByteArray := prog_7_method_1_code
def yX5_init : MethodName := ⟨RX5, "<init>", "()V"⟩
abbrev cX5_add : ByteArray := prog_7_method_2_code
def yX5_add : MethodName := ⟨RX5, "add", "(I)V"⟩
abbrev cX5_empty : ByteArray := prog_7_method_3_code
def yX5_empty : MethodName := ⟨RX5, "empty", "()V"⟩
abbrev cX5_ahead : ByteArray := prog_7_method_4_code
def yX5_ahead : MethodName := ⟨RX5, "ahead", "()I"⟩
abbrev cX5_fault : ByteArray := prog_7_method_5_code
def yX5_fault : MethodName := ⟨RX5, "fault", "()I"⟩
abbrev cX5_take : ByteArray := prog_7_method_6_code
def yX5_take : MethodName := ⟨RX5, "take", "(I)Z"⟩
abbrev cX5_placeAhead : ByteArray := prog_7_method_7_code
def yX5_placeAhead : MethodName := ⟨RX5, "placeAhead", "()I"⟩
abbrev cX5_digit : ByteArray := prog_7_method_8_code
def yX5_digit : MethodName := ⟨RX5, "digit", "(I)I"⟩
abbrev cX5_numberUpTo : ByteArray := prog_7_method_9_code
def yX5_numberUpTo : MethodName := ⟨RX5, "numberUpTo", "(I)I"⟩
abbrev cX5_isDigit : ByteArray := prog_7_method_10_code
def yX5_isDigit : MethodName := ⟨RX5, "isDigit", "(I)Z"⟩
def RX6 : String := "TellKeys$Ways"
def TX6 : u_T := fun k => match k with
  | _ => ("TellKeys$Ways", "far", "[I", true)
def tyX6 : Nat → FieldType := fun k => match k with
  | _ => .array .int
theorem nmX6 : ∀ a, a < 1 → ∀ b, b < 1 → a ≠ b → (TX6 a).2.1 ≠ (TX6 b).2.1 := by decide +kernel
theorem tyX6_ok : ∀ k, k < 1 → parseFieldDescriptor (TX6 k).2.2.1 = some (tyX6 k) := by decide +kernel
abbrev cX6_init : ByteArray := prog_8_method_1_code
def yX6_init : MethodName := ⟨RX6, "<init>", "()V"⟩
abbrev cX6_measure : ByteArray := prog_8_method_2_code
def yX6_measure : MethodName := ⟨RX6, "measure", "(LTellKeys$Doors;II)V"⟩
abbrev cX6_spread : ByteArray := prog_8_method_3_code
def yX6_spread : MethodName := ⟨RX6, "spread", "(III)V"⟩
abbrev cX6_locksFromHall : ByteArray := prog_8_method_4_code
def yX6_locksFromHall : MethodName := ⟨RX6, "locksFromHall", "(LTellKeys$Doors;I)I"⟩
abbrev cX6_doorNearer : ByteArray := prog_8_method_5_code
def yX6_doorNearer : MethodName := ⟨RX6, "doorNearer", "(LTellKeys$Doors;III)I"⟩
def RX7 : String := "TellKeys"
def TX7 : u_T := fun k => match k with
  | 0 => ("TellKeys", "doors", "LTellKeys$Doors;", true)
  | 1 => ("TellKeys", "keys", "LTellKeys$Keys;", true)
  | 2 => ("TellKeys", "today", "I", false)
  | 3 => ("TellKeys", "imageDoors", "LTellKeys$Doors;", true)
  | 4 => ("TellKeys", "imageKeys", "LTellKeys$Keys;", true)
  | 5 => ("TellKeys", "imageToday", "I", false)
  | 6 => ("TellKeys", "imageKept", "Z", false)
  | 7 => ("TellKeys", "tape", "LTellKeys$Tape;", true)
  | 8 => ("TellKeys", "readDoors", "LTellKeys$Doors;", true)
  | 9 => ("TellKeys", "act", "LTellKeys$Act;", true)
  | 10 => ("TellKeys", "ways", "LTellKeys$Ways;", true)
  | 11 => ("TellKeys", "asking", "LTellKeys$Asking;", true)
  | _ => ("TellKeys", "sheets", "[LTellKeys$Sheet;", true)
def tyX7 : Nat → FieldType := fun k => match k with
  | 0 => .object "TellKeys$Doors"
  | 1 => .object "TellKeys$Keys"
  | 2 => .int
  | 3 => .object "TellKeys$Doors"
  | 4 => .object "TellKeys$Keys"
  | 5 => .int
  | 6 => .boolean
  | 7 => .object "TellKeys$Tape"
  | 8 => .object "TellKeys$Doors"
  | 9 => .object "TellKeys$Act"
  | 10 => .object "TellKeys$Ways"
  | 11 => .object "TellKeys$Asking"
  | _ => .array (.object "TellKeys$Sheet")
theorem nmX7 : ∀ a, a < 13 → ∀ b, b < 13 → a ≠ b → (TX7 a).2.1 ≠ (TX7 b).2.1 := by decide +kernel
theorem tyX7_ok : ∀ k, k < 13 → parseFieldDescriptor (TX7 k).2.2.1 = some (tyX7 k) := by decide +kernel
abbrev cX7_init : ByteArray := prog_1_method_1_code
def yX7_init : MethodName := ⟨RX7, "<init>", "()V"⟩
abbrev cX7_door : ByteArray := prog_1_method_2_code
def yX7_door : MethodName := ⟨RX7, "door", "(III)I"⟩
abbrev cX7_key : ByteArray := prog_1_method_3_code
def yX7_key : MethodName := ⟨RX7, "key", "(II)I"⟩
abbrev cX7_told : ByteArray := prog_1_method_4_code
def yX7_told : MethodName := ⟨RX7, "told", "(II)I"⟩
abbrev cX7_of : ByteArray := prog_1_method_5_code
def yX7_of : MethodName := ⟨RX7, "of", "(II)I"⟩
abbrev cX7_type : ByteArray := prog_1_method_6_code
def yX7_type : MethodName := ⟨RX7, "type", "(JI)I"⟩
abbrev cX7_house : ByteArray := prog_1_method_7_code
def yX7_house : MethodName := ⟨RX7, "house", "()I"⟩
abbrev cX7_week : ByteArray := prog_1_method_8_code
def yX7_week : MethodName := ⟨RX7, "week", "()I"⟩
abbrev cX7_count : ByteArray := prog_1_method_9_code
def yX7_count : MethodName := ⟨RX7, "count", "(I)I"⟩
abbrev cX7_visit : ByteArray := prog_1_method_10_code
def yX7_visit : MethodName := ⟨RX7, "visit", "(III)I"⟩
abbrev cX7_wash : ByteArray := prog_1_method_11_code
def yX7_wash : MethodName := ⟨RX7, "wash", "(II)I"⟩
abbrev cX7_change : ByteArray := prog_1_method_12_code
def yX7_change : MethodName := ⟨RX7, "change", "(II)I"⟩
abbrev cX7_next : ByteArray := prog_1_method_13_code
def yX7_next : MethodName := ⟨RX7, "next", "()I"⟩
abbrev cX7_shown : ByteArray := prog_1_method_14_code
def yX7_shown : MethodName := ⟨RX7, "shown", "(II)I"⟩
abbrev cX7_seen : ByteArray := prog_1_method_15_code
def yX7_seen : MethodName := ⟨RX7, "seen", "(III)I"⟩
abbrev cX7_reach : ByteArray := prog_1_method_16_code
def yX7_reach : MethodName := ⟨RX7, "reach", "(I)I"⟩
abbrev cX7_fits : ByteArray := prog_1_method_17_code
def yX7_fits : MethodName := ⟨RX7, "fits", "(III)I"⟩
abbrev cX7_been : ByteArray := prog_1_method_18_code
def yX7_been : MethodName := ⟨RX7, "been", "(III)I"⟩
abbrev cX7_look : ByteArray := prog_1_method_19_code
def yX7_look : MethodName := ⟨RX7, "look", "(III)I"⟩
abbrev cX7_image : ByteArray := prog_1_method_20_code
def yX7_image : MethodName := ⟨RX7, "image", "()I"⟩
abbrev cX7_restore : ByteArray := prog_1_method_21_code
def yX7_restore : MethodName := ⟨RX7, "restore", "()I"⟩
abbrev cX7_asked : ByteArray := prog_1_method_22_code
def yX7_asked : MethodName := ⟨RX7, "asked", "(IIIII)I"⟩
abbrev cX7_film : ByteArray := prog_1_method_23_code
def yX7_film : MethodName := ⟨RX7, "film", "(III)I"⟩
abbrev cX7_sheet : ByteArray := prog_1_method_24_code
def yX7_sheet : MethodName := ⟨RX7, "sheet", "(III)I"⟩
abbrev cX7_drop : ByteArray := prog_1_method_25_code
def yX7_drop : MethodName := ⟨RX7, "drop", "(I)I"⟩
abbrev cX7_item : ByteArray := prog_1_method_26_code
def yX7_item : MethodName := ⟨RX7, "item", "(IIII)I"⟩
abbrev cX7_copy : ByteArray := prog_1_method_27_code
def yX7_copy : MethodName := ⟨RX7, "copy", "(IIIII)I"⟩
abbrev cX7_isPlace : ByteArray := prog_1_method_28_code
def yX7_isPlace : MethodName := ⟨RX7, "isPlace", "(I)Z"⟩
abbrev cX7_mayHaveDoor : ByteArray := prog_1_method_29_code
def yX7_mayHaveDoor : MethodName := ⟨RX7, "mayHaveDoor", "(II)Z"⟩
abbrev cX7_isKind : ByteArray := prog_1_method_30_code
def yX7_isKind : MethodName := ⟨RX7, "isKind", "(I)Z"⟩
abbrev cX7_isSister : ByteArray := prog_1_method_31_code
def yX7_isSister : MethodName := ⟨RX7, "isSister", "(I)Z"⟩
abbrev cX7_isStay : ByteArray := prog_1_method_32_code
def yX7_isStay : MethodName := ⟨RX7, "isStay", "(I)Z"⟩
abbrev cX7_isDayAhead : ByteArray := prog_1_method_33_code
def yX7_isDayAhead : MethodName := ⟨RX7, "isDayAhead", "(I)Z"⟩
abbrev cX7_isSheet : ByteArray := prog_1_method_34_code
def yX7_isSheet : MethodName := ⟨RX7, "isSheet", "(I)Z"⟩
abbrev cX7_isLane : ByteArray := prog_1_method_35_code
def yX7_isLane : MethodName := ⟨RX7, "isLane", "(I)Z"⟩
abbrev cX7_byteOf : ByteArray := prog_1_method_36_code
def yX7_byteOf : MethodName := ⟨RX7, "byteOf", "(JI)I"⟩
abbrev cX7_refusalOf : ByteArray := prog_1_method_37_code
def yX7_refusalOf : MethodName := ⟨RX7, "refusalOf", "(II)I"⟩
abbrev cX7_readHouse : ByteArray := prog_1_method_38_code
def yX7_readHouse : MethodName := ⟨RX7, "readHouse", "()I"⟩
abbrev cX7_readDoor : ByteArray := prog_1_method_39_code
def yX7_readDoor : MethodName := ⟨RX7, "readDoor", "()Z"⟩
abbrev cX7_readWeek : ByteArray := prog_1_method_40_code
def yX7_readWeek : MethodName := ⟨RX7, "readWeek", "(Z)I"⟩
abbrev cX7_readAct : ByteArray := prog_1_method_41_code
def yX7_readAct : MethodName := ⟨RX7, "readAct", "()Z"⟩
abbrev cX7_readVisit : ByteArray := prog_1_method_42_code
def yX7_readVisit : MethodName := ⟨RX7, "readVisit", "()Z"⟩
abbrev cX7_doAct : ByteArray := prog_1_method_43_code
def yX7_doAct : MethodName := ⟨RX7, "doAct", "()Z"⟩
abbrev cX7_hersBy : ByteArray := prog_1_method_44_code
def yX7_hersBy : MethodName := ⟨RX7, "hersBy", "(IIII)I"⟩
abbrev cX7_isRest : ByteArray := prog_1_method_45_code
def yX7_isRest : MethodName := ⟨RX7, "isRest", "(IIII)Z"⟩
abbrev cX7_takeAsked : ByteArray := prog_1_method_46_code
def yX7_takeAsked : MethodName := ⟨RX7, "takeAsked", "(LTellKeys$Sheet;II)Z"⟩
abbrev cX7_cleanFor : ByteArray := prog_1_method_47_code
def yX7_cleanFor : MethodName := ⟨RX7, "cleanFor", "(I)I"⟩
abbrev cX7_tryRows : ByteArray := prog_1_method_48_code
def yX7_tryRows : MethodName := ⟨RX7, "tryRows", "(LTellKeys$Asking;II)V"⟩
def RX8 : String := "TellKeysModel"
def TX8 : u_T := fun k => match k with
  | 0 => ("TellKeysModel", "ones", "[I", true)
  | 1 => ("TellKeysModel", "others", "[I", true)
  | 2 => ("TellKeysModel", "locks", "[I", true)
  | 3 => ("TellKeysModel", "doors", "I", false)
  | 4 => ("TellKeysModel", "kinds", "[I", true)
  | 5 => ("TellKeysModel", "tells", "[I", true)
  | 6 => ("TellKeysModel", "holders", "[I", true)
  | 7 => ("TellKeysModel", "stains", "[I", true)
  | 8 => ("TellKeysModel", "days", "[I", true)
  | 9 => ("TellKeysModel", "keys", "I", false)
  | 10 => ("TellKeysModel", "today", "I", false)
  | 11 => ("TellKeysModel", "tape", "[I", true)
  | 12 => ("TellKeysModel", "taped", "I", false)
  | 13 => ("TellKeysModel", "place", "I", false)
  | 14 => ("TellKeysModel", "reads", "I", false)
  | 15 => ("TellKeysModel", "read", "[I", true)
  | 16 => ("TellKeysModel", "fars", "[I", true)
  | 17 => ("TellKeysModel", "isKept", "Z", false)
  | 18 => ("TellKeysModel", "kept", "[I", true)
  | 19 => ("TellKeysModel", "lanes", "[I", true)
  | 20 => ("TellKeysModel", "rowSizes", "[I", true)
  | 21 => ("TellKeysModel", "items", "[I", true)
  | 22 => ("TellKeysModel", "order", "[I", true)
  | 23 => ("TellKeysModel", "best", "[I", true)
  | _ => ("TellKeysModel", "moved", "[I", true)
def tyX8 : Nat → FieldType := fun k => match k with
  | 0 => .array .int
  | 1 => .array .int
  | 2 => .array .int
  | 3 => .int
  | 4 => .array .int
  | 5 => .array .int
  | 6 => .array .int
  | 7 => .array .int
  | 8 => .array .int
  | 9 => .int
  | 10 => .int
  | 11 => .array .int
  | 12 => .int
  | 13 => .int
  | 14 => .int
  | 15 => .array .int
  | 16 => .array .int
  | 17 => .boolean
  | 18 => .array .int
  | 19 => .array .int
  | 20 => .array .int
  | 21 => .array .int
  | 22 => .array .int
  | 23 => .array .int
  | _ => .array .int
theorem nmX8 : ∀ a, a < 25 → ∀ b, b < 25 → a ≠ b → (TX8 a).2.1 ≠ (TX8 b).2.1 := by decide +kernel
theorem tyX8_ok : ∀ k, k < 25 → parseFieldDescriptor (TX8 k).2.2.1 = some (tyX8 k) := by decide +kernel
abbrev cX8_init : ByteArray := prog_10_method_1_code
def yX8_init : MethodName := ⟨RX8, "<init>", "()V"⟩
abbrev cX8_in : ByteArray := prog_10_method_2_code
def yX8_in : MethodName := ⟨RX8, "in", "(JJJ)Z"⟩
abbrev cX8_has : ByteArray := prog_10_method_3_code
def yX8_has : MethodName := ⟨RX8, "has", "(II)Z"⟩
abbrev cX8_isPlace : ByteArray := prog_10_method_4_code
def yX8_isPlace : MethodName := ⟨RX8, "isPlace", "(I)Z"⟩
abbrev cX8_isKey : ByteArray := prog_10_method_5_code
def yX8_isKey : MethodName := ⟨RX8, "isKey", "(I)Z"⟩
abbrev cX8_canJoin : ByteArray := prog_10_method_6_code
def yX8_canJoin : MethodName := ⟨RX8, "canJoin", "(II)Z"⟩
abbrev cX8_door : ByteArray := prog_10_method_7_code
def yX8_door : MethodName := ⟨RX8, "door", "(III)I"⟩
abbrev cX8_key : ByteArray := prog_10_method_8_code
def yX8_key : MethodName := ⟨RX8, "key", "(II)I"⟩
abbrev cX8_told : ByteArray := prog_10_method_9_code
def yX8_told : MethodName := ⟨RX8, "told", "(II)I"⟩
abbrev cX8_of : ByteArray := prog_10_method_10_code
def yX8_of : MethodName := ⟨RX8, "of", "(II)I"⟩
abbrev cX8_shownOf : ByteArray := prog_10_method_11_code
def yX8_shownOf : MethodName := ⟨RX8, "shownOf", "(III)I"⟩
abbrev cX8_shownBy : ByteArray := prog_10_method_12_code
def yX8_shownBy : MethodName := ⟨RX8, "shownBy", "(II)I"⟩
abbrev cX8_count : ByteArray := prog_10_method_13_code
def yX8_count : MethodName := ⟨RX8, "count", "(I)I"⟩
abbrev cX8_type : ByteArray := prog_10_method_14_code
def yX8_type : MethodName := ⟨RX8, "type", "(JI)I"⟩
abbrev cX8_nextByte : ByteArray := prog_10_method_15_code
def yX8_nextByte : MethodName := ⟨RX8, "nextByte", "()I"⟩
abbrev cX8_takes : ByteArray := prog_10_method_16_code
def yX8_takes : MethodName := ⟨RX8, "takes", "(I)Z"⟩
abbrev cX8_readDigit : ByteArray := prog_10_method_17_code
def yX8_readDigit : MethodName := ⟨RX8, "readDigit", "(I)I"⟩
abbrev cX8_readMinutes : ByteArray := prog_10_method_18_code
def yX8_readMinutes : MethodName := ⟨RX8, "readMinutes", "()I"⟩
abbrev cX8_signOf : ByteArray := prog_10_method_19_code
def yX8_signOf : MethodName := ⟨RX8, "signOf", "(I)I"⟩
abbrev cX8_readDoor : ByteArray := prog_10_method_20_code
def yX8_readDoor : MethodName := ⟨RX8, "readDoor", "(I)Z"⟩
abbrev cX8_readHouse : ByteArray := prog_10_method_21_code
def yX8_readHouse : MethodName := ⟨RX8, "readHouse", "()Z"⟩
abbrev cX8_end : ByteArray := prog_10_method_22_code
def yX8_end : MethodName := ⟨RX8, "end", "(Z)I"⟩
abbrev cX8_house : ByteArray := prog_10_method_23_code
def yX8_house : MethodName := ⟨RX8, "house", "()I"⟩
abbrev cX8_readVisit : ByteArray := prog_10_method_24_code
def yX8_readVisit : MethodName := ⟨RX8, "readVisit", "(I)Z"⟩
abbrev cX8_readWash : ByteArray := prog_10_method_25_code
def yX8_readWash : MethodName := ⟨RX8, "readWash", "(I)Z"⟩
abbrev cX8_readChange : ByteArray := prog_10_method_26_code
def yX8_readChange : MethodName := ⟨RX8, "readChange", "(I)Z"⟩
abbrev cX8_readAct : ByteArray := prog_10_method_27_code
def yX8_readAct : MethodName := ⟨RX8, "readAct", "(I)Z"⟩
abbrev cX8_readWeek : ByteArray := prog_10_method_28_code
def yX8_readWeek : MethodName := ⟨RX8, "readWeek", "()Z"⟩
abbrev cX8_does : ByteArray := prog_10_method_29_code
def yX8_does : MethodName := ⟨RX8, "does", "(I)Z"⟩
abbrev cX8_week : ByteArray := prog_10_method_30_code
def yX8_week : MethodName := ⟨RX8, "week", "()I"⟩
abbrev cX8_isSister : ByteArray := prog_10_method_31_code
def yX8_isSister : MethodName := ⟨RX8, "isSister", "(I)Z"⟩
abbrev cX8_ringOf : ByteArray := prog_10_method_32_code
def yX8_ringOf : MethodName := ⟨RX8, "ringOf", "(IZ)I"⟩
abbrev cX8_doorOf : ByteArray := prog_10_method_33_code
def yX8_doorOf : MethodName := ⟨RX8, "doorOf", "(I)I"⟩
abbrev cX8_findFars : ByteArray := prog_10_method_34_code
def yX8_findFars : MethodName := ⟨RX8, "findFars", "(II)V"⟩
abbrev cX8_visit : ByteArray := prog_10_method_35_code
def yX8_visit : MethodName := ⟨RX8, "visit", "(III)I"⟩
abbrev cX8_isNext : ByteArray := prog_10_method_36_code
def yX8_isNext : MethodName := ⟨RX8, "isNext", "(III)Z"⟩
abbrev cX8_stain : ByteArray := prog_10_method_37_code
def yX8_stain : MethodName := ⟨RX8, "stain", "(II)V"⟩
abbrev cX8_wash : ByteArray := prog_10_method_38_code
def yX8_wash : MethodName := ⟨RX8, "wash", "(II)I"⟩
abbrev cX8_change : ByteArray := prog_10_method_39_code
def yX8_change : MethodName := ⟨RX8, "change", "(II)I"⟩
abbrev cX8_next : ByteArray := prog_10_method_40_code
def yX8_next : MethodName := ⟨RX8, "next", "()I"⟩
abbrev cX8_shown : ByteArray := prog_10_method_41_code
def yX8_shown : MethodName := ⟨RX8, "shown", "(II)I"⟩
abbrev cX8_seen : ByteArray := prog_10_method_42_code
def yX8_seen : MethodName := ⟨RX8, "seen", "(III)I"⟩
abbrev cX8_reach : ByteArray := prog_10_method_43_code
def yX8_reach : MethodName := ⟨RX8, "reach", "(I)I"⟩
abbrev cX8_fits : ByteArray := prog_10_method_44_code
def yX8_fits : MethodName := ⟨RX8, "fits", "(III)I"⟩
abbrev cX8_been : ByteArray := prog_10_method_45_code
def yX8_been : MethodName := ⟨RX8, "been", "(III)I"⟩
abbrev cX8_gains : ByteArray := prog_10_method_46_code
def yX8_gains : MethodName := ⟨RX8, "gains", "(IIII)I"⟩
abbrev cX8_look : ByteArray := prog_10_method_47_code
def yX8_look : MethodName := ⟨RX8, "look", "(III)I"⟩
abbrev cX8_carried : ByteArray := prog_10_method_48_code
def yX8_carried : MethodName := ⟨RX8, "carried", "(IIZ)I"⟩
abbrev cX8_image : ByteArray := prog_10_method_49_code
def yX8_image : MethodName := ⟨RX8, "image", "()I"⟩
abbrev cX8_restore : ByteArray := prog_10_method_50_code
def yX8_restore : MethodName := ⟨RX8, "restore", "()I"⟩
abbrev cX8_isSheet : ByteArray := prog_10_method_51_code
def yX8_isSheet : MethodName := ⟨RX8, "isSheet", "(II)Z"⟩
abbrev cX8_asLane : ByteArray := prog_10_method_52_code
def yX8_asLane : MethodName := ⟨RX8, "asLane", "(II)I"⟩
abbrev cX8_sheet : ByteArray := prog_10_method_53_code
def yX8_sheet : MethodName := ⟨RX8, "sheet", "(III)I"⟩
abbrev cX8_drop : ByteArray := prog_10_method_54_code
def yX8_drop : MethodName := ⟨RX8, "drop", "(I)I"⟩
abbrev cX8_lacksRow : ByteArray := prog_10_method_55_code
def yX8_lacksRow : MethodName := ⟨RX8, "lacksRow", "(IIII)I"⟩
abbrev cX8_item : ByteArray := prog_10_method_56_code
def yX8_item : MethodName := ⟨RX8, "item", "(IIII)I"⟩
abbrev cX8_nextOrder : ByteArray := prog_10_method_57_code
def yX8_nextOrder : MethodName := ⟨RX8, "nextOrder", "(I)Z"⟩
abbrev cX8_areTold : ByteArray := prog_10_method_58_code
def yX8_areTold : MethodName := ⟨RX8, "areTold", "(II)Z"⟩
abbrev cX8_areClean : ByteArray := prog_10_method_59_code
def yX8_areClean : MethodName := ⟨RX8, "areClean", "(II)Z"⟩
abbrev cX8_rings : ByteArray := prog_10_method_60_code
def yX8_rings : MethodName := ⟨RX8, "rings", "(I)I"⟩
abbrev cX8_asked : ByteArray := prog_10_method_61_code
def yX8_asked : MethodName := ⟨RX8, "asked", "(IIIII)I"⟩
abbrev cX8_film : ByteArray := prog_10_method_62_code
def yX8_film : MethodName := ⟨RX8, "film", "(III)I"⟩
abbrev cX8_copy : ByteArray := prog_10_method_63_code
def yX8_copy : MethodName := ⟨RX8, "copy", "(IIIII)I"⟩
def RJ9 : String := "java/lang/Math"
def TJ9 : u_T := fun k => match k with
  | _ => ("", "", "", false)
def tyJ9 : Nat → FieldType := fun k => match k with
  | _ => .int
theorem nmJ9 : ∀ a, a < 0 → ∀ b, b < 0 → a ≠ b → (TJ9 a).2.1 ≠ (TJ9 b).2.1 := by decide +kernel
theorem tyJ9_ok : ∀ k, k < 0 → parseFieldDescriptor (TJ9 k).2.2.1 = some (tyJ9 k) := by decide +kernel
abbrev cJ9_abs_0f7a4 : ByteArray := prog_11_method_59_code
def yJ9_abs_0f7a4 : MethodName := ⟨RJ9, "abs", "(I)I"⟩
abbrev cJ9_max_7cf53 : ByteArray := prog_11_method_65_code
def yJ9_max_7cf53 : MethodName := ⟨RJ9, "max", "(II)I"⟩
abbrev cJ9_min_7cf53 : ByteArray := prog_11_method_69_code
def yJ9_min_7cf53 : MethodName := ⟨RJ9, "min", "(II)I"⟩
def RJ10 : String := "java/lang/System"
def TJ10 : u_T := fun k => match k with
  | _ => ("", "", "", false)
def tyJ10 : Nat → FieldType := fun k => match k with
  | _ => .int
theorem nmJ10 : ∀ a, a < 0 → ∀ b, b < 0 → a ≠ b → (TJ10 a).2.1 ≠ (TJ10 b).2.1 := by decide +kernel
theorem tyJ10_ok : ∀ k, k < 0 → parseFieldDescriptor (TJ10 k).2.2.1 = some (tyJ10 k) := by decide +kernel
def RL : String := "TellKeysLaw"
abbrev cL_law : ByteArray := code
def yL_law : MethodName := ⟨RL, "law", "([I)Z"⟩
abbrev vwCl : List vw_C := [(RX0, TX0, 5), (RX1, TX1, 7), (RX2, TX2, 4), (RX3, TX3, 6), (RX4, TX4, 3), (RX5, TX5, 3), (RX6, TX6, 1), (RX7, TX7, 13), (RX8, TX8, 25)]
