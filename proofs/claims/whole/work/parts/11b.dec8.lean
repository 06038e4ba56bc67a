theorem dX8_init_0 : decode cX8_init 0 = .ok (.aload_n 0, 1) := by decide +kernel
theorem dX8_init_1 : decode cX8_init 1 = .ok (.invokespecial 1, 3) := by decide +kernel
theorem dX8_init_4 : decode cX8_init 4 = .ok (.aload_n 0, 1) := by decide +kernel
theorem dX8_init_5 : decode cX8_init 5 = .ok (.bipush 17, 2) := by decide +kernel
theorem dX8_init_7 : decode cX8_init 7 = .ok (.newarray .int, 2) := by decide +kernel
theorem dX8_init_9 : decode cX8_init 9 = .ok (.putfield 7, 3) := by decide +kernel
theorem dX8_init_12 : decode cX8_init 12 = .ok (.aload_n 0, 1) := by decide +kernel
theorem dX8_init_13 : decode cX8_init 13 = .ok (.bipush 17, 2) := by decide +kernel
theorem dX8_init_15 : decode cX8_init 15 = .ok (.newarray .int, 2) := by decide +kernel
theorem dX8_init_17 : decode cX8_init 17 = .ok (.putfield 13, 3) := by decide +kernel
theorem dX8_init_20 : decode cX8_init 20 = .ok (.aload_n 0, 1) := by decide +kernel
theorem dX8_init_21 : decode cX8_init 21 = .ok (.bipush 17, 2) := by decide +kernel
theorem dX8_init_23 : decode cX8_init 23 = .ok (.newarray .int, 2) := by decide +kernel
theorem dX8_init_25 : decode cX8_init 25 = .ok (.putfield 16, 3) := by decide +kernel
theorem dX8_init_28 : decode cX8_init 28 = .ok (.aload_n 0, 1) := by decide +kernel
theorem dX8_init_29 : decode cX8_init 29 = .ok (.bipush 8, 2) := by decide +kernel
theorem dX8_init_31 : decode cX8_init 31 = .ok (.newarray .int, 2) := by decide +kernel
theorem dX8_init_33 : decode cX8_init 33 = .ok (.putfield 19, 3) := by decide +kernel
theorem dX8_init_36 : decode cX8_init 36 = .ok (.aload_n 0, 1) := by decide +kernel
theorem dX8_init_37 : decode cX8_init 37 = .ok (.bipush 8, 2) := by decide +kernel
theorem dX8_init_39 : decode cX8_init 39 = .ok (.newarray .int, 2) := by decide +kernel
theorem dX8_init_41 : decode cX8_init 41 = .ok (.putfield 22, 3) := by decide +kernel
theorem dX8_init_44 : decode cX8_init 44 = .ok (.aload_n 0, 1) := by decide +kernel
theorem dX8_init_45 : decode cX8_init 45 = .ok (.bipush 8, 2) := by decide +kernel
theorem dX8_init_47 : decode cX8_init 47 = .ok (.newarray .int, 2) := by decide +kernel
theorem dX8_init_49 : decode cX8_init 49 = .ok (.putfield 25, 3) := by decide +kernel
theorem dX8_init_52 : decode cX8_init 52 = .ok (.aload_n 0, 1) := by decide +kernel
theorem dX8_init_53 : decode cX8_init 53 = .ok (.bipush 8, 2) := by decide +kernel
theorem dX8_init_55 : decode cX8_init 55 = .ok (.newarray .int, 2) := by decide +kernel
theorem dX8_init_57 : decode cX8_init 57 = .ok (.putfield 28, 3) := by decide +kernel
theorem dX8_init_60 : decode cX8_init 60 = .ok (.aload_n 0, 1) := by decide +kernel
theorem dX8_init_61 : decode cX8_init 61 = .ok (.bipush 8, 2) := by decide +kernel
theorem dX8_init_63 : decode cX8_init 63 = .ok (.newarray .int, 2) := by decide +kernel
theorem dX8_init_65 : decode cX8_init 65 = .ok (.putfield 31, 3) := by decide +kernel
theorem dX8_init_68 : decode cX8_init 68 = .ok (.aload_n 0, 1) := by decide +kernel
theorem dX8_init_69 : decode cX8_init 69 = .ok (.sipush 160, 3) := by decide +kernel
theorem dX8_init_72 : decode cX8_init 72 = .ok (.newarray .int, 2) := by decide +kernel
theorem dX8_init_74 : decode cX8_init 74 = .ok (.putfield 34, 3) := by decide +kernel
theorem dX8_init_77 : decode cX8_init 77 = .ok (.aload_n 0, 1) := by decide +kernel
theorem dX8_init_78 : decode cX8_init 78 = .ok (.sipush 400, 3) := by decide +kernel
theorem dX8_init_81 : decode cX8_init 81 = .ok (.newarray .int, 2) := by decide +kernel
theorem dX8_init_83 : decode cX8_init 83 = .ok (.putfield 37, 3) := by decide +kernel
theorem dX8_init_86 : decode cX8_init 86 = .ok (.aload_n 0, 1) := by decide +kernel
theorem dX8_init_87 : decode cX8_init 87 = .ok (.bipush 11, 2) := by decide +kernel
theorem dX8_init_89 : decode cX8_init 89 = .ok (.newarray .int, 2) := by decide +kernel
theorem dX8_init_91 : decode cX8_init 91 = .ok (.putfield 40, 3) := by decide +kernel
theorem dX8_init_94 : decode cX8_init 94 = .ok (.aload_n 0, 1) := by decide +kernel
theorem dX8_init_95 : decode cX8_init 95 = .ok (.bipush 91, 2) := by decide +kernel
theorem dX8_init_97 : decode cX8_init 97 = .ok (.newarray .int, 2) := by decide +kernel
theorem dX8_init_99 : decode cX8_init 99 = .ok (.putfield 43, 3) := by decide +kernel
theorem dX8_init_102 : decode cX8_init 102 = .ok (.aload_n 0, 1) := by decide +kernel
theorem dX8_init_103 : decode cX8_init 103 = .ok (.iconst 4, 1) := by decide +kernel
theorem dX8_init_104 : decode cX8_init 104 = .ok (.newarray .int, 2) := by decide +kernel
theorem dX8_init_106 : decode cX8_init 106 = .ok (.putfield 46, 3) := by decide +kernel
theorem dX8_init_109 : decode cX8_init 109 = .ok (.aload_n 0, 1) := by decide +kernel
theorem dX8_init_110 : decode cX8_init 110 = .ok (.iconst 4, 1) := by decide +kernel
theorem dX8_init_111 : decode cX8_init 111 = .ok (.newarray .int, 2) := by decide +kernel
theorem dX8_init_113 : decode cX8_init 113 = .ok (.putfield 49, 3) := by decide +kernel
theorem dX8_init_116 : decode cX8_init 116 = .ok (.aload_n 0, 1) := by decide +kernel
theorem dX8_init_117 : decode cX8_init 117 = .ok (.bipush 96, 2) := by decide +kernel
theorem dX8_init_119 : decode cX8_init 119 = .ok (.newarray .int, 2) := by decide +kernel
theorem dX8_init_121 : decode cX8_init 121 = .ok (.putfield 52, 3) := by decide +kernel
theorem dX8_init_124 : decode cX8_init 124 = .ok (.aload_n 0, 1) := by decide +kernel
theorem dX8_init_125 : decode cX8_init 125 = .ok (.bipush 6, 2) := by decide +kernel
theorem dX8_init_127 : decode cX8_init 127 = .ok (.newarray .int, 2) := by decide +kernel
theorem dX8_init_129 : decode cX8_init 129 = .ok (.putfield 55, 3) := by decide +kernel
theorem dX8_init_132 : decode cX8_init 132 = .ok (.aload_n 0, 1) := by decide +kernel
theorem dX8_init_133 : decode cX8_init 133 = .ok (.bipush 6, 2) := by decide +kernel
theorem dX8_init_135 : decode cX8_init 135 = .ok (.newarray .int, 2) := by decide +kernel
theorem dX8_init_137 : decode cX8_init 137 = .ok (.putfield 58, 3) := by decide +kernel
theorem dX8_init_140 : decode cX8_init 140 = .ok (.aload_n 0, 1) := by decide +kernel
theorem dX8_init_141 : decode cX8_init 141 = .ok (.bipush 24, 2) := by decide +kernel
theorem dX8_init_143 : decode cX8_init 143 = .ok (.newarray .int, 2) := by decide +kernel
theorem dX8_init_145 : decode cX8_init 145 = .ok (.putfield 61, 3) := by decide +kernel
theorem dX8_init_148 : decode cX8_init 148 = .ok (.iconst 0, 1) := by decide +kernel
theorem dX8_init_149 : decode cX8_init 149 = .ok (.istore_n 1, 1) := by decide +kernel
theorem dX8_init_150 : decode cX8_init 150 = .ok (.iload_n 1, 1) := by decide +kernel
theorem dX8_init_151 : decode cX8_init 151 = .ok (.iconst 4, 1) := by decide +kernel
theorem dX8_init_152 : decode cX8_init 152 = .ok (.if_icmp .ge 16, 3) := by decide +kernel
theorem dX8_init_155 : decode cX8_init 155 = .ok (.aload_n 0, 1) := by decide +kernel
theorem dX8_init_156 : decode cX8_init 156 = .ok (.getfield 46, 3) := by decide +kernel
theorem dX8_init_159 : decode cX8_init 159 = .ok (.iload_n 1, 1) := by decide +kernel
theorem dX8_init_160 : decode cX8_init 160 = .ok (.iconst (-1), 1) := by decide +kernel
theorem dX8_init_161 : decode cX8_init 161 = .ok (.iastore, 1) := by decide +kernel
theorem dX8_init_162 : decode cX8_init 162 = .ok (.iinc 1 1, 3) := by decide +kernel
theorem dX8_init_165 : decode cX8_init 165 = .ok (.goto (-15), 3) := by decide +kernel
theorem dX8_init_168 : decode cX8_init 168 = .ok (.aload_n 0, 1) := by decide +kernel
theorem dX8_init_169 : decode cX8_init 169 = .ok (.getfield 13, 3) := by decide +kernel
theorem dX8_init_172 : decode cX8_init 172 = .ok (.bipush 16, 2) := by decide +kernel
theorem dX8_init_174 : decode cX8_init 174 = .ok (.bipush 10, 2) := by decide +kernel
theorem dX8_init_176 : decode cX8_init 176 = .ok (.iastore, 1) := by decide +kernel
theorem dX8_init_177 : decode cX8_init 177 = .ok (.aload_n 0, 1) := by decide +kernel
theorem dX8_init_178 : decode cX8_init 178 = .ok (.getfield 16, 3) := by decide +kernel
theorem dX8_init_181 : decode cX8_init 181 = .ok (.bipush 16, 2) := by decide +kernel
theorem dX8_init_183 : decode cX8_init 183 = .ok (.bipush 8, 2) := by decide +kernel
theorem dX8_init_185 : decode cX8_init 185 = .ok (.iastore, 1) := by decide +kernel
theorem dX8_init_186 : decode cX8_init 186 = .ok (.return_, 1) := by decide +kernel
theorem dX8_in_0 : decode cX8_in 0 = .ok (.lload_n 0, 1) := by decide +kernel
theorem dX8_in_1 : decode cX8_in 1 = .ok (.lload_n 2, 1) := by decide +kernel
theorem dX8_in_2 : decode cX8_in 2 = .ok (.lcmp, 1) := by decide +kernel
theorem dX8_in_3 : decode cX8_in 3 = .ok (.ifCond .lt 14, 3) := by decide +kernel
theorem dX8_in_6 : decode cX8_in 6 = .ok (.lload_n 0, 1) := by decide +kernel
theorem dX8_in_7 : decode cX8_in 7 = .ok (.lload 4, 2) := by decide +kernel
theorem dX8_in_9 : decode cX8_in 9 = .ok (.lcmp, 1) := by decide +kernel
theorem dX8_in_10 : decode cX8_in 10 = .ok (.ifCond .gt 7, 3) := by decide +kernel
theorem dX8_in_13 : decode cX8_in 13 = .ok (.iconst 1, 1) := by decide +kernel
theorem dX8_in_14 : decode cX8_in 14 = .ok (.goto 4, 3) := by decide +kernel
theorem dX8_in_17 : decode cX8_in 17 = .ok (.iconst 0, 1) := by decide +kernel
theorem dX8_in_18 : decode cX8_in 18 = .ok (.ireturn, 1) := by decide +kernel
theorem dX8_has_0 : decode cX8_has 0 = .ok (.iload_n 0, 1) := by decide +kernel
theorem dX8_has_1 : decode cX8_has 1 = .ok (.iload_n 1, 1) := by decide +kernel
theorem dX8_has_2 : decode cX8_has 2 = .ok (.ishr, 1) := by decide +kernel
theorem dX8_has_3 : decode cX8_has 3 = .ok (.iconst 1, 1) := by decide +kernel
theorem dX8_has_4 : decode cX8_has 4 = .ok (.iand, 1) := by decide +kernel
theorem dX8_has_5 : decode cX8_has 5 = .ok (.iconst 1, 1) := by decide +kernel
theorem dX8_has_6 : decode cX8_has 6 = .ok (.if_icmp .ne 7, 3) := by decide +kernel
theorem dX8_has_9 : decode cX8_has 9 = .ok (.iconst 1, 1) := by decide +kernel
theorem dX8_has_10 : decode cX8_has 10 = .ok (.goto 4, 3) := by decide +kernel
theorem dX8_has_13 : decode cX8_has 13 = .ok (.iconst 0, 1) := by decide +kernel
theorem dX8_has_14 : decode cX8_has 14 = .ok (.ireturn, 1) := by decide +kernel
theorem dX8_isPlace_0 : decode cX8_isPlace 0 = .ok (.iload_n 0, 1) := by decide +kernel
theorem dX8_isPlace_1 : decode cX8_isPlace 1 = .ok (.i2l, 1) := by decide +kernel
theorem dX8_isPlace_2 : decode cX8_isPlace 2 = .ok (.lconst 0, 1) := by decide +kernel
theorem dX8_isPlace_3 : decode cX8_isPlace 3 = .ok (.ldc2_w 64, 3) := by decide +kernel
theorem dX8_isPlace_6 : decode cX8_isPlace 6 = .ok (.invokestatic 66, 3) := by decide +kernel
theorem dX8_isPlace_9 : decode cX8_isPlace 9 = .ok (.ireturn, 1) := by decide +kernel
theorem dX8_isKey_0 : decode cX8_isKey 0 = .ok (.iload_n 1, 1) := by decide +kernel
theorem dX8_isKey_1 : decode cX8_isKey 1 = .ok (.i2l, 1) := by decide +kernel
theorem dX8_isKey_2 : decode cX8_isKey 2 = .ok (.lconst 0, 1) := by decide +kernel
theorem dX8_isKey_3 : decode cX8_isKey 3 = .ok (.aload_n 0, 1) := by decide +kernel
theorem dX8_isKey_4 : decode cX8_isKey 4 = .ok (.getfield 70, 3) := by decide +kernel
theorem dX8_isKey_7 : decode cX8_isKey 7 = .ok (.iconst 1, 1) := by decide +kernel
theorem dX8_isKey_8 : decode cX8_isKey 8 = .ok (.isub, 1) := by decide +kernel
theorem dX8_isKey_9 : decode cX8_isKey 9 = .ok (.i2l, 1) := by decide +kernel
theorem dX8_isKey_10 : decode cX8_isKey 10 = .ok (.invokestatic 66, 3) := by decide +kernel
theorem dX8_isKey_13 : decode cX8_isKey 13 = .ok (.ireturn, 1) := by decide +kernel
theorem dX8_canJoin_0 : decode cX8_canJoin 0 = .ok (.iload_n 0, 1) := by decide +kernel
theorem dX8_canJoin_1 : decode cX8_canJoin 1 = .ok (.ifCond .ne 9, 3) := by decide +kernel
theorem dX8_canJoin_4 : decode cX8_canJoin 4 = .ok (.iload_n 1, 1) := by decide +kernel
theorem dX8_canJoin_5 : decode cX8_canJoin 5 = .ok (.bipush 10, 2) := by decide +kernel
theorem dX8_canJoin_7 : decode cX8_canJoin 7 = .ok (.if_icmp .eq 13, 3) := by decide +kernel
theorem dX8_canJoin_10 : decode cX8_canJoin 10 = .ok (.iload_n 0, 1) := by decide +kernel
theorem dX8_canJoin_11 : decode cX8_canJoin 11 = .ok (.bipush 10, 2) := by decide +kernel
theorem dX8_canJoin_13 : decode cX8_canJoin 13 = .ok (.if_icmp .ne 11, 3) := by decide +kernel
theorem dX8_canJoin_16 : decode cX8_canJoin 16 = .ok (.iload_n 1, 1) := by decide +kernel
theorem dX8_canJoin_17 : decode cX8_canJoin 17 = .ok (.ifCond .ne 7, 3) := by decide +kernel
theorem dX8_canJoin_20 : decode cX8_canJoin 20 = .ok (.iconst 1, 1) := by decide +kernel
theorem dX8_canJoin_21 : decode cX8_canJoin 21 = .ok (.goto 4, 3) := by decide +kernel
theorem dX8_canJoin_24 : decode cX8_canJoin 24 = .ok (.iconst 0, 1) := by decide +kernel
theorem dX8_canJoin_25 : decode cX8_canJoin 25 = .ok (.istore_n 2, 1) := by decide +kernel
theorem dX8_canJoin_26 : decode cX8_canJoin 26 = .ok (.iload_n 0, 1) := by decide +kernel
theorem dX8_canJoin_27 : decode cX8_canJoin 27 = .ok (.iload_n 1, 1) := by decide +kernel
theorem dX8_canJoin_28 : decode cX8_canJoin 28 = .ok (.if_icmp .eq 11, 3) := by decide +kernel
theorem dX8_canJoin_31 : decode cX8_canJoin 31 = .ok (.iload_n 2, 1) := by decide +kernel
theorem dX8_canJoin_32 : decode cX8_canJoin 32 = .ok (.ifCond .ne 7, 3) := by decide +kernel
theorem dX8_canJoin_35 : decode cX8_canJoin 35 = .ok (.iconst 1, 1) := by decide +kernel
theorem dX8_canJoin_36 : decode cX8_canJoin 36 = .ok (.goto 4, 3) := by decide +kernel
theorem dX8_canJoin_39 : decode cX8_canJoin 39 = .ok (.iconst 0, 1) := by decide +kernel
theorem dX8_canJoin_40 : decode cX8_canJoin 40 = .ok (.ireturn, 1) := by decide +kernel
theorem dX8_door_0 : decode cX8_door 0 = .ok (.iload_n 1, 1) := by decide +kernel
theorem dX8_door_1 : decode cX8_door 1 = .ok (.invokestatic 74, 3) := by decide +kernel
theorem dX8_door_4 : decode cX8_door 4 = .ok (.ifCond .eq 30, 3) := by decide +kernel
theorem dX8_door_7 : decode cX8_door 7 = .ok (.iload_n 2, 1) := by decide +kernel
theorem dX8_door_8 : decode cX8_door 8 = .ok (.invokestatic 74, 3) := by decide +kernel
theorem dX8_door_11 : decode cX8_door 11 = .ok (.ifCond .eq 23, 3) := by decide +kernel
theorem dX8_door_14 : decode cX8_door 14 = .ok (.iload_n 1, 1) := by decide +kernel
theorem dX8_door_15 : decode cX8_door 15 = .ok (.iload_n 2, 1) := by decide +kernel
theorem dX8_door_16 : decode cX8_door 16 = .ok (.invokestatic 78, 3) := by decide +kernel
theorem dX8_door_19 : decode cX8_door 19 = .ok (.ifCond .eq 15, 3) := by decide +kernel
theorem dX8_door_22 : decode cX8_door 22 = .ok (.iload_n 3, 1) := by decide +kernel
theorem dX8_door_23 : decode cX8_door 23 = .ok (.i2l, 1) := by decide +kernel
theorem dX8_door_24 : decode cX8_door 24 = .ok (.lconst 0, 1) := by decide +kernel
theorem dX8_door_25 : decode cX8_door 25 = .ok (.ldc2_w 82, 3) := by decide +kernel
theorem dX8_door_28 : decode cX8_door 28 = .ok (.invokestatic 66, 3) := by decide +kernel
theorem dX8_door_31 : decode cX8_door 31 = .ok (.ifCond .ne 5, 3) := by decide +kernel
theorem dX8_door_34 : decode cX8_door 34 = .ok (.iconst (-1), 1) := by decide +kernel
theorem dX8_door_35 : decode cX8_door 35 = .ok (.ireturn, 1) := by decide +kernel
theorem dX8_door_36 : decode cX8_door 36 = .ok (.aload_n 0, 1) := by decide +kernel
theorem dX8_door_37 : decode cX8_door 37 = .ok (.getfield 84, 3) := by decide +kernel
theorem dX8_door_40 : decode cX8_door 40 = .ok (.bipush 16, 2) := by decide +kernel
theorem dX8_door_42 : decode cX8_door 42 = .ok (.if_icmp .ne 6, 3) := by decide +kernel
theorem dX8_door_45 : decode cX8_door 45 = .ok (.bipush (-3), 2) := by decide +kernel
theorem dX8_door_47 : decode cX8_door 47 = .ok (.ireturn, 1) := by decide +kernel
theorem dX8_door_48 : decode cX8_door 48 = .ok (.aload_n 0, 1) := by decide +kernel
theorem dX8_door_49 : decode cX8_door 49 = .ok (.getfield 7, 3) := by decide +kernel
theorem dX8_door_52 : decode cX8_door 52 = .ok (.aload_n 0, 1) := by decide +kernel
theorem dX8_door_53 : decode cX8_door 53 = .ok (.getfield 84, 3) := by decide +kernel
theorem dX8_door_56 : decode cX8_door 56 = .ok (.iload_n 1, 1) := by decide +kernel
theorem dX8_door_57 : decode cX8_door 57 = .ok (.iastore, 1) := by decide +kernel
theorem dX8_door_58 : decode cX8_door 58 = .ok (.aload_n 0, 1) := by decide +kernel
theorem dX8_door_59 : decode cX8_door 59 = .ok (.getfield 13, 3) := by decide +kernel
theorem dX8_door_62 : decode cX8_door 62 = .ok (.aload_n 0, 1) := by decide +kernel
theorem dX8_door_63 : decode cX8_door 63 = .ok (.getfield 84, 3) := by decide +kernel
theorem dX8_door_66 : decode cX8_door 66 = .ok (.iload_n 2, 1) := by decide +kernel
theorem dX8_door_67 : decode cX8_door 67 = .ok (.iastore, 1) := by decide +kernel
theorem dX8_door_68 : decode cX8_door 68 = .ok (.aload_n 0, 1) := by decide +kernel
theorem dX8_door_69 : decode cX8_door 69 = .ok (.getfield 16, 3) := by decide +kernel
theorem dX8_door_72 : decode cX8_door 72 = .ok (.aload_n 0, 1) := by decide +kernel
theorem dX8_door_73 : decode cX8_door 73 = .ok (.getfield 84, 3) := by decide +kernel
theorem dX8_door_76 : decode cX8_door 76 = .ok (.iload_n 3, 1) := by decide +kernel
theorem dX8_door_77 : decode cX8_door 77 = .ok (.iastore, 1) := by decide +kernel
theorem dX8_door_78 : decode cX8_door 78 = .ok (.aload_n 0, 1) := by decide +kernel
theorem dX8_door_79 : decode cX8_door 79 = .ok (.dup, 1) := by decide +kernel
theorem dX8_door_80 : decode cX8_door 80 = .ok (.getfield 84, 3) := by decide +kernel
theorem dX8_door_83 : decode cX8_door 83 = .ok (.iconst 1, 1) := by decide +kernel
theorem dX8_door_84 : decode cX8_door 84 = .ok (.iadd, 1) := by decide +kernel
theorem dX8_door_85 : decode cX8_door 85 = .ok (.putfield 84, 3) := by decide +kernel
theorem dX8_door_88 : decode cX8_door 88 = .ok (.aload_n 0, 1) := by decide +kernel
theorem dX8_door_89 : decode cX8_door 89 = .ok (.getfield 84, 3) := by decide +kernel
theorem dX8_door_92 : decode cX8_door 92 = .ok (.iconst 1, 1) := by decide +kernel
theorem dX8_door_93 : decode cX8_door 93 = .ok (.isub, 1) := by decide +kernel
theorem dX8_door_94 : decode cX8_door 94 = .ok (.ireturn, 1) := by decide +kernel
theorem dX8_key_0 : decode cX8_key 0 = .ok (.iload_n 1, 1) := by decide +kernel
theorem dX8_key_1 : decode cX8_key 1 = .ok (.i2l, 1) := by decide +kernel
theorem dX8_key_2 : decode cX8_key 2 = .ok (.lconst 0, 1) := by decide +kernel
theorem dX8_key_3 : decode cX8_key 3 = .ok (.ldc2_w 87, 3) := by decide +kernel
theorem dX8_key_6 : decode cX8_key 6 = .ok (.invokestatic 66, 3) := by decide +kernel
theorem dX8_key_9 : decode cX8_key 9 = .ok (.ifCond .eq 13, 3) := by decide +kernel
theorem dX8_key_12 : decode cX8_key 12 = .ok (.iload_n 2, 1) := by decide +kernel
theorem dX8_key_13 : decode cX8_key 13 = .ok (.i2l, 1) := by decide +kernel
theorem dX8_key_14 : decode cX8_key 14 = .ok (.lconst 0, 1) := by decide +kernel
theorem dX8_key_15 : decode cX8_key 15 = .ok (.lconst 1, 1) := by decide +kernel
theorem dX8_key_16 : decode cX8_key 16 = .ok (.invokestatic 66, 3) := by decide +kernel
theorem dX8_key_19 : decode cX8_key 19 = .ok (.ifCond .ne 5, 3) := by decide +kernel
theorem dX8_key_22 : decode cX8_key 22 = .ok (.iconst (-1), 1) := by decide +kernel
theorem dX8_key_23 : decode cX8_key 23 = .ok (.ireturn, 1) := by decide +kernel
theorem dX8_key_24 : decode cX8_key 24 = .ok (.aload_n 0, 1) := by decide +kernel
theorem dX8_key_25 : decode cX8_key 25 = .ok (.getfield 70, 3) := by decide +kernel
theorem dX8_key_28 : decode cX8_key 28 = .ok (.bipush 8, 2) := by decide +kernel
theorem dX8_key_30 : decode cX8_key 30 = .ok (.if_icmp .ne 6, 3) := by decide +kernel
theorem dX8_key_33 : decode cX8_key 33 = .ok (.bipush (-3), 2) := by decide +kernel
theorem dX8_key_35 : decode cX8_key 35 = .ok (.ireturn, 1) := by decide +kernel
theorem dX8_key_36 : decode cX8_key 36 = .ok (.aload_n 0, 1) := by decide +kernel
theorem dX8_key_37 : decode cX8_key 37 = .ok (.getfield 19, 3) := by decide +kernel
theorem dX8_key_40 : decode cX8_key 40 = .ok (.aload_n 0, 1) := by decide +kernel
theorem dX8_key_41 : decode cX8_key 41 = .ok (.getfield 70, 3) := by decide +kernel
theorem dX8_key_44 : decode cX8_key 44 = .ok (.iload_n 1, 1) := by decide +kernel
theorem dX8_key_45 : decode cX8_key 45 = .ok (.iastore, 1) := by decide +kernel
theorem dX8_key_46 : decode cX8_key 46 = .ok (.aload_n 0, 1) := by decide +kernel
theorem dX8_key_47 : decode cX8_key 47 = .ok (.getfield 22, 3) := by decide +kernel
theorem dX8_key_50 : decode cX8_key 50 = .ok (.aload_n 0, 1) := by decide +kernel
theorem dX8_key_51 : decode cX8_key 51 = .ok (.getfield 70, 3) := by decide +kernel
theorem dX8_key_54 : decode cX8_key 54 = .ok (.iload_n 2, 1) := by decide +kernel
theorem dX8_key_55 : decode cX8_key 55 = .ok (.iastore, 1) := by decide +kernel
theorem dX8_key_56 : decode cX8_key 56 = .ok (.aload_n 0, 1) := by decide +kernel
theorem dX8_key_57 : decode cX8_key 57 = .ok (.getfield 25, 3) := by decide +kernel
theorem dX8_key_60 : decode cX8_key 60 = .ok (.aload_n 0, 1) := by decide +kernel
theorem dX8_key_61 : decode cX8_key 61 = .ok (.getfield 70, 3) := by decide +kernel
theorem dX8_key_64 : decode cX8_key 64 = .ok (.iconst 4, 1) := by decide +kernel
theorem dX8_key_65 : decode cX8_key 65 = .ok (.iastore, 1) := by decide +kernel
theorem dX8_key_66 : decode cX8_key 66 = .ok (.aload_n 0, 1) := by decide +kernel
theorem dX8_key_67 : decode cX8_key 67 = .ok (.getfield 28, 3) := by decide +kernel
theorem dX8_key_70 : decode cX8_key 70 = .ok (.aload_n 0, 1) := by decide +kernel
theorem dX8_key_71 : decode cX8_key 71 = .ok (.getfield 70, 3) := by decide +kernel
theorem dX8_key_74 : decode cX8_key 74 = .ok (.iconst 0, 1) := by decide +kernel
theorem dX8_key_75 : decode cX8_key 75 = .ok (.iastore, 1) := by decide +kernel
theorem dX8_key_76 : decode cX8_key 76 = .ok (.aload_n 0, 1) := by decide +kernel
theorem dX8_key_77 : decode cX8_key 77 = .ok (.getfield 31, 3) := by decide +kernel
theorem dX8_key_80 : decode cX8_key 80 = .ok (.aload_n 0, 1) := by decide +kernel
theorem dX8_key_81 : decode cX8_key 81 = .ok (.getfield 70, 3) := by decide +kernel
theorem dX8_key_84 : decode cX8_key 84 = .ok (.iconst 0, 1) := by decide +kernel
theorem dX8_key_85 : decode cX8_key 85 = .ok (.iastore, 1) := by decide +kernel
theorem dX8_key_86 : decode cX8_key 86 = .ok (.aload_n 0, 1) := by decide +kernel
theorem dX8_key_87 : decode cX8_key 87 = .ok (.dup, 1) := by decide +kernel
theorem dX8_key_88 : decode cX8_key 88 = .ok (.getfield 70, 3) := by decide +kernel
theorem dX8_key_91 : decode cX8_key 91 = .ok (.iconst 1, 1) := by decide +kernel
theorem dX8_key_92 : decode cX8_key 92 = .ok (.iadd, 1) := by decide +kernel
theorem dX8_key_93 : decode cX8_key 93 = .ok (.putfield 70, 3) := by decide +kernel
theorem dX8_key_96 : decode cX8_key 96 = .ok (.aload_n 0, 1) := by decide +kernel
theorem dX8_key_97 : decode cX8_key 97 = .ok (.getfield 70, 3) := by decide +kernel
theorem dX8_key_100 : decode cX8_key 100 = .ok (.iconst 1, 1) := by decide +kernel
theorem dX8_key_101 : decode cX8_key 101 = .ok (.isub, 1) := by decide +kernel
theorem dX8_key_102 : decode cX8_key 102 = .ok (.ireturn, 1) := by decide +kernel
theorem dX8_told_0 : decode cX8_told 0 = .ok (.aload_n 0, 1) := by decide +kernel
theorem dX8_told_1 : decode cX8_told 1 = .ok (.iload_n 1, 1) := by decide +kernel
theorem dX8_told_2 : decode cX8_told 2 = .ok (.invokevirtual 89, 3) := by decide +kernel
theorem dX8_told_5 : decode cX8_told 5 = .ok (.ifCond .ne 5, 3) := by decide +kernel
theorem dX8_told_8 : decode cX8_told 8 = .ok (.iconst (-1), 1) := by decide +kernel
theorem dX8_told_9 : decode cX8_told 9 = .ok (.ireturn, 1) := by decide +kernel
theorem dX8_told_10 : decode cX8_told 10 = .ok (.iload_n 2, 1) := by decide +kernel
theorem dX8_told_11 : decode cX8_told 11 = .ok (.tableswitch 81 0 4 #[33, 40, 47, 54, 61], 33) := by decide +kernel
theorem dX8_told_44 : decode cX8_told 44 = .ok (.aload_n 0, 1) := by decide +kernel
theorem dX8_told_45 : decode cX8_told 45 = .ok (.getfield 19, 3) := by decide +kernel
theorem dX8_told_48 : decode cX8_told 48 = .ok (.iload_n 1, 1) := by decide +kernel
theorem dX8_told_49 : decode cX8_told 49 = .ok (.iaload, 1) := by decide +kernel
theorem dX8_told_50 : decode cX8_told 50 = .ok (.ireturn, 1) := by decide +kernel
theorem dX8_told_51 : decode cX8_told 51 = .ok (.aload_n 0, 1) := by decide +kernel
theorem dX8_told_52 : decode cX8_told 52 = .ok (.getfield 22, 3) := by decide +kernel
theorem dX8_told_55 : decode cX8_told 55 = .ok (.iload_n 1, 1) := by decide +kernel
theorem dX8_told_56 : decode cX8_told 56 = .ok (.iaload, 1) := by decide +kernel
theorem dX8_told_57 : decode cX8_told 57 = .ok (.ireturn, 1) := by decide +kernel
theorem dX8_told_58 : decode cX8_told 58 = .ok (.aload_n 0, 1) := by decide +kernel
theorem dX8_told_59 : decode cX8_told 59 = .ok (.getfield 25, 3) := by decide +kernel
theorem dX8_told_62 : decode cX8_told 62 = .ok (.iload_n 1, 1) := by decide +kernel
theorem dX8_told_63 : decode cX8_told 63 = .ok (.iaload, 1) := by decide +kernel
theorem dX8_told_64 : decode cX8_told 64 = .ok (.ireturn, 1) := by decide +kernel
theorem dX8_told_65 : decode cX8_told 65 = .ok (.aload_n 0, 1) := by decide +kernel
theorem dX8_told_66 : decode cX8_told 66 = .ok (.getfield 28, 3) := by decide +kernel
theorem dX8_told_69 : decode cX8_told 69 = .ok (.iload_n 1, 1) := by decide +kernel
theorem dX8_told_70 : decode cX8_told 70 = .ok (.iaload, 1) := by decide +kernel
theorem dX8_told_71 : decode cX8_told 71 = .ok (.ireturn, 1) := by decide +kernel
theorem dX8_told_72 : decode cX8_told 72 = .ok (.aload_n 0, 1) := by decide +kernel
theorem dX8_told_73 : decode cX8_told 73 = .ok (.getfield 28, 3) := by decide +kernel
theorem dX8_told_76 : decode cX8_told 76 = .ok (.iload_n 1, 1) := by decide +kernel
theorem dX8_told_77 : decode cX8_told 77 = .ok (.iaload, 1) := by decide +kernel
theorem dX8_told_78 : decode cX8_told 78 = .ok (.ifCond .ne 7, 3) := by decide +kernel
theorem dX8_told_81 : decode cX8_told 81 = .ok (.iconst 0, 1) := by decide +kernel
theorem dX8_told_82 : decode cX8_told 82 = .ok (.goto 9, 3) := by decide +kernel
theorem dX8_told_85 : decode cX8_told 85 = .ok (.aload_n 0, 1) := by decide +kernel
theorem dX8_told_86 : decode cX8_told 86 = .ok (.getfield 31, 3) := by decide +kernel
theorem dX8_told_89 : decode cX8_told 89 = .ok (.iload_n 1, 1) := by decide +kernel
theorem dX8_told_90 : decode cX8_told 90 = .ok (.iaload, 1) := by decide +kernel
theorem dX8_told_91 : decode cX8_told 91 = .ok (.ireturn, 1) := by decide +kernel
theorem dX8_told_92 : decode cX8_told 92 = .ok (.iconst (-1), 1) := by decide +kernel
theorem dX8_told_93 : decode cX8_told 93 = .ok (.ireturn, 1) := by decide +kernel
theorem dX8_of_0 : decode cX8_of 0 = .ok (.iload_n 1, 1) := by decide +kernel
theorem dX8_of_1 : decode cX8_of 1 = .ok (.i2l, 1) := by decide +kernel
theorem dX8_of_2 : decode cX8_of 2 = .ok (.lconst 0, 1) := by decide +kernel
theorem dX8_of_3 : decode cX8_of 3 = .ok (.aload_n 0, 1) := by decide +kernel
theorem dX8_of_4 : decode cX8_of 4 = .ok (.getfield 84, 3) := by decide +kernel
theorem dX8_of_7 : decode cX8_of 7 = .ok (.iconst 1, 1) := by decide +kernel
theorem dX8_of_8 : decode cX8_of 8 = .ok (.isub, 1) := by decide +kernel
theorem dX8_of_9 : decode cX8_of 9 = .ok (.i2l, 1) := by decide +kernel
theorem dX8_of_10 : decode cX8_of 10 = .ok (.invokestatic 66, 3) := by decide +kernel
theorem dX8_of_13 : decode cX8_of 13 = .ok (.ifCond .eq 15, 3) := by decide +kernel
theorem dX8_of_16 : decode cX8_of 16 = .ok (.iload_n 2, 1) := by decide +kernel
theorem dX8_of_17 : decode cX8_of 17 = .ok (.i2l, 1) := by decide +kernel
theorem dX8_of_18 : decode cX8_of 18 = .ok (.lconst 0, 1) := by decide +kernel
theorem dX8_of_19 : decode cX8_of 19 = .ok (.ldc2_w 92, 3) := by decide +kernel
theorem dX8_of_22 : decode cX8_of 22 = .ok (.invokestatic 66, 3) := by decide +kernel
theorem dX8_of_25 : decode cX8_of 25 = .ok (.ifCond .ne 5, 3) := by decide +kernel
theorem dX8_of_28 : decode cX8_of 28 = .ok (.iconst (-1), 1) := by decide +kernel
theorem dX8_of_29 : decode cX8_of 29 = .ok (.ireturn, 1) := by decide +kernel
theorem dX8_of_30 : decode cX8_of 30 = .ok (.iload_n 2, 1) := by decide +kernel
theorem dX8_of_31 : decode cX8_of 31 = .ok (.ifCond .ne 12, 3) := by decide +kernel
theorem dX8_of_34 : decode cX8_of 34 = .ok (.aload_n 0, 1) := by decide +kernel
theorem dX8_of_35 : decode cX8_of 35 = .ok (.getfield 7, 3) := by decide +kernel
theorem dX8_of_38 : decode cX8_of 38 = .ok (.iload_n 1, 1) := by decide +kernel
theorem dX8_of_39 : decode cX8_of 39 = .ok (.iaload, 1) := by decide +kernel
theorem dX8_of_40 : decode cX8_of 40 = .ok (.goto 23, 3) := by decide +kernel
theorem dX8_of_43 : decode cX8_of 43 = .ok (.iload_n 2, 1) := by decide +kernel
theorem dX8_of_44 : decode cX8_of 44 = .ok (.iconst 1, 1) := by decide +kernel
theorem dX8_of_45 : decode cX8_of 45 = .ok (.if_icmp .ne 12, 3) := by decide +kernel
theorem dX8_of_48 : decode cX8_of 48 = .ok (.aload_n 0, 1) := by decide +kernel
theorem dX8_of_49 : decode cX8_of 49 = .ok (.getfield 13, 3) := by decide +kernel
theorem dX8_of_52 : decode cX8_of 52 = .ok (.iload_n 1, 1) := by decide +kernel
theorem dX8_of_53 : decode cX8_of 53 = .ok (.iaload, 1) := by decide +kernel
theorem dX8_of_54 : decode cX8_of 54 = .ok (.goto 9, 3) := by decide +kernel
theorem dX8_of_57 : decode cX8_of 57 = .ok (.aload_n 0, 1) := by decide +kernel
theorem dX8_of_58 : decode cX8_of 58 = .ok (.getfield 16, 3) := by decide +kernel
theorem dX8_of_61 : decode cX8_of 61 = .ok (.iload_n 1, 1) := by decide +kernel
theorem dX8_of_62 : decode cX8_of 62 = .ok (.iaload, 1) := by decide +kernel
theorem dX8_of_63 : decode cX8_of 63 = .ok (.ireturn, 1) := by decide +kernel
theorem dX8_shownOf_0 : decode cX8_shownOf 0 = .ok (.iload_n 0, 1) := by decide +kernel
theorem dX8_shownOf_1 : decode cX8_shownOf 1 = .ok (.ifCond .ne 7, 3) := by decide +kernel
theorem dX8_shownOf_4 : decode cX8_shownOf 4 = .ok (.iload_n 2, 1) := by decide +kernel
theorem dX8_shownOf_5 : decode cX8_shownOf 5 = .ok (.goto 17, 3) := by decide +kernel
theorem dX8_shownOf_8 : decode cX8_shownOf 8 = .ok (.iload_n 0, 1) := by decide +kernel
theorem dX8_shownOf_9 : decode cX8_shownOf 9 = .ok (.iconst 2, 1) := by decide +kernel
theorem dX8_shownOf_10 : decode cX8_shownOf 10 = .ok (.if_icmp .ne 9, 3) := by decide +kernel
theorem dX8_shownOf_13 : decode cX8_shownOf 13 = .ok (.iconst 2, 1) := by decide +kernel
theorem dX8_shownOf_14 : decode cX8_shownOf 14 = .ok (.iload_n 2, 1) := by decide +kernel
theorem dX8_shownOf_15 : decode cX8_shownOf 15 = .ok (.imul, 1) := by decide +kernel
theorem dX8_shownOf_16 : decode cX8_shownOf 16 = .ok (.goto 6, 3) := by decide +kernel
theorem dX8_shownOf_19 : decode cX8_shownOf 19 = .ok (.iload_n 2, 1) := by decide +kernel
theorem dX8_shownOf_20 : decode cX8_shownOf 20 = .ok (.iconst 2, 1) := by decide +kernel
theorem dX8_shownOf_21 : decode cX8_shownOf 21 = .ok (.isub, 1) := by decide +kernel
theorem dX8_shownOf_22 : decode cX8_shownOf 22 = .ok (.istore_n 3, 1) := by decide +kernel
theorem dX8_shownOf_23 : decode cX8_shownOf 23 = .ok (.iload_n 3, 1) := by decide +kernel
theorem dX8_shownOf_24 : decode cX8_shownOf 24 = .ok (.ifCond .ge 7, 3) := by decide +kernel
theorem dX8_shownOf_27 : decode cX8_shownOf 27 = .ok (.iconst 0, 1) := by decide +kernel
theorem dX8_shownOf_28 : decode cX8_shownOf 28 = .ok (.goto 4, 3) := by decide +kernel
theorem dX8_shownOf_31 : decode cX8_shownOf 31 = .ok (.iload_n 3, 1) := by decide +kernel
theorem dX8_shownOf_32 : decode cX8_shownOf 32 = .ok (.istore_n 3, 1) := by decide +kernel
theorem dX8_shownOf_33 : decode cX8_shownOf 33 = .ok (.iload_n 3, 1) := by decide +kernel
theorem dX8_shownOf_34 : decode cX8_shownOf 34 = .ok (.iload_n 1, 1) := by decide +kernel
theorem dX8_shownOf_35 : decode cX8_shownOf 35 = .ok (.if_icmp .ge 7, 3) := by decide +kernel
theorem dX8_shownOf_38 : decode cX8_shownOf 38 = .ok (.iload_n 3, 1) := by decide +kernel
theorem dX8_shownOf_39 : decode cX8_shownOf 39 = .ok (.goto 4, 3) := by decide +kernel
theorem dX8_shownOf_42 : decode cX8_shownOf 42 = .ok (.iload_n 1, 1) := by decide +kernel
theorem dX8_shownOf_43 : decode cX8_shownOf 43 = .ok (.ireturn, 1) := by decide +kernel
theorem dX8_shownBy_0 : decode cX8_shownBy 0 = .ok (.aload_n 0, 1) := by decide +kernel
theorem dX8_shownBy_1 : decode cX8_shownBy 1 = .ok (.getfield 28, 3) := by decide +kernel
theorem dX8_shownBy_4 : decode cX8_shownBy 4 = .ok (.iload_n 1, 1) := by decide +kernel
theorem dX8_shownBy_5 : decode cX8_shownBy 5 = .ok (.iaload, 1) := by decide +kernel
theorem dX8_shownBy_6 : decode cX8_shownBy 6 = .ok (.ifCond .ne 7, 3) := by decide +kernel
theorem dX8_shownBy_9 : decode cX8_shownBy 9 = .ok (.iconst 0, 1) := by decide +kernel
theorem dX8_shownBy_10 : decode cX8_shownBy 10 = .ok (.goto 26, 3) := by decide +kernel
theorem dX8_shownBy_13 : decode cX8_shownBy 13 = .ok (.aload_n 0, 1) := by decide +kernel
theorem dX8_shownBy_14 : decode cX8_shownBy 14 = .ok (.getfield 19, 3) := by decide +kernel
theorem dX8_shownBy_17 : decode cX8_shownBy 17 = .ok (.iload_n 1, 1) := by decide +kernel
theorem dX8_shownBy_18 : decode cX8_shownBy 18 = .ok (.iaload, 1) := by decide +kernel
theorem dX8_shownBy_19 : decode cX8_shownBy 19 = .ok (.aload_n 0, 1) := by decide +kernel
theorem dX8_shownBy_20 : decode cX8_shownBy 20 = .ok (.getfield 28, 3) := by decide +kernel
theorem dX8_shownBy_23 : decode cX8_shownBy 23 = .ok (.iload_n 1, 1) := by decide +kernel
theorem dX8_shownBy_24 : decode cX8_shownBy 24 = .ok (.iaload, 1) := by decide +kernel
theorem dX8_shownBy_25 : decode cX8_shownBy 25 = .ok (.iload_n 2, 1) := by decide +kernel
theorem dX8_shownBy_26 : decode cX8_shownBy 26 = .ok (.aload_n 0, 1) := by decide +kernel
theorem dX8_shownBy_27 : decode cX8_shownBy 27 = .ok (.getfield 31, 3) := by decide +kernel
theorem dX8_shownBy_30 : decode cX8_shownBy 30 = .ok (.iload_n 1, 1) := by decide +kernel
theorem dX8_shownBy_31 : decode cX8_shownBy 31 = .ok (.iaload, 1) := by decide +kernel
theorem dX8_shownBy_32 : decode cX8_shownBy 32 = .ok (.isub, 1) := by decide +kernel
theorem dX8_shownBy_33 : decode cX8_shownBy 33 = .ok (.invokestatic 94, 3) := by decide +kernel
theorem dX8_shownBy_36 : decode cX8_shownBy 36 = .ok (.ireturn, 1) := by decide +kernel
theorem dX8_count_0 : decode cX8_count 0 = .ok (.iconst 0, 1) := by decide +kernel
theorem dX8_count_1 : decode cX8_count 1 = .ok (.istore_n 2, 1) := by decide +kernel
theorem dX8_count_2 : decode cX8_count 2 = .ok (.iconst 0, 1) := by decide +kernel
theorem dX8_count_3 : decode cX8_count 3 = .ok (.istore_n 3, 1) := by decide +kernel
theorem dX8_count_4 : decode cX8_count 4 = .ok (.iconst 0, 1) := by decide +kernel
theorem dX8_count_5 : decode cX8_count 5 = .ok (.istore 4, 2) := by decide +kernel
theorem dX8_count_7 : decode cX8_count 7 = .ok (.iload 4, 2) := by decide +kernel
theorem dX8_count_9 : decode cX8_count 9 = .ok (.aload_n 0, 1) := by decide +kernel
theorem dX8_count_10 : decode cX8_count 10 = .ok (.getfield 70, 3) := by decide +kernel
theorem dX8_count_13 : decode cX8_count 13 = .ok (.if_icmp .ge 48, 3) := by decide +kernel
theorem dX8_count_16 : decode cX8_count 16 = .ok (.iload_n 2, 1) := by decide +kernel
theorem dX8_count_17 : decode cX8_count 17 = .ok (.aload_n 0, 1) := by decide +kernel
theorem dX8_count_18 : decode cX8_count 18 = .ok (.getfield 28, 3) := by decide +kernel
theorem dX8_count_21 : decode cX8_count 21 = .ok (.iload 4, 2) := by decide +kernel
theorem dX8_count_23 : decode cX8_count 23 = .ok (.iaload, 1) := by decide +kernel
theorem dX8_count_24 : decode cX8_count 24 = .ok (.ifCond .le 7, 3) := by decide +kernel
theorem dX8_count_27 : decode cX8_count 27 = .ok (.iconst 1, 1) := by decide +kernel
theorem dX8_count_28 : decode cX8_count 28 = .ok (.goto 4, 3) := by decide +kernel
theorem dX8_count_31 : decode cX8_count 31 = .ok (.iconst 0, 1) := by decide +kernel
theorem dX8_count_32 : decode cX8_count 32 = .ok (.iadd, 1) := by decide +kernel
theorem dX8_count_33 : decode cX8_count 33 = .ok (.istore_n 2, 1) := by decide +kernel
theorem dX8_count_34 : decode cX8_count 34 = .ok (.iload_n 3, 1) := by decide +kernel
theorem dX8_count_35 : decode cX8_count 35 = .ok (.aload_n 0, 1) := by decide +kernel
theorem dX8_count_36 : decode cX8_count 36 = .ok (.iload 4, 2) := by decide +kernel
theorem dX8_count_38 : decode cX8_count 38 = .ok (.aload_n 0, 1) := by decide +kernel
theorem dX8_count_39 : decode cX8_count 39 = .ok (.getfield 98, 3) := by decide +kernel
theorem dX8_count_42 : decode cX8_count 42 = .ok (.invokevirtual 101, 3) := by decide +kernel
theorem dX8_count_45 : decode cX8_count 45 = .ok (.ifCond .le 7, 3) := by decide +kernel
theorem dX8_count_48 : decode cX8_count 48 = .ok (.iconst 1, 1) := by decide +kernel
theorem dX8_count_49 : decode cX8_count 49 = .ok (.goto 4, 3) := by decide +kernel
theorem dX8_count_52 : decode cX8_count 52 = .ok (.iconst 0, 1) := by decide +kernel
theorem dX8_count_53 : decode cX8_count 53 = .ok (.iadd, 1) := by decide +kernel
theorem dX8_count_54 : decode cX8_count 54 = .ok (.istore_n 3, 1) := by decide +kernel
theorem dX8_count_55 : decode cX8_count 55 = .ok (.iinc 4 1, 3) := by decide +kernel
theorem dX8_count_58 : decode cX8_count 58 = .ok (.goto (-51), 3) := by decide +kernel
theorem dX8_count_61 : decode cX8_count 61 = .ok (.iconst 0, 1) := by decide +kernel
theorem dX8_count_62 : decode cX8_count 62 = .ok (.istore 4, 2) := by decide +kernel
theorem dX8_count_64 : decode cX8_count 64 = .ok (.iconst 0, 1) := by decide +kernel
theorem dX8_count_65 : decode cX8_count 65 = .ok (.istore 5, 2) := by decide +kernel
theorem dX8_count_67 : decode cX8_count 67 = .ok (.iload 5, 2) := by decide +kernel
theorem dX8_count_69 : decode cX8_count 69 = .ok (.aload_n 0, 1) := by decide +kernel
theorem dX8_count_70 : decode cX8_count 70 = .ok (.getfield 84, 3) := by decide +kernel
theorem dX8_count_73 : decode cX8_count 73 = .ok (.if_icmp .ge 43, 3) := by decide +kernel
theorem dX8_count_76 : decode cX8_count 76 = .ok (.iload 4, 2) := by decide +kernel
theorem dX8_count_78 : decode cX8_count 78 = .ok (.aload_n 0, 1) := by decide +kernel
theorem dX8_count_79 : decode cX8_count 79 = .ok (.getfield 7, 3) := by decide +kernel
theorem dX8_count_82 : decode cX8_count 82 = .ok (.iload 5, 2) := by decide +kernel
theorem dX8_count_84 : decode cX8_count 84 = .ok (.iaload, 1) := by decide +kernel
theorem dX8_count_85 : decode cX8_count 85 = .ok (.bipush 10, 2) := by decide +kernel
theorem dX8_count_87 : decode cX8_count 87 = .ok (.if_icmp .eq 15, 3) := by decide +kernel
theorem dX8_count_90 : decode cX8_count 90 = .ok (.aload_n 0, 1) := by decide +kernel
theorem dX8_count_91 : decode cX8_count 91 = .ok (.getfield 13, 3) := by decide +kernel
theorem dX8_count_94 : decode cX8_count 94 = .ok (.iload 5, 2) := by decide +kernel
theorem dX8_count_96 : decode cX8_count 96 = .ok (.iaload, 1) := by decide +kernel
theorem dX8_count_97 : decode cX8_count 97 = .ok (.bipush 10, 2) := by decide +kernel
theorem dX8_count_99 : decode cX8_count 99 = .ok (.if_icmp .ne 7, 3) := by decide +kernel
theorem dX8_count_102 : decode cX8_count 102 = .ok (.iconst 1, 1) := by decide +kernel
theorem dX8_count_103 : decode cX8_count 103 = .ok (.goto 4, 3) := by decide +kernel
theorem dX8_count_106 : decode cX8_count 106 = .ok (.iconst 0, 1) := by decide +kernel
theorem dX8_count_107 : decode cX8_count 107 = .ok (.iadd, 1) := by decide +kernel
theorem dX8_count_108 : decode cX8_count 108 = .ok (.istore 4, 2) := by decide +kernel
theorem dX8_count_110 : decode cX8_count 110 = .ok (.iinc 5 1, 3) := by decide +kernel
theorem dX8_count_113 : decode cX8_count 113 = .ok (.goto (-46), 3) := by decide +kernel
theorem dX8_count_116 : decode cX8_count 116 = .ok (.iload_n 1, 1) := by decide +kernel
theorem dX8_count_117 : decode cX8_count 117 = .ok (.tableswitch 61 0 5 #[39, 44, 49, 51, 56, 58], 39) := by decide +kernel
theorem dX8_count_156 : decode cX8_count 156 = .ok (.aload_n 0, 1) := by decide +kernel
theorem dX8_count_157 : decode cX8_count 157 = .ok (.getfield 84, 3) := by decide +kernel
theorem dX8_count_160 : decode cX8_count 160 = .ok (.ireturn, 1) := by decide +kernel
theorem dX8_count_161 : decode cX8_count 161 = .ok (.aload_n 0, 1) := by decide +kernel
theorem dX8_count_162 : decode cX8_count 162 = .ok (.getfield 70, 3) := by decide +kernel
theorem dX8_count_165 : decode cX8_count 165 = .ok (.ireturn, 1) := by decide +kernel
theorem dX8_count_166 : decode cX8_count 166 = .ok (.iload_n 2, 1) := by decide +kernel
theorem dX8_count_167 : decode cX8_count 167 = .ok (.ireturn, 1) := by decide +kernel
theorem dX8_count_168 : decode cX8_count 168 = .ok (.aload_n 0, 1) := by decide +kernel
theorem dX8_count_169 : decode cX8_count 169 = .ok (.getfield 98, 3) := by decide +kernel
theorem dX8_count_172 : decode cX8_count 172 = .ok (.ireturn, 1) := by decide +kernel
theorem dX8_count_173 : decode cX8_count 173 = .ok (.iload_n 3, 1) := by decide +kernel
theorem dX8_count_174 : decode cX8_count 174 = .ok (.ireturn, 1) := by decide +kernel
theorem dX8_count_175 : decode cX8_count 175 = .ok (.iload 4, 2) := by decide +kernel
theorem dX8_count_177 : decode cX8_count 177 = .ok (.ireturn, 1) := by decide +kernel
theorem dX8_count_178 : decode cX8_count 178 = .ok (.iconst (-1), 1) := by decide +kernel
theorem dX8_count_179 : decode cX8_count 179 = .ok (.ireturn, 1) := by decide +kernel
theorem dX8_type_0 : decode cX8_type 0 = .ok (.iload_n 3, 1) := by decide +kernel
theorem dX8_type_1 : decode cX8_type 1 = .ok (.i2l, 1) := by decide +kernel
theorem dX8_type_2 : decode cX8_type 2 = .ok (.lconst 1, 1) := by decide +kernel
theorem dX8_type_3 : decode cX8_type 3 = .ok (.ldc2_w 82, 3) := by decide +kernel
theorem dX8_type_6 : decode cX8_type 6 = .ok (.invokestatic 66, 3) := by decide +kernel
theorem dX8_type_9 : decode cX8_type 9 = .ok (.ifCond .ne 5, 3) := by decide +kernel
theorem dX8_type_12 : decode cX8_type 12 = .ok (.iconst (-1), 1) := by decide +kernel
theorem dX8_type_13 : decode cX8_type 13 = .ok (.ireturn, 1) := by decide +kernel
theorem dX8_type_14 : decode cX8_type 14 = .ok (.iload_n 3, 1) := by decide +kernel
theorem dX8_type_15 : decode cX8_type 15 = .ok (.iconst 1, 1) := by decide +kernel
theorem dX8_type_16 : decode cX8_type 16 = .ok (.isub, 1) := by decide +kernel
theorem dX8_type_17 : decode cX8_type 17 = .ok (.istore 4, 2) := by decide +kernel
theorem dX8_type_19 : decode cX8_type 19 = .ok (.iload 4, 2) := by decide +kernel
theorem dX8_type_21 : decode cX8_type 21 = .ok (.ifCond .lt 34, 3) := by decide +kernel
theorem dX8_type_24 : decode cX8_type 24 = .ok (.lload_n 1, 1) := by decide +kernel
theorem dX8_type_25 : decode cX8_type 25 = .ok (.bipush 8, 2) := by decide +kernel
theorem dX8_type_27 : decode cX8_type 27 = .ok (.iload 4, 2) := by decide +kernel
theorem dX8_type_29 : decode cX8_type 29 = .ok (.imul, 1) := by decide +kernel
theorem dX8_type_30 : decode cX8_type 30 = .ok (.lshr, 1) := by decide +kernel
theorem dX8_type_31 : decode cX8_type 31 = .ok (.ldc2_w 105, 3) := by decide +kernel
theorem dX8_type_34 : decode cX8_type 34 = .ok (.land, 1) := by decide +kernel
theorem dX8_type_35 : decode cX8_type 35 = .ok (.ldc2_w 107, 3) := by decide +kernel
theorem dX8_type_38 : decode cX8_type 38 = .ok (.ldc2_w 109, 3) := by decide +kernel
theorem dX8_type_41 : decode cX8_type 41 = .ok (.invokestatic 66, 3) := by decide +kernel
theorem dX8_type_44 : decode cX8_type 44 = .ok (.ifCond .ne 5, 3) := by decide +kernel
theorem dX8_type_47 : decode cX8_type 47 = .ok (.iconst (-1), 1) := by decide +kernel
theorem dX8_type_48 : decode cX8_type 48 = .ok (.ireturn, 1) := by decide +kernel
theorem dX8_type_49 : decode cX8_type 49 = .ok (.iinc 4 (-1), 3) := by decide +kernel
theorem dX8_type_52 : decode cX8_type 52 = .ok (.goto (-33), 3) := by decide +kernel
theorem dX8_type_55 : decode cX8_type 55 = .ok (.aload_n 0, 1) := by decide +kernel
theorem dX8_type_56 : decode cX8_type 56 = .ok (.getfield 111, 3) := by decide +kernel
theorem dX8_type_59 : decode cX8_type 59 = .ok (.iload_n 3, 1) := by decide +kernel
theorem dX8_type_60 : decode cX8_type 60 = .ok (.iadd, 1) := by decide +kernel
theorem dX8_type_61 : decode cX8_type 61 = .ok (.sipush 160, 3) := by decide +kernel
theorem dX8_type_64 : decode cX8_type 64 = .ok (.if_icmp .le 6, 3) := by decide +kernel
theorem dX8_type_67 : decode cX8_type 67 = .ok (.bipush (-3), 2) := by decide +kernel
theorem dX8_type_69 : decode cX8_type 69 = .ok (.ireturn, 1) := by decide +kernel
theorem dX8_type_70 : decode cX8_type 70 = .ok (.iload_n 3, 1) := by decide +kernel
theorem dX8_type_71 : decode cX8_type 71 = .ok (.iconst 1, 1) := by decide +kernel
theorem dX8_type_72 : decode cX8_type 72 = .ok (.isub, 1) := by decide +kernel
theorem dX8_type_73 : decode cX8_type 73 = .ok (.istore 4, 2) := by decide +kernel
theorem dX8_type_75 : decode cX8_type 75 = .ok (.iload 4, 2) := by decide +kernel
theorem dX8_type_77 : decode cX8_type 77 = .ok (.ifCond .lt 40, 3) := by decide +kernel
theorem dX8_type_80 : decode cX8_type 80 = .ok (.aload_n 0, 1) := by decide +kernel
theorem dX8_type_81 : decode cX8_type 81 = .ok (.getfield 34, 3) := by decide +kernel
theorem dX8_type_84 : decode cX8_type 84 = .ok (.aload_n 0, 1) := by decide +kernel
theorem dX8_type_85 : decode cX8_type 85 = .ok (.getfield 111, 3) := by decide +kernel
theorem dX8_type_88 : decode cX8_type 88 = .ok (.lload_n 1, 1) := by decide +kernel
theorem dX8_type_89 : decode cX8_type 89 = .ok (.bipush 8, 2) := by decide +kernel
theorem dX8_type_91 : decode cX8_type 91 = .ok (.iload 4, 2) := by decide +kernel
theorem dX8_type_93 : decode cX8_type 93 = .ok (.imul, 1) := by decide +kernel
theorem dX8_type_94 : decode cX8_type 94 = .ok (.lshr, 1) := by decide +kernel
theorem dX8_type_95 : decode cX8_type 95 = .ok (.ldc2_w 105, 3) := by decide +kernel
theorem dX8_type_98 : decode cX8_type 98 = .ok (.land, 1) := by decide +kernel
theorem dX8_type_99 : decode cX8_type 99 = .ok (.l2i, 1) := by decide +kernel
theorem dX8_type_100 : decode cX8_type 100 = .ok (.iastore, 1) := by decide +kernel
theorem dX8_type_101 : decode cX8_type 101 = .ok (.aload_n 0, 1) := by decide +kernel
theorem dX8_type_102 : decode cX8_type 102 = .ok (.dup, 1) := by decide +kernel
theorem dX8_type_103 : decode cX8_type 103 = .ok (.getfield 111, 3) := by decide +kernel
theorem dX8_type_106 : decode cX8_type 106 = .ok (.iconst 1, 1) := by decide +kernel
theorem dX8_type_107 : decode cX8_type 107 = .ok (.iadd, 1) := by decide +kernel
theorem dX8_type_108 : decode cX8_type 108 = .ok (.putfield 111, 3) := by decide +kernel
theorem dX8_type_111 : decode cX8_type 111 = .ok (.iinc 4 (-1), 3) := by decide +kernel
theorem dX8_type_114 : decode cX8_type 114 = .ok (.goto (-39), 3) := by decide +kernel
theorem dX8_type_117 : decode cX8_type 117 = .ok (.aload_n 0, 1) := by decide +kernel
theorem dX8_type_118 : decode cX8_type 118 = .ok (.getfield 111, 3) := by decide +kernel
theorem dX8_type_121 : decode cX8_type 121 = .ok (.ireturn, 1) := by decide +kernel
theorem dX8_nextByte_0 : decode cX8_nextByte 0 = .ok (.aload_n 0, 1) := by decide +kernel
theorem dX8_nextByte_1 : decode cX8_nextByte 1 = .ok (.getfield 114, 3) := by decide +kernel
theorem dX8_nextByte_4 : decode cX8_nextByte 4 = .ok (.aload_n 0, 1) := by decide +kernel
theorem dX8_nextByte_5 : decode cX8_nextByte 5 = .ok (.getfield 111, 3) := by decide +kernel
theorem dX8_nextByte_8 : decode cX8_nextByte 8 = .ok (.if_icmp .ge 30, 3) := by decide +kernel
theorem dX8_nextByte_11 : decode cX8_nextByte 11 = .ok (.aload_n 0, 1) := by decide +kernel
theorem dX8_nextByte_12 : decode cX8_nextByte 12 = .ok (.getfield 34, 3) := by decide +kernel
theorem dX8_nextByte_15 : decode cX8_nextByte 15 = .ok (.aload_n 0, 1) := by decide +kernel
theorem dX8_nextByte_16 : decode cX8_nextByte 16 = .ok (.getfield 114, 3) := by decide +kernel
theorem dX8_nextByte_19 : decode cX8_nextByte 19 = .ok (.iaload, 1) := by decide +kernel
theorem dX8_nextByte_20 : decode cX8_nextByte 20 = .ok (.bipush 32, 2) := by decide +kernel
theorem dX8_nextByte_22 : decode cX8_nextByte 22 = .ok (.if_icmp .ne 16, 3) := by decide +kernel
theorem dX8_nextByte_25 : decode cX8_nextByte 25 = .ok (.aload_n 0, 1) := by decide +kernel
theorem dX8_nextByte_26 : decode cX8_nextByte 26 = .ok (.dup, 1) := by decide +kernel
theorem dX8_nextByte_27 : decode cX8_nextByte 27 = .ok (.getfield 114, 3) := by decide +kernel
theorem dX8_nextByte_30 : decode cX8_nextByte 30 = .ok (.iconst 1, 1) := by decide +kernel
theorem dX8_nextByte_31 : decode cX8_nextByte 31 = .ok (.iadd, 1) := by decide +kernel
theorem dX8_nextByte_32 : decode cX8_nextByte 32 = .ok (.putfield 114, 3) := by decide +kernel
theorem dX8_nextByte_35 : decode cX8_nextByte 35 = .ok (.goto (-35), 3) := by decide +kernel
theorem dX8_nextByte_38 : decode cX8_nextByte 38 = .ok (.aload_n 0, 1) := by decide +kernel
theorem dX8_nextByte_39 : decode cX8_nextByte 39 = .ok (.getfield 114, 3) := by decide +kernel
theorem dX8_nextByte_42 : decode cX8_nextByte 42 = .ok (.aload_n 0, 1) := by decide +kernel
theorem dX8_nextByte_43 : decode cX8_nextByte 43 = .ok (.getfield 111, 3) := by decide +kernel
theorem dX8_nextByte_46 : decode cX8_nextByte 46 = .ok (.if_icmp .ge 15, 3) := by decide +kernel
theorem dX8_nextByte_49 : decode cX8_nextByte 49 = .ok (.aload_n 0, 1) := by decide +kernel
theorem dX8_nextByte_50 : decode cX8_nextByte 50 = .ok (.getfield 34, 3) := by decide +kernel
theorem dX8_nextByte_53 : decode cX8_nextByte 53 = .ok (.aload_n 0, 1) := by decide +kernel
theorem dX8_nextByte_54 : decode cX8_nextByte 54 = .ok (.getfield 114, 3) := by decide +kernel
theorem dX8_nextByte_57 : decode cX8_nextByte 57 = .ok (.iaload, 1) := by decide +kernel
theorem dX8_nextByte_58 : decode cX8_nextByte 58 = .ok (.goto 4, 3) := by decide +kernel
theorem dX8_nextByte_61 : decode cX8_nextByte 61 = .ok (.iconst (-1), 1) := by decide +kernel
theorem dX8_nextByte_62 : decode cX8_nextByte 62 = .ok (.ireturn, 1) := by decide +kernel
theorem dX8_takes_0 : decode cX8_takes 0 = .ok (.aload_n 0, 1) := by decide +kernel
theorem dX8_takes_1 : decode cX8_takes 1 = .ok (.invokevirtual 117, 3) := by decide +kernel
theorem dX8_takes_4 : decode cX8_takes 4 = .ok (.iload_n 1, 1) := by decide +kernel
theorem dX8_takes_5 : decode cX8_takes 5 = .ok (.if_icmp .ne 7, 3) := by decide +kernel
theorem dX8_takes_8 : decode cX8_takes 8 = .ok (.iconst 1, 1) := by decide +kernel
theorem dX8_takes_9 : decode cX8_takes 9 = .ok (.goto 4, 3) := by decide +kernel
theorem dX8_takes_12 : decode cX8_takes 12 = .ok (.iconst 0, 1) := by decide +kernel
theorem dX8_takes_13 : decode cX8_takes 13 = .ok (.istore_n 2, 1) := by decide +kernel
theorem dX8_takes_14 : decode cX8_takes 14 = .ok (.aload_n 0, 1) := by decide +kernel
theorem dX8_takes_15 : decode cX8_takes 15 = .ok (.dup, 1) := by decide +kernel
theorem dX8_takes_16 : decode cX8_takes 16 = .ok (.getfield 114, 3) := by decide +kernel
theorem dX8_takes_19 : decode cX8_takes 19 = .ok (.iload_n 2, 1) := by decide +kernel
theorem dX8_takes_20 : decode cX8_takes 20 = .ok (.ifCond .eq 7, 3) := by decide +kernel
theorem dX8_takes_23 : decode cX8_takes 23 = .ok (.iconst 1, 1) := by decide +kernel
theorem dX8_takes_24 : decode cX8_takes 24 = .ok (.goto 4, 3) := by decide +kernel
theorem dX8_takes_27 : decode cX8_takes 27 = .ok (.iconst 0, 1) := by decide +kernel
theorem dX8_takes_28 : decode cX8_takes 28 = .ok (.iadd, 1) := by decide +kernel
theorem dX8_takes_29 : decode cX8_takes 29 = .ok (.putfield 114, 3) := by decide +kernel
theorem dX8_takes_32 : decode cX8_takes 32 = .ok (.iload_n 2, 1) := by decide +kernel
theorem dX8_takes_33 : decode cX8_takes 33 = .ok (.ireturn, 1) := by decide +kernel
theorem dX8_readDigit_0 : decode cX8_readDigit 0 = .ok (.aload_n 0, 1) := by decide +kernel
theorem dX8_readDigit_1 : decode cX8_readDigit 1 = .ok (.invokevirtual 117, 3) := by decide +kernel
theorem dX8_readDigit_4 : decode cX8_readDigit 4 = .ok (.bipush 48, 2) := by decide +kernel
theorem dX8_readDigit_6 : decode cX8_readDigit 6 = .ok (.isub, 1) := by decide +kernel
theorem dX8_readDigit_7 : decode cX8_readDigit 7 = .ok (.istore_n 2, 1) := by decide +kernel
theorem dX8_readDigit_8 : decode cX8_readDigit 8 = .ok (.iload_n 2, 1) := by decide +kernel
theorem dX8_readDigit_9 : decode cX8_readDigit 9 = .ok (.i2l, 1) := by decide +kernel
theorem dX8_readDigit_10 : decode cX8_readDigit 10 = .ok (.lconst 0, 1) := by decide +kernel
theorem dX8_readDigit_11 : decode cX8_readDigit 11 = .ok (.iload_n 1, 1) := by decide +kernel
theorem dX8_readDigit_12 : decode cX8_readDigit 12 = .ok (.i2l, 1) := by decide +kernel
theorem dX8_readDigit_13 : decode cX8_readDigit 13 = .ok (.invokestatic 66, 3) := by decide +kernel
theorem dX8_readDigit_16 : decode cX8_readDigit 16 = .ok (.ifCond .ne 5, 3) := by decide +kernel
theorem dX8_readDigit_19 : decode cX8_readDigit 19 = .ok (.iconst (-1), 1) := by decide +kernel
theorem dX8_readDigit_20 : decode cX8_readDigit 20 = .ok (.ireturn, 1) := by decide +kernel
theorem dX8_readDigit_21 : decode cX8_readDigit 21 = .ok (.aload_n 0, 1) := by decide +kernel
theorem dX8_readDigit_22 : decode cX8_readDigit 22 = .ok (.dup, 1) := by decide +kernel
theorem dX8_readDigit_23 : decode cX8_readDigit 23 = .ok (.getfield 114, 3) := by decide +kernel
theorem dX8_readDigit_26 : decode cX8_readDigit 26 = .ok (.iconst 1, 1) := by decide +kernel
theorem dX8_readDigit_27 : decode cX8_readDigit 27 = .ok (.iadd, 1) := by decide +kernel
theorem dX8_readDigit_28 : decode cX8_readDigit 28 = .ok (.putfield 114, 3) := by decide +kernel
theorem dX8_readDigit_31 : decode cX8_readDigit 31 = .ok (.iload_n 2, 1) := by decide +kernel
theorem dX8_readDigit_32 : decode cX8_readDigit 32 = .ok (.ireturn, 1) := by decide +kernel
theorem dX8_readMinutes_0 : decode cX8_readMinutes 0 = .ok (.aload_n 0, 1) := by decide +kernel
theorem dX8_readMinutes_1 : decode cX8_readMinutes 1 = .ok (.invokevirtual 117, 3) := by decide +kernel
theorem dX8_readMinutes_4 : decode cX8_readMinutes 4 = .ok (.pop, 1) := by decide +kernel
theorem dX8_readMinutes_5 : decode cX8_readMinutes 5 = .ok (.aload_n 0, 1) := by decide +kernel
theorem dX8_readMinutes_6 : decode cX8_readMinutes 6 = .ok (.getfield 114, 3) := by decide +kernel
theorem dX8_readMinutes_9 : decode cX8_readMinutes 9 = .ok (.istore_n 1, 1) := by decide +kernel
theorem dX8_readMinutes_10 : decode cX8_readMinutes 10 = .ok (.iconst 0, 1) := by decide +kernel
theorem dX8_readMinutes_11 : decode cX8_readMinutes 11 = .ok (.istore_n 2, 1) := by decide +kernel
theorem dX8_readMinutes_12 : decode cX8_readMinutes 12 = .ok (.aload_n 0, 1) := by decide +kernel
theorem dX8_readMinutes_13 : decode cX8_readMinutes 13 = .ok (.getfield 114, 3) := by decide +kernel
theorem dX8_readMinutes_16 : decode cX8_readMinutes 16 = .ok (.aload_n 0, 1) := by decide +kernel
theorem dX8_readMinutes_17 : decode cX8_readMinutes 17 = .ok (.getfield 111, 3) := by decide +kernel
theorem dX8_readMinutes_20 : decode cX8_readMinutes 20 = .ok (.if_icmp .ge 67, 3) := by decide +kernel
theorem dX8_readMinutes_23 : decode cX8_readMinutes 23 = .ok (.aload_n 0, 1) := by decide +kernel
theorem dX8_readMinutes_24 : decode cX8_readMinutes 24 = .ok (.getfield 34, 3) := by decide +kernel
theorem dX8_readMinutes_27 : decode cX8_readMinutes 27 = .ok (.aload_n 0, 1) := by decide +kernel
theorem dX8_readMinutes_28 : decode cX8_readMinutes 28 = .ok (.getfield 114, 3) := by decide +kernel
theorem dX8_readMinutes_31 : decode cX8_readMinutes 31 = .ok (.iaload, 1) := by decide +kernel
theorem dX8_readMinutes_32 : decode cX8_readMinutes 32 = .ok (.i2l, 1) := by decide +kernel
theorem dX8_readMinutes_33 : decode cX8_readMinutes 33 = .ok (.ldc2_w 121, 3) := by decide +kernel
theorem dX8_readMinutes_36 : decode cX8_readMinutes 36 = .ok (.ldc2_w 123, 3) := by decide +kernel
theorem dX8_readMinutes_39 : decode cX8_readMinutes 39 = .ok (.invokestatic 66, 3) := by decide +kernel
theorem dX8_readMinutes_42 : decode cX8_readMinutes 42 = .ok (.ifCond .eq 45, 3) := by decide +kernel
theorem dX8_readMinutes_45 : decode cX8_readMinutes 45 = .ok (.iload_n 2, 1) := by decide +kernel
theorem dX8_readMinutes_46 : decode cX8_readMinutes 46 = .ok (.sipush 9999, 3) := by decide +kernel
theorem dX8_readMinutes_49 : decode cX8_readMinutes 49 = .ok (.if_icmp .le 7, 3) := by decide +kernel
theorem dX8_readMinutes_52 : decode cX8_readMinutes 52 = .ok (.iload_n 2, 1) := by decide +kernel
theorem dX8_readMinutes_53 : decode cX8_readMinutes 53 = .ok (.goto 20, 3) := by decide +kernel
theorem dX8_readMinutes_56 : decode cX8_readMinutes 56 = .ok (.bipush 10, 2) := by decide +kernel
theorem dX8_readMinutes_58 : decode cX8_readMinutes 58 = .ok (.iload_n 2, 1) := by decide +kernel
theorem dX8_readMinutes_59 : decode cX8_readMinutes 59 = .ok (.imul, 1) := by decide +kernel
theorem dX8_readMinutes_60 : decode cX8_readMinutes 60 = .ok (.aload_n 0, 1) := by decide +kernel
theorem dX8_readMinutes_61 : decode cX8_readMinutes 61 = .ok (.getfield 34, 3) := by decide +kernel
theorem dX8_readMinutes_64 : decode cX8_readMinutes 64 = .ok (.aload_n 0, 1) := by decide +kernel
theorem dX8_readMinutes_65 : decode cX8_readMinutes 65 = .ok (.getfield 114, 3) := by decide +kernel
theorem dX8_readMinutes_68 : decode cX8_readMinutes 68 = .ok (.iaload, 1) := by decide +kernel
theorem dX8_readMinutes_69 : decode cX8_readMinutes 69 = .ok (.iadd, 1) := by decide +kernel
theorem dX8_readMinutes_70 : decode cX8_readMinutes 70 = .ok (.bipush 48, 2) := by decide +kernel
theorem dX8_readMinutes_72 : decode cX8_readMinutes 72 = .ok (.isub, 1) := by decide +kernel
theorem dX8_readMinutes_73 : decode cX8_readMinutes 73 = .ok (.istore_n 2, 1) := by decide +kernel
theorem dX8_readMinutes_74 : decode cX8_readMinutes 74 = .ok (.aload_n 0, 1) := by decide +kernel
theorem dX8_readMinutes_75 : decode cX8_readMinutes 75 = .ok (.dup, 1) := by decide +kernel
theorem dX8_readMinutes_76 : decode cX8_readMinutes 76 = .ok (.getfield 114, 3) := by decide +kernel
theorem dX8_readMinutes_79 : decode cX8_readMinutes 79 = .ok (.iconst 1, 1) := by decide +kernel
theorem dX8_readMinutes_80 : decode cX8_readMinutes 80 = .ok (.iadd, 1) := by decide +kernel
theorem dX8_readMinutes_81 : decode cX8_readMinutes 81 = .ok (.putfield 114, 3) := by decide +kernel
theorem dX8_readMinutes_84 : decode cX8_readMinutes 84 = .ok (.goto (-72), 3) := by decide +kernel
theorem dX8_readMinutes_87 : decode cX8_readMinutes 87 = .ok (.aload_n 0, 1) := by decide +kernel
theorem dX8_readMinutes_88 : decode cX8_readMinutes 88 = .ok (.getfield 114, 3) := by decide +kernel
theorem dX8_readMinutes_91 : decode cX8_readMinutes 91 = .ok (.iload_n 1, 1) := by decide +kernel
theorem dX8_readMinutes_92 : decode cX8_readMinutes 92 = .ok (.if_icmp .ne 5, 3) := by decide +kernel
theorem dX8_readMinutes_95 : decode cX8_readMinutes 95 = .ok (.iconst (-1), 1) := by decide +kernel
theorem dX8_readMinutes_96 : decode cX8_readMinutes 96 = .ok (.ireturn, 1) := by decide +kernel
theorem dX8_readMinutes_97 : decode cX8_readMinutes 97 = .ok (.iload_n 2, 1) := by decide +kernel
theorem dX8_readMinutes_98 : decode cX8_readMinutes 98 = .ok (.bipush 30, 2) := by decide +kernel
theorem dX8_readMinutes_100 : decode cX8_readMinutes 100 = .ok (.if_icmp .le 10, 3) := by decide +kernel
theorem dX8_readMinutes_103 : decode cX8_readMinutes 103 = .ok (.aload_n 0, 1) := by decide +kernel
theorem dX8_readMinutes_104 : decode cX8_readMinutes 104 = .ok (.iload_n 1, 1) := by decide +kernel
theorem dX8_readMinutes_105 : decode cX8_readMinutes 105 = .ok (.putfield 114, 3) := by decide +kernel
theorem dX8_readMinutes_108 : decode cX8_readMinutes 108 = .ok (.iconst (-1), 1) := by decide +kernel
theorem dX8_readMinutes_109 : decode cX8_readMinutes 109 = .ok (.ireturn, 1) := by decide +kernel
theorem dX8_readMinutes_110 : decode cX8_readMinutes 110 = .ok (.iload_n 2, 1) := by decide +kernel
theorem dX8_readMinutes_111 : decode cX8_readMinutes 111 = .ok (.ireturn, 1) := by decide +kernel
theorem dX8_signOf_0 : decode cX8_signOf 0 = .ok (.iload_n 1, 1) := by decide +kernel
theorem dX8_signOf_1 : decode cX8_signOf 1 = .ok (.bipush 103, 2) := by decide +kernel
theorem dX8_signOf_3 : decode cX8_signOf 3 = .ok (.if_icmp .ne 8, 3) := by decide +kernel
theorem dX8_signOf_6 : decode cX8_signOf 6 = .ok (.bipush 10, 2) := by decide +kernel
theorem dX8_signOf_8 : decode cX8_signOf 8 = .ok (.goto 25, 3) := by decide +kernel
theorem dX8_signOf_11 : decode cX8_signOf 11 = .ok (.iload_n 1, 1) := by decide +kernel
theorem dX8_signOf_12 : decode cX8_signOf 12 = .ok (.i2l, 1) := by decide +kernel
theorem dX8_signOf_13 : decode cX8_signOf 13 = .ok (.ldc2_w 121, 3) := by decide +kernel
theorem dX8_signOf_16 : decode cX8_signOf 16 = .ok (.ldc2_w 123, 3) := by decide +kernel
theorem dX8_signOf_19 : decode cX8_signOf 19 = .ok (.invokestatic 66, 3) := by decide +kernel
theorem dX8_signOf_22 : decode cX8_signOf 22 = .ok (.ifCond .eq 10, 3) := by decide +kernel
theorem dX8_signOf_25 : decode cX8_signOf 25 = .ok (.iload_n 1, 1) := by decide +kernel
theorem dX8_signOf_26 : decode cX8_signOf 26 = .ok (.bipush 48, 2) := by decide +kernel
theorem dX8_signOf_28 : decode cX8_signOf 28 = .ok (.isub, 1) := by decide +kernel
theorem dX8_signOf_29 : decode cX8_signOf 29 = .ok (.goto 4, 3) := by decide +kernel
theorem dX8_signOf_32 : decode cX8_signOf 32 = .ok (.iconst (-1), 1) := by decide +kernel
theorem dX8_signOf_33 : decode cX8_signOf 33 = .ok (.ireturn, 1) := by decide +kernel
theorem dX8_readDoor_0 : decode cX8_readDoor 0 = .ok (.aload_n 0, 1) := by decide +kernel
theorem dX8_readDoor_1 : decode cX8_readDoor 1 = .ok (.getfield 37, 3) := by decide +kernel
theorem dX8_readDoor_4 : decode cX8_readDoor 4 = .ok (.iload_n 1, 1) := by decide +kernel
theorem dX8_readDoor_5 : decode cX8_readDoor 5 = .ok (.aload_n 0, 1) := by decide +kernel
theorem dX8_readDoor_6 : decode cX8_readDoor 6 = .ok (.aload_n 0, 1) := by decide +kernel
theorem dX8_readDoor_7 : decode cX8_readDoor 7 = .ok (.invokevirtual 117, 3) := by decide +kernel
theorem dX8_readDoor_10 : decode cX8_readDoor 10 = .ok (.invokevirtual 125, 3) := by decide +kernel
theorem dX8_readDoor_13 : decode cX8_readDoor 13 = .ok (.iastore, 1) := by decide +kernel
theorem dX8_readDoor_14 : decode cX8_readDoor 14 = .ok (.aload_n 0, 1) := by decide +kernel
theorem dX8_readDoor_15 : decode cX8_readDoor 15 = .ok (.getfield 37, 3) := by decide +kernel
theorem dX8_readDoor_18 : decode cX8_readDoor 18 = .ok (.iload_n 1, 1) := by decide +kernel
theorem dX8_readDoor_19 : decode cX8_readDoor 19 = .ok (.iaload, 1) := by decide +kernel
theorem dX8_readDoor_20 : decode cX8_readDoor 20 = .ok (.ifCond .ge 5, 3) := by decide +kernel
theorem dX8_readDoor_23 : decode cX8_readDoor 23 = .ok (.iconst 0, 1) := by decide +kernel
theorem dX8_readDoor_24 : decode cX8_readDoor 24 = .ok (.ireturn, 1) := by decide +kernel
theorem dX8_readDoor_25 : decode cX8_readDoor 25 = .ok (.aload_n 0, 1) := by decide +kernel
theorem dX8_readDoor_26 : decode cX8_readDoor 26 = .ok (.dup, 1) := by decide +kernel
theorem dX8_readDoor_27 : decode cX8_readDoor 27 = .ok (.getfield 114, 3) := by decide +kernel
theorem dX8_readDoor_30 : decode cX8_readDoor 30 = .ok (.iconst 1, 1) := by decide +kernel
theorem dX8_readDoor_31 : decode cX8_readDoor 31 = .ok (.iadd, 1) := by decide +kernel
theorem dX8_readDoor_32 : decode cX8_readDoor 32 = .ok (.putfield 114, 3) := by decide +kernel
theorem dX8_readDoor_35 : decode cX8_readDoor 35 = .ok (.aload_n 0, 1) := by decide +kernel
theorem dX8_readDoor_36 : decode cX8_readDoor 36 = .ok (.bipush 45, 2) := by decide +kernel
theorem dX8_readDoor_38 : decode cX8_readDoor 38 = .ok (.invokevirtual 129, 3) := by decide +kernel
theorem dX8_readDoor_41 : decode cX8_readDoor 41 = .ok (.ifCond .ne 5, 3) := by decide +kernel
theorem dX8_readDoor_44 : decode cX8_readDoor 44 = .ok (.iconst 0, 1) := by decide +kernel
theorem dX8_readDoor_45 : decode cX8_readDoor 45 = .ok (.ireturn, 1) := by decide +kernel
theorem dX8_readDoor_46 : decode cX8_readDoor 46 = .ok (.aload_n 0, 1) := by decide +kernel
theorem dX8_readDoor_47 : decode cX8_readDoor 47 = .ok (.getfield 37, 3) := by decide +kernel
theorem dX8_readDoor_50 : decode cX8_readDoor 50 = .ok (.iload_n 1, 1) := by decide +kernel
theorem dX8_readDoor_51 : decode cX8_readDoor 51 = .ok (.iconst 1, 1) := by decide +kernel
theorem dX8_readDoor_52 : decode cX8_readDoor 52 = .ok (.iadd, 1) := by decide +kernel
theorem dX8_readDoor_53 : decode cX8_readDoor 53 = .ok (.aload_n 0, 1) := by decide +kernel
theorem dX8_readDoor_54 : decode cX8_readDoor 54 = .ok (.aload_n 0, 1) := by decide +kernel
theorem dX8_readDoor_55 : decode cX8_readDoor 55 = .ok (.invokevirtual 117, 3) := by decide +kernel
theorem dX8_readDoor_58 : decode cX8_readDoor 58 = .ok (.invokevirtual 125, 3) := by decide +kernel
theorem dX8_readDoor_61 : decode cX8_readDoor 61 = .ok (.iastore, 1) := by decide +kernel
theorem dX8_readDoor_62 : decode cX8_readDoor 62 = .ok (.aload_n 0, 1) := by decide +kernel
theorem dX8_readDoor_63 : decode cX8_readDoor 63 = .ok (.getfield 37, 3) := by decide +kernel
theorem dX8_readDoor_66 : decode cX8_readDoor 66 = .ok (.iload_n 1, 1) := by decide +kernel
theorem dX8_readDoor_67 : decode cX8_readDoor 67 = .ok (.iconst 1, 1) := by decide +kernel
theorem dX8_readDoor_68 : decode cX8_readDoor 68 = .ok (.iadd, 1) := by decide +kernel
theorem dX8_readDoor_69 : decode cX8_readDoor 69 = .ok (.iaload, 1) := by decide +kernel
theorem dX8_readDoor_70 : decode cX8_readDoor 70 = .ok (.ifCond .lt 23, 3) := by decide +kernel
theorem dX8_readDoor_73 : decode cX8_readDoor 73 = .ok (.aload_n 0, 1) := by decide +kernel
theorem dX8_readDoor_74 : decode cX8_readDoor 74 = .ok (.getfield 37, 3) := by decide +kernel
theorem dX8_readDoor_77 : decode cX8_readDoor 77 = .ok (.iload_n 1, 1) := by decide +kernel
theorem dX8_readDoor_78 : decode cX8_readDoor 78 = .ok (.iaload, 1) := by decide +kernel
theorem dX8_readDoor_79 : decode cX8_readDoor 79 = .ok (.aload_n 0, 1) := by decide +kernel
theorem dX8_readDoor_80 : decode cX8_readDoor 80 = .ok (.getfield 37, 3) := by decide +kernel
theorem dX8_readDoor_83 : decode cX8_readDoor 83 = .ok (.iload_n 1, 1) := by decide +kernel
theorem dX8_readDoor_84 : decode cX8_readDoor 84 = .ok (.iconst 1, 1) := by decide +kernel
theorem dX8_readDoor_85 : decode cX8_readDoor 85 = .ok (.iadd, 1) := by decide +kernel
theorem dX8_readDoor_86 : decode cX8_readDoor 86 = .ok (.iaload, 1) := by decide +kernel
theorem dX8_readDoor_87 : decode cX8_readDoor 87 = .ok (.invokestatic 78, 3) := by decide +kernel
theorem dX8_readDoor_90 : decode cX8_readDoor 90 = .ok (.ifCond .ne 5, 3) := by decide +kernel
theorem dX8_readDoor_93 : decode cX8_readDoor 93 = .ok (.iconst 0, 1) := by decide +kernel
theorem dX8_readDoor_94 : decode cX8_readDoor 94 = .ok (.ireturn, 1) := by decide +kernel
theorem dX8_readDoor_95 : decode cX8_readDoor 95 = .ok (.aload_n 0, 1) := by decide +kernel
theorem dX8_readDoor_96 : decode cX8_readDoor 96 = .ok (.dup, 1) := by decide +kernel
theorem dX8_readDoor_97 : decode cX8_readDoor 97 = .ok (.getfield 114, 3) := by decide +kernel
theorem dX8_readDoor_100 : decode cX8_readDoor 100 = .ok (.iconst 1, 1) := by decide +kernel
theorem dX8_readDoor_101 : decode cX8_readDoor 101 = .ok (.iadd, 1) := by decide +kernel
theorem dX8_readDoor_102 : decode cX8_readDoor 102 = .ok (.putfield 114, 3) := by decide +kernel
theorem dX8_readDoor_105 : decode cX8_readDoor 105 = .ok (.aload_n 0, 1) := by decide +kernel
theorem dX8_readDoor_106 : decode cX8_readDoor 106 = .ok (.getfield 37, 3) := by decide +kernel
theorem dX8_readDoor_109 : decode cX8_readDoor 109 = .ok (.iload_n 1, 1) := by decide +kernel
theorem dX8_readDoor_110 : decode cX8_readDoor 110 = .ok (.iconst 2, 1) := by decide +kernel
theorem dX8_readDoor_111 : decode cX8_readDoor 111 = .ok (.iadd, 1) := by decide +kernel
theorem dX8_readDoor_112 : decode cX8_readDoor 112 = .ok (.aload_n 0, 1) := by decide +kernel
theorem dX8_readDoor_113 : decode cX8_readDoor 113 = .ok (.bipush 108, 2) := by decide +kernel
theorem dX8_readDoor_115 : decode cX8_readDoor 115 = .ok (.invokevirtual 129, 3) := by decide +kernel
theorem dX8_readDoor_118 : decode cX8_readDoor 118 = .ok (.ifCond .eq 12, 3) := by decide +kernel
theorem dX8_readDoor_121 : decode cX8_readDoor 121 = .ok (.aload_n 0, 1) := by decide +kernel
theorem dX8_readDoor_122 : decode cX8_readDoor 122 = .ok (.bipush 7, 2) := by decide +kernel
theorem dX8_readDoor_124 : decode cX8_readDoor 124 = .ok (.invokevirtual 132, 3) := by decide +kernel
theorem dX8_readDoor_127 : decode cX8_readDoor 127 = .ok (.goto 5, 3) := by decide +kernel
theorem dX8_readDoor_130 : decode cX8_readDoor 130 = .ok (.bipush 8, 2) := by decide +kernel
theorem dX8_readDoor_132 : decode cX8_readDoor 132 = .ok (.iastore, 1) := by decide +kernel
theorem dX8_readDoor_133 : decode cX8_readDoor 133 = .ok (.aload_n 0, 1) := by decide +kernel
theorem dX8_readDoor_134 : decode cX8_readDoor 134 = .ok (.getfield 37, 3) := by decide +kernel
theorem dX8_readDoor_137 : decode cX8_readDoor 137 = .ok (.iload_n 1, 1) := by decide +kernel
theorem dX8_readDoor_138 : decode cX8_readDoor 138 = .ok (.iconst 2, 1) := by decide +kernel
theorem dX8_readDoor_139 : decode cX8_readDoor 139 = .ok (.iadd, 1) := by decide +kernel
theorem dX8_readDoor_140 : decode cX8_readDoor 140 = .ok (.iaload, 1) := by decide +kernel
theorem dX8_readDoor_141 : decode cX8_readDoor 141 = .ok (.ifCond .lt 7, 3) := by decide +kernel
theorem dX8_readDoor_144 : decode cX8_readDoor 144 = .ok (.iconst 1, 1) := by decide +kernel
theorem dX8_readDoor_145 : decode cX8_readDoor 145 = .ok (.goto 4, 3) := by decide +kernel
theorem dX8_readDoor_148 : decode cX8_readDoor 148 = .ok (.iconst 0, 1) := by decide +kernel
theorem dX8_readDoor_149 : decode cX8_readDoor 149 = .ok (.ireturn, 1) := by decide +kernel
theorem dX8_readHouse_0 : decode cX8_readHouse 0 = .ok (.aload_n 0, 1) := by decide +kernel
theorem dX8_readHouse_1 : decode cX8_readHouse 1 = .ok (.iconst 0, 1) := by decide +kernel
theorem dX8_readHouse_2 : decode cX8_readHouse 2 = .ok (.putfield 114, 3) := by decide +kernel
theorem dX8_readHouse_5 : decode cX8_readHouse 5 = .ok (.iconst 0, 1) := by decide +kernel
theorem dX8_readHouse_6 : decode cX8_readHouse 6 = .ok (.istore_n 1, 1) := by decide +kernel
theorem dX8_readHouse_7 : decode cX8_readHouse 7 = .ok (.iload_n 1, 1) := by decide +kernel
theorem dX8_readHouse_8 : decode cX8_readHouse 8 = .ok (.bipush 16, 2) := by decide +kernel
theorem dX8_readHouse_10 : decode cX8_readHouse 10 = .ok (.if_icmp .ge 63, 3) := by decide +kernel
theorem dX8_readHouse_13 : decode cX8_readHouse 13 = .ok (.aload_n 0, 1) := by decide +kernel
theorem dX8_readHouse_14 : decode cX8_readHouse 14 = .ok (.iconst 3, 1) := by decide +kernel
theorem dX8_readHouse_15 : decode cX8_readHouse 15 = .ok (.iload_n 1, 1) := by decide +kernel
theorem dX8_readHouse_16 : decode cX8_readHouse 16 = .ok (.imul, 1) := by decide +kernel
theorem dX8_readHouse_17 : decode cX8_readHouse 17 = .ok (.invokevirtual 135, 3) := by decide +kernel
theorem dX8_readHouse_20 : decode cX8_readHouse 20 = .ok (.ifCond .ne 5, 3) := by decide +kernel
theorem dX8_readHouse_23 : decode cX8_readHouse 23 = .ok (.iconst 0, 1) := by decide +kernel
theorem dX8_readHouse_24 : decode cX8_readHouse 24 = .ok (.ireturn, 1) := by decide +kernel
theorem dX8_readHouse_25 : decode cX8_readHouse 25 = .ok (.aload_n 0, 1) := by decide +kernel
theorem dX8_readHouse_26 : decode cX8_readHouse 26 = .ok (.iload_n 1, 1) := by decide +kernel
theorem dX8_readHouse_27 : decode cX8_readHouse 27 = .ok (.iconst 1, 1) := by decide +kernel
theorem dX8_readHouse_28 : decode cX8_readHouse 28 = .ok (.iadd, 1) := by decide +kernel
theorem dX8_readHouse_29 : decode cX8_readHouse 29 = .ok (.putfield 138, 3) := by decide +kernel
theorem dX8_readHouse_32 : decode cX8_readHouse 32 = .ok (.aload_n 0, 1) := by decide +kernel
theorem dX8_readHouse_33 : decode cX8_readHouse 33 = .ok (.invokevirtual 117, 3) := by decide +kernel
theorem dX8_readHouse_36 : decode cX8_readHouse 36 = .ok (.istore_n 2, 1) := by decide +kernel
theorem dX8_readHouse_37 : decode cX8_readHouse 37 = .ok (.iload_n 2, 1) := by decide +kernel
theorem dX8_readHouse_38 : decode cX8_readHouse 38 = .ok (.ifCond .ge 5, 3) := by decide +kernel
theorem dX8_readHouse_41 : decode cX8_readHouse 41 = .ok (.iconst 1, 1) := by decide +kernel
theorem dX8_readHouse_42 : decode cX8_readHouse 42 = .ok (.ireturn, 1) := by decide +kernel
theorem dX8_readHouse_43 : decode cX8_readHouse 43 = .ok (.iload_n 2, 1) := by decide +kernel
theorem dX8_readHouse_44 : decode cX8_readHouse 44 = .ok (.bipush 44, 2) := by decide +kernel
theorem dX8_readHouse_46 : decode cX8_readHouse 46 = .ok (.if_icmp .ne 9, 3) := by decide +kernel
theorem dX8_readHouse_49 : decode cX8_readHouse 49 = .ok (.iload_n 1, 1) := by decide +kernel
theorem dX8_readHouse_50 : decode cX8_readHouse 50 = .ok (.bipush 15, 2) := by decide +kernel
theorem dX8_readHouse_52 : decode cX8_readHouse 52 = .ok (.if_icmp .ne 5, 3) := by decide +kernel
theorem dX8_readHouse_55 : decode cX8_readHouse 55 = .ok (.iconst 0, 1) := by decide +kernel
theorem dX8_readHouse_56 : decode cX8_readHouse 56 = .ok (.ireturn, 1) := by decide +kernel
theorem dX8_readHouse_57 : decode cX8_readHouse 57 = .ok (.aload_n 0, 1) := by decide +kernel
theorem dX8_readHouse_58 : decode cX8_readHouse 58 = .ok (.dup, 1) := by decide +kernel
theorem dX8_readHouse_59 : decode cX8_readHouse 59 = .ok (.getfield 114, 3) := by decide +kernel
theorem dX8_readHouse_62 : decode cX8_readHouse 62 = .ok (.iconst 1, 1) := by decide +kernel
theorem dX8_readHouse_63 : decode cX8_readHouse 63 = .ok (.iadd, 1) := by decide +kernel
theorem dX8_readHouse_64 : decode cX8_readHouse 64 = .ok (.putfield 114, 3) := by decide +kernel
theorem dX8_readHouse_67 : decode cX8_readHouse 67 = .ok (.iinc 1 1, 3) := by decide +kernel
theorem dX8_readHouse_70 : decode cX8_readHouse 70 = .ok (.goto (-63), 3) := by decide +kernel
theorem dX8_readHouse_73 : decode cX8_readHouse 73 = .ok (.iconst 0, 1) := by decide +kernel
theorem dX8_readHouse_74 : decode cX8_readHouse 74 = .ok (.ireturn, 1) := by decide +kernel
theorem dX8_end_0 : decode cX8_end 0 = .ok (.iload_n 1, 1) := by decide +kernel
theorem dX8_end_1 : decode cX8_end 1 = .ok (.ifCond .ne 8, 3) := by decide +kernel
theorem dX8_end_4 : decode cX8_end 4 = .ok (.aload_n 0, 1) := by decide +kernel
theorem dX8_end_5 : decode cX8_end 5 = .ok (.invokevirtual 117, 3) := by decide +kernel
theorem dX8_end_8 : decode cX8_end 8 = .ok (.pop, 1) := by decide +kernel
theorem dX8_end_9 : decode cX8_end 9 = .ok (.aload_n 0, 1) := by decide +kernel
theorem dX8_end_10 : decode cX8_end 10 = .ok (.iconst 0, 1) := by decide +kernel
theorem dX8_end_11 : decode cX8_end 11 = .ok (.putfield 111, 3) := by decide +kernel
theorem dX8_end_14 : decode cX8_end 14 = .ok (.iload_n 1, 1) := by decide +kernel
theorem dX8_end_15 : decode cX8_end 15 = .ok (.ifCond .eq 7, 3) := by decide +kernel
theorem dX8_end_18 : decode cX8_end 18 = .ok (.iconst 0, 1) := by decide +kernel
theorem dX8_end_19 : decode cX8_end 19 = .ok (.goto 10, 3) := by decide +kernel
theorem dX8_end_22 : decode cX8_end 22 = .ok (.bipush (-20), 2) := by decide +kernel
theorem dX8_end_24 : decode cX8_end 24 = .ok (.aload_n 0, 1) := by decide +kernel
theorem dX8_end_25 : decode cX8_end 25 = .ok (.getfield 114, 3) := by decide +kernel
theorem dX8_end_28 : decode cX8_end 28 = .ok (.isub, 1) := by decide +kernel
theorem dX8_end_29 : decode cX8_end 29 = .ok (.ireturn, 1) := by decide +kernel
theorem dX8_house_0 : decode cX8_house 0 = .ok (.aload_n 0, 1) := by decide +kernel
theorem dX8_house_1 : decode cX8_house 1 = .ok (.aload_n 0, 1) := by decide +kernel
theorem dX8_house_2 : decode cX8_house 2 = .ok (.invokevirtual 141, 3) := by decide +kernel
theorem dX8_house_5 : decode cX8_house 5 = .ok (.invokevirtual 145, 3) := by decide +kernel
theorem dX8_house_8 : decode cX8_house 8 = .ok (.istore_n 1, 1) := by decide +kernel
theorem dX8_house_9 : decode cX8_house 9 = .ok (.iload_n 1, 1) := by decide +kernel
theorem dX8_house_10 : decode cX8_house 10 = .ok (.ifCond .ge 5, 3) := by decide +kernel
theorem dX8_house_13 : decode cX8_house 13 = .ok (.iload_n 1, 1) := by decide +kernel
theorem dX8_house_14 : decode cX8_house 14 = .ok (.ireturn, 1) := by decide +kernel
theorem dX8_house_15 : decode cX8_house 15 = .ok (.aload_n 0, 1) := by decide +kernel
theorem dX8_house_16 : decode cX8_house 16 = .ok (.aload_n 0, 1) := by decide +kernel
theorem dX8_house_17 : decode cX8_house 17 = .ok (.getfield 138, 3) := by decide +kernel
theorem dX8_house_20 : decode cX8_house 20 = .ok (.putfield 84, 3) := by decide +kernel
theorem dX8_house_23 : decode cX8_house 23 = .ok (.iconst 0, 1) := by decide +kernel
theorem dX8_house_24 : decode cX8_house 24 = .ok (.istore_n 2, 1) := by decide +kernel
theorem dX8_house_25 : decode cX8_house 25 = .ok (.iload_n 2, 1) := by decide +kernel
theorem dX8_house_26 : decode cX8_house 26 = .ok (.aload_n 0, 1) := by decide +kernel
theorem dX8_house_27 : decode cX8_house 27 = .ok (.getfield 84, 3) := by decide +kernel
theorem dX8_house_30 : decode cX8_house 30 = .ok (.if_icmp .ge 55, 3) := by decide +kernel
theorem dX8_house_33 : decode cX8_house 33 = .ok (.aload_n 0, 1) := by decide +kernel
theorem dX8_house_34 : decode cX8_house 34 = .ok (.getfield 7, 3) := by decide +kernel
theorem dX8_house_37 : decode cX8_house 37 = .ok (.iload_n 2, 1) := by decide +kernel
theorem dX8_house_38 : decode cX8_house 38 = .ok (.aload_n 0, 1) := by decide +kernel
theorem dX8_house_39 : decode cX8_house 39 = .ok (.getfield 37, 3) := by decide +kernel
theorem dX8_house_42 : decode cX8_house 42 = .ok (.iconst 3, 1) := by decide +kernel
theorem dX8_house_43 : decode cX8_house 43 = .ok (.iload_n 2, 1) := by decide +kernel
theorem dX8_house_44 : decode cX8_house 44 = .ok (.imul, 1) := by decide +kernel
theorem dX8_house_45 : decode cX8_house 45 = .ok (.iaload, 1) := by decide +kernel
theorem dX8_house_46 : decode cX8_house 46 = .ok (.iastore, 1) := by decide +kernel
theorem dX8_house_47 : decode cX8_house 47 = .ok (.aload_n 0, 1) := by decide +kernel
theorem dX8_house_48 : decode cX8_house 48 = .ok (.getfield 13, 3) := by decide +kernel
theorem dX8_house_51 : decode cX8_house 51 = .ok (.iload_n 2, 1) := by decide +kernel
theorem dX8_house_52 : decode cX8_house 52 = .ok (.aload_n 0, 1) := by decide +kernel
theorem dX8_house_53 : decode cX8_house 53 = .ok (.getfield 37, 3) := by decide +kernel
theorem dX8_house_56 : decode cX8_house 56 = .ok (.iconst 3, 1) := by decide +kernel
theorem dX8_house_57 : decode cX8_house 57 = .ok (.iload_n 2, 1) := by decide +kernel
theorem dX8_house_58 : decode cX8_house 58 = .ok (.imul, 1) := by decide +kernel
theorem dX8_house_59 : decode cX8_house 59 = .ok (.iconst 1, 1) := by decide +kernel
theorem dX8_house_60 : decode cX8_house 60 = .ok (.iadd, 1) := by decide +kernel
theorem dX8_house_61 : decode cX8_house 61 = .ok (.iaload, 1) := by decide +kernel
theorem dX8_house_62 : decode cX8_house 62 = .ok (.iastore, 1) := by decide +kernel
theorem dX8_house_63 : decode cX8_house 63 = .ok (.aload_n 0, 1) := by decide +kernel
theorem dX8_house_64 : decode cX8_house 64 = .ok (.getfield 16, 3) := by decide +kernel
theorem dX8_house_67 : decode cX8_house 67 = .ok (.iload_n 2, 1) := by decide +kernel
theorem dX8_house_68 : decode cX8_house 68 = .ok (.aload_n 0, 1) := by decide +kernel
theorem dX8_house_69 : decode cX8_house 69 = .ok (.getfield 37, 3) := by decide +kernel
theorem dX8_house_72 : decode cX8_house 72 = .ok (.iconst 3, 1) := by decide +kernel
theorem dX8_house_73 : decode cX8_house 73 = .ok (.iload_n 2, 1) := by decide +kernel
theorem dX8_house_74 : decode cX8_house 74 = .ok (.imul, 1) := by decide +kernel
theorem dX8_house_75 : decode cX8_house 75 = .ok (.iconst 2, 1) := by decide +kernel
theorem dX8_house_76 : decode cX8_house 76 = .ok (.iadd, 1) := by decide +kernel
theorem dX8_house_77 : decode cX8_house 77 = .ok (.iaload, 1) := by decide +kernel
theorem dX8_house_78 : decode cX8_house 78 = .ok (.iastore, 1) := by decide +kernel
theorem dX8_house_79 : decode cX8_house 79 = .ok (.iinc 2 1, 3) := by decide +kernel
theorem dX8_house_82 : decode cX8_house 82 = .ok (.goto (-57), 3) := by decide +kernel
theorem dX8_house_85 : decode cX8_house 85 = .ok (.aload_n 0, 1) := by decide +kernel
theorem dX8_house_86 : decode cX8_house 86 = .ok (.getfield 84, 3) := by decide +kernel
theorem dX8_house_89 : decode cX8_house 89 = .ok (.ireturn, 1) := by decide +kernel
theorem dX8_readVisit_0 : decode cX8_readVisit 0 = .ok (.aload_n 0, 1) := by decide +kernel
theorem dX8_readVisit_1 : decode cX8_readVisit 1 = .ok (.getfield 37, 3) := by decide +kernel
theorem dX8_readVisit_4 : decode cX8_readVisit 4 = .ok (.iload_n 1, 1) := by decide +kernel
theorem dX8_readVisit_5 : decode cX8_readVisit 5 = .ok (.iconst 1, 1) := by decide +kernel
theorem dX8_readVisit_6 : decode cX8_readVisit 6 = .ok (.iadd, 1) := by decide +kernel
theorem dX8_readVisit_7 : decode cX8_readVisit 7 = .ok (.aload_n 0, 1) := by decide +kernel
theorem dX8_readVisit_8 : decode cX8_readVisit 8 = .ok (.iconst 3, 1) := by decide +kernel
theorem dX8_readVisit_9 : decode cX8_readVisit 9 = .ok (.invokevirtual 132, 3) := by decide +kernel
theorem dX8_readVisit_12 : decode cX8_readVisit 12 = .ok (.iastore, 1) := by decide +kernel
theorem dX8_readVisit_13 : decode cX8_readVisit 13 = .ok (.aload_n 0, 1) := by decide +kernel
theorem dX8_readVisit_14 : decode cX8_readVisit 14 = .ok (.getfield 37, 3) := by decide +kernel
theorem dX8_readVisit_17 : decode cX8_readVisit 17 = .ok (.iload_n 1, 1) := by decide +kernel
theorem dX8_readVisit_18 : decode cX8_readVisit 18 = .ok (.iconst 1, 1) := by decide +kernel
theorem dX8_readVisit_19 : decode cX8_readVisit 19 = .ok (.iadd, 1) := by decide +kernel
theorem dX8_readVisit_20 : decode cX8_readVisit 20 = .ok (.iaload, 1) := by decide +kernel
theorem dX8_readVisit_21 : decode cX8_readVisit 21 = .ok (.ifCond .lt 12, 3) := by decide +kernel
theorem dX8_readVisit_24 : decode cX8_readVisit 24 = .ok (.aload_n 0, 1) := by decide +kernel
theorem dX8_readVisit_25 : decode cX8_readVisit 25 = .ok (.bipush 62, 2) := by decide +kernel
theorem dX8_readVisit_27 : decode cX8_readVisit 27 = .ok (.invokevirtual 129, 3) := by decide +kernel
theorem dX8_readVisit_30 : decode cX8_readVisit 30 = .ok (.ifCond .ne 5, 3) := by decide +kernel
theorem dX8_readVisit_33 : decode cX8_readVisit 33 = .ok (.iconst 0, 1) := by decide +kernel
theorem dX8_readVisit_34 : decode cX8_readVisit 34 = .ok (.ireturn, 1) := by decide +kernel
theorem dX8_readVisit_35 : decode cX8_readVisit 35 = .ok (.aload_n 0, 1) := by decide +kernel
theorem dX8_readVisit_36 : decode cX8_readVisit 36 = .ok (.getfield 37, 3) := by decide +kernel
theorem dX8_readVisit_39 : decode cX8_readVisit 39 = .ok (.iload_n 1, 1) := by decide +kernel
theorem dX8_readVisit_40 : decode cX8_readVisit 40 = .ok (.iconst 2, 1) := by decide +kernel
theorem dX8_readVisit_41 : decode cX8_readVisit 41 = .ok (.iadd, 1) := by decide +kernel
theorem dX8_readVisit_42 : decode cX8_readVisit 42 = .ok (.aload_n 0, 1) := by decide +kernel
theorem dX8_readVisit_43 : decode cX8_readVisit 43 = .ok (.bipush 9, 2) := by decide +kernel
theorem dX8_readVisit_45 : decode cX8_readVisit 45 = .ok (.invokevirtual 132, 3) := by decide +kernel
theorem dX8_readVisit_48 : decode cX8_readVisit 48 = .ok (.iastore, 1) := by decide +kernel
theorem dX8_readVisit_49 : decode cX8_readVisit 49 = .ok (.aload_n 0, 1) := by decide +kernel
theorem dX8_readVisit_50 : decode cX8_readVisit 50 = .ok (.getfield 37, 3) := by decide +kernel
theorem dX8_readVisit_53 : decode cX8_readVisit 53 = .ok (.iload_n 1, 1) := by decide +kernel
theorem dX8_readVisit_54 : decode cX8_readVisit 54 = .ok (.iconst 2, 1) := by decide +kernel
theorem dX8_readVisit_55 : decode cX8_readVisit 55 = .ok (.iadd, 1) := by decide +kernel
theorem dX8_readVisit_56 : decode cX8_readVisit 56 = .ok (.iaload, 1) := by decide +kernel
theorem dX8_readVisit_57 : decode cX8_readVisit 57 = .ok (.ifCond .lt 12, 3) := by decide +kernel
theorem dX8_readVisit_60 : decode cX8_readVisit 60 = .ok (.aload_n 0, 1) := by decide +kernel
theorem dX8_readVisit_61 : decode cX8_readVisit 61 = .ok (.bipush 58, 2) := by decide +kernel
theorem dX8_readVisit_63 : decode cX8_readVisit 63 = .ok (.invokevirtual 129, 3) := by decide +kernel
theorem dX8_readVisit_66 : decode cX8_readVisit 66 = .ok (.ifCond .ne 5, 3) := by decide +kernel
theorem dX8_readVisit_69 : decode cX8_readVisit 69 = .ok (.iconst 0, 1) := by decide +kernel
theorem dX8_readVisit_70 : decode cX8_readVisit 70 = .ok (.ireturn, 1) := by decide +kernel
theorem dX8_readVisit_71 : decode cX8_readVisit 71 = .ok (.aload_n 0, 1) := by decide +kernel
theorem dX8_readVisit_72 : decode cX8_readVisit 72 = .ok (.getfield 37, 3) := by decide +kernel
theorem dX8_readVisit_75 : decode cX8_readVisit 75 = .ok (.iload_n 1, 1) := by decide +kernel
theorem dX8_readVisit_76 : decode cX8_readVisit 76 = .ok (.iconst 3, 1) := by decide +kernel
theorem dX8_readVisit_77 : decode cX8_readVisit 77 = .ok (.iadd, 1) := by decide +kernel
theorem dX8_readVisit_78 : decode cX8_readVisit 78 = .ok (.aload_n 0, 1) := by decide +kernel
theorem dX8_readVisit_79 : decode cX8_readVisit 79 = .ok (.invokevirtual 149, 3) := by decide +kernel
theorem dX8_readVisit_82 : decode cX8_readVisit 82 = .ok (.iastore, 1) := by decide +kernel
theorem dX8_readVisit_83 : decode cX8_readVisit 83 = .ok (.aload_n 0, 1) := by decide +kernel
theorem dX8_readVisit_84 : decode cX8_readVisit 84 = .ok (.getfield 37, 3) := by decide +kernel
theorem dX8_readVisit_87 : decode cX8_readVisit 87 = .ok (.iload_n 1, 1) := by decide +kernel
theorem dX8_readVisit_88 : decode cX8_readVisit 88 = .ok (.iconst 3, 1) := by decide +kernel
theorem dX8_readVisit_89 : decode cX8_readVisit 89 = .ok (.iadd, 1) := by decide +kernel
theorem dX8_readVisit_90 : decode cX8_readVisit 90 = .ok (.iaload, 1) := by decide +kernel
theorem dX8_readVisit_91 : decode cX8_readVisit 91 = .ok (.ifCond .lt 7, 3) := by decide +kernel
theorem dX8_readVisit_94 : decode cX8_readVisit 94 = .ok (.iconst 1, 1) := by decide +kernel
theorem dX8_readVisit_95 : decode cX8_readVisit 95 = .ok (.goto 4, 3) := by decide +kernel
theorem dX8_readVisit_98 : decode cX8_readVisit 98 = .ok (.iconst 0, 1) := by decide +kernel
theorem dX8_readVisit_99 : decode cX8_readVisit 99 = .ok (.ireturn, 1) := by decide +kernel
theorem dX8_readWash_0 : decode cX8_readWash 0 = .ok (.aload_n 0, 1) := by decide +kernel
theorem dX8_readWash_1 : decode cX8_readWash 1 = .ok (.getfield 37, 3) := by decide +kernel
theorem dX8_readWash_4 : decode cX8_readWash 4 = .ok (.iload_n 1, 1) := by decide +kernel
theorem dX8_readWash_5 : decode cX8_readWash 5 = .ok (.iconst 1, 1) := by decide +kernel
theorem dX8_readWash_6 : decode cX8_readWash 6 = .ok (.iadd, 1) := by decide +kernel
theorem dX8_readWash_7 : decode cX8_readWash 7 = .ok (.aload_n 0, 1) := by decide +kernel
theorem dX8_readWash_8 : decode cX8_readWash 8 = .ok (.iconst 3, 1) := by decide +kernel
theorem dX8_readWash_9 : decode cX8_readWash 9 = .ok (.invokevirtual 132, 3) := by decide +kernel
theorem dX8_readWash_12 : decode cX8_readWash 12 = .ok (.iastore, 1) := by decide +kernel
theorem dX8_readWash_13 : decode cX8_readWash 13 = .ok (.aload_n 0, 1) := by decide +kernel
theorem dX8_readWash_14 : decode cX8_readWash 14 = .ok (.getfield 37, 3) := by decide +kernel
theorem dX8_readWash_17 : decode cX8_readWash 17 = .ok (.iload_n 1, 1) := by decide +kernel
theorem dX8_readWash_18 : decode cX8_readWash 18 = .ok (.iconst 1, 1) := by decide +kernel
theorem dX8_readWash_19 : decode cX8_readWash 19 = .ok (.iadd, 1) := by decide +kernel
theorem dX8_readWash_20 : decode cX8_readWash 20 = .ok (.iaload, 1) := by decide +kernel
theorem dX8_readWash_21 : decode cX8_readWash 21 = .ok (.ifCond .ge 5, 3) := by decide +kernel
theorem dX8_readWash_24 : decode cX8_readWash 24 = .ok (.iconst 0, 1) := by decide +kernel
theorem dX8_readWash_25 : decode cX8_readWash 25 = .ok (.ireturn, 1) := by decide +kernel
theorem dX8_readWash_26 : decode cX8_readWash 26 = .ok (.aload_n 0, 1) := by decide +kernel
theorem dX8_readWash_27 : decode cX8_readWash 27 = .ok (.getfield 37, 3) := by decide +kernel
theorem dX8_readWash_30 : decode cX8_readWash 30 = .ok (.iload_n 1, 1) := by decide +kernel
theorem dX8_readWash_31 : decode cX8_readWash 31 = .ok (.iconst 2, 1) := by decide +kernel
theorem dX8_readWash_32 : decode cX8_readWash 32 = .ok (.iadd, 1) := by decide +kernel
theorem dX8_readWash_33 : decode cX8_readWash 33 = .ok (.aload_n 0, 1) := by decide +kernel
theorem dX8_readWash_34 : decode cX8_readWash 34 = .ok (.aload_n 0, 1) := by decide +kernel
theorem dX8_readWash_35 : decode cX8_readWash 35 = .ok (.getfield 70, 3) := by decide +kernel
theorem dX8_readWash_38 : decode cX8_readWash 38 = .ok (.iconst 1, 1) := by decide +kernel
theorem dX8_readWash_39 : decode cX8_readWash 39 = .ok (.isub, 1) := by decide +kernel
theorem dX8_readWash_40 : decode cX8_readWash 40 = .ok (.invokevirtual 132, 3) := by decide +kernel
theorem dX8_readWash_43 : decode cX8_readWash 43 = .ok (.iastore, 1) := by decide +kernel
theorem dX8_readWash_44 : decode cX8_readWash 44 = .ok (.aload_n 0, 1) := by decide +kernel
theorem dX8_readWash_45 : decode cX8_readWash 45 = .ok (.getfield 37, 3) := by decide +kernel
theorem dX8_readWash_48 : decode cX8_readWash 48 = .ok (.iload_n 1, 1) := by decide +kernel
theorem dX8_readWash_49 : decode cX8_readWash 49 = .ok (.iconst 2, 1) := by decide +kernel
theorem dX8_readWash_50 : decode cX8_readWash 50 = .ok (.iadd, 1) := by decide +kernel
theorem dX8_readWash_51 : decode cX8_readWash 51 = .ok (.iaload, 1) := by decide +kernel
theorem dX8_readWash_52 : decode cX8_readWash 52 = .ok (.ifCond .lt 7, 3) := by decide +kernel
theorem dX8_readWash_55 : decode cX8_readWash 55 = .ok (.iconst 1, 1) := by decide +kernel
theorem dX8_readWash_56 : decode cX8_readWash 56 = .ok (.goto 4, 3) := by decide +kernel
theorem dX8_readWash_59 : decode cX8_readWash 59 = .ok (.iconst 0, 1) := by decide +kernel
theorem dX8_readWash_60 : decode cX8_readWash 60 = .ok (.ireturn, 1) := by decide +kernel
theorem dX8_readChange_0 : decode cX8_readChange 0 = .ok (.aload_n 0, 1) := by decide +kernel
theorem dX8_readChange_1 : decode cX8_readChange 1 = .ok (.getfield 37, 3) := by decide +kernel
theorem dX8_readChange_4 : decode cX8_readChange 4 = .ok (.iload_n 1, 1) := by decide +kernel
theorem dX8_readChange_5 : decode cX8_readChange 5 = .ok (.iconst 1, 1) := by decide +kernel
theorem dX8_readChange_6 : decode cX8_readChange 6 = .ok (.iadd, 1) := by decide +kernel
theorem dX8_readChange_7 : decode cX8_readChange 7 = .ok (.aload_n 0, 1) := by decide +kernel
theorem dX8_readChange_8 : decode cX8_readChange 8 = .ok (.aload_n 0, 1) := by decide +kernel
theorem dX8_readChange_9 : decode cX8_readChange 9 = .ok (.getfield 70, 3) := by decide +kernel
theorem dX8_readChange_12 : decode cX8_readChange 12 = .ok (.iconst 1, 1) := by decide +kernel
theorem dX8_readChange_13 : decode cX8_readChange 13 = .ok (.isub, 1) := by decide +kernel
theorem dX8_readChange_14 : decode cX8_readChange 14 = .ok (.invokevirtual 132, 3) := by decide +kernel
theorem dX8_readChange_17 : decode cX8_readChange 17 = .ok (.iastore, 1) := by decide +kernel
theorem dX8_readChange_18 : decode cX8_readChange 18 = .ok (.aload_n 0, 1) := by decide +kernel
theorem dX8_readChange_19 : decode cX8_readChange 19 = .ok (.getfield 37, 3) := by decide +kernel
theorem dX8_readChange_22 : decode cX8_readChange 22 = .ok (.iload_n 1, 1) := by decide +kernel
theorem dX8_readChange_23 : decode cX8_readChange 23 = .ok (.iconst 1, 1) := by decide +kernel
theorem dX8_readChange_24 : decode cX8_readChange 24 = .ok (.iadd, 1) := by decide +kernel
theorem dX8_readChange_25 : decode cX8_readChange 25 = .ok (.iaload, 1) := by decide +kernel
theorem dX8_readChange_26 : decode cX8_readChange 26 = .ok (.ifCond .lt 12, 3) := by decide +kernel
theorem dX8_readChange_29 : decode cX8_readChange 29 = .ok (.aload_n 0, 1) := by decide +kernel
theorem dX8_readChange_30 : decode cX8_readChange 30 = .ok (.bipush 62, 2) := by decide +kernel
theorem dX8_readChange_32 : decode cX8_readChange 32 = .ok (.invokevirtual 129, 3) := by decide +kernel
theorem dX8_readChange_35 : decode cX8_readChange 35 = .ok (.ifCond .ne 5, 3) := by decide +kernel
theorem dX8_readChange_38 : decode cX8_readChange 38 = .ok (.iconst 0, 1) := by decide +kernel
theorem dX8_readChange_39 : decode cX8_readChange 39 = .ok (.ireturn, 1) := by decide +kernel
theorem dX8_readChange_40 : decode cX8_readChange 40 = .ok (.aload_n 0, 1) := by decide +kernel
theorem dX8_readChange_41 : decode cX8_readChange 41 = .ok (.getfield 37, 3) := by decide +kernel
theorem dX8_readChange_44 : decode cX8_readChange 44 = .ok (.iload_n 1, 1) := by decide +kernel
theorem dX8_readChange_45 : decode cX8_readChange 45 = .ok (.iconst 2, 1) := by decide +kernel
theorem dX8_readChange_46 : decode cX8_readChange 46 = .ok (.iadd, 1) := by decide +kernel
theorem dX8_readChange_47 : decode cX8_readChange 47 = .ok (.aload_n 0, 1) := by decide +kernel
theorem dX8_readChange_48 : decode cX8_readChange 48 = .ok (.iconst 4, 1) := by decide +kernel
theorem dX8_readChange_49 : decode cX8_readChange 49 = .ok (.invokevirtual 132, 3) := by decide +kernel
theorem dX8_readChange_52 : decode cX8_readChange 52 = .ok (.iastore, 1) := by decide +kernel
theorem dX8_readChange_53 : decode cX8_readChange 53 = .ok (.aload_n 0, 1) := by decide +kernel
theorem dX8_readChange_54 : decode cX8_readChange 54 = .ok (.getfield 37, 3) := by decide +kernel
theorem dX8_readChange_57 : decode cX8_readChange 57 = .ok (.iload_n 1, 1) := by decide +kernel
theorem dX8_readChange_58 : decode cX8_readChange 58 = .ok (.iconst 2, 1) := by decide +kernel
theorem dX8_readChange_59 : decode cX8_readChange 59 = .ok (.iadd, 1) := by decide +kernel
theorem dX8_readChange_60 : decode cX8_readChange 60 = .ok (.iaload, 1) := by decide +kernel
theorem dX8_readChange_61 : decode cX8_readChange 61 = .ok (.ifCond .lt 7, 3) := by decide +kernel
theorem dX8_readChange_64 : decode cX8_readChange 64 = .ok (.iconst 1, 1) := by decide +kernel
theorem dX8_readChange_65 : decode cX8_readChange 65 = .ok (.goto 4, 3) := by decide +kernel
theorem dX8_readChange_68 : decode cX8_readChange 68 = .ok (.iconst 0, 1) := by decide +kernel
theorem dX8_readChange_69 : decode cX8_readChange 69 = .ok (.ireturn, 1) := by decide +kernel
theorem dX8_readAct_0 : decode cX8_readAct 0 = .ok (.aload_n 0, 1) := by decide +kernel
theorem dX8_readAct_1 : decode cX8_readAct 1 = .ok (.invokevirtual 117, 3) := by decide +kernel
theorem dX8_readAct_4 : decode cX8_readAct 4 = .ok (.istore_n 2, 1) := by decide +kernel
theorem dX8_readAct_5 : decode cX8_readAct 5 = .ok (.iload_n 2, 1) := by decide +kernel
theorem dX8_readAct_6 : decode cX8_readAct 6 = .ok (.bipush 118, 2) := by decide +kernel
theorem dX8_readAct_8 : decode cX8_readAct 8 = .ok (.if_icmp .eq 23, 3) := by decide +kernel
theorem dX8_readAct_11 : decode cX8_readAct 11 = .ok (.iload_n 2, 1) := by decide +kernel
theorem dX8_readAct_12 : decode cX8_readAct 12 = .ok (.bipush 119, 2) := by decide +kernel
theorem dX8_readAct_14 : decode cX8_readAct 14 = .ok (.if_icmp .eq 17, 3) := by decide +kernel
theorem dX8_readAct_17 : decode cX8_readAct 17 = .ok (.iload_n 2, 1) := by decide +kernel
theorem dX8_readAct_18 : decode cX8_readAct 18 = .ok (.bipush 99, 2) := by decide +kernel
theorem dX8_readAct_20 : decode cX8_readAct 20 = .ok (.if_icmp .eq 11, 3) := by decide +kernel
theorem dX8_readAct_23 : decode cX8_readAct 23 = .ok (.iload_n 2, 1) := by decide +kernel
theorem dX8_readAct_24 : decode cX8_readAct 24 = .ok (.bipush 110, 2) := by decide +kernel
theorem dX8_readAct_26 : decode cX8_readAct 26 = .ok (.if_icmp .eq 5, 3) := by decide +kernel
theorem dX8_readAct_29 : decode cX8_readAct 29 = .ok (.iconst 0, 1) := by decide +kernel
theorem dX8_readAct_30 : decode cX8_readAct 30 = .ok (.ireturn, 1) := by decide +kernel
theorem dX8_readAct_31 : decode cX8_readAct 31 = .ok (.aload_n 0, 1) := by decide +kernel
theorem dX8_readAct_32 : decode cX8_readAct 32 = .ok (.dup, 1) := by decide +kernel
theorem dX8_readAct_33 : decode cX8_readAct 33 = .ok (.getfield 114, 3) := by decide +kernel
theorem dX8_readAct_36 : decode cX8_readAct 36 = .ok (.iconst 1, 1) := by decide +kernel
theorem dX8_readAct_37 : decode cX8_readAct 37 = .ok (.iadd, 1) := by decide +kernel
theorem dX8_readAct_38 : decode cX8_readAct 38 = .ok (.putfield 114, 3) := by decide +kernel
theorem dX8_readAct_41 : decode cX8_readAct 41 = .ok (.aload_n 0, 1) := by decide +kernel
theorem dX8_readAct_42 : decode cX8_readAct 42 = .ok (.getfield 37, 3) := by decide +kernel
theorem dX8_readAct_45 : decode cX8_readAct 45 = .ok (.iload_n 1, 1) := by decide +kernel
theorem dX8_readAct_46 : decode cX8_readAct 46 = .ok (.iload_n 2, 1) := by decide +kernel
theorem dX8_readAct_47 : decode cX8_readAct 47 = .ok (.iastore, 1) := by decide +kernel
theorem dX8_readAct_48 : decode cX8_readAct 48 = .ok (.iload_n 2, 1) := by decide +kernel
theorem dX8_readAct_49 : decode cX8_readAct 49 = .ok (.bipush 118, 2) := by decide +kernel
theorem dX8_readAct_51 : decode cX8_readAct 51 = .ok (.if_icmp .ne 11, 3) := by decide +kernel
theorem dX8_readAct_54 : decode cX8_readAct 54 = .ok (.aload_n 0, 1) := by decide +kernel
theorem dX8_readAct_55 : decode cX8_readAct 55 = .ok (.iload_n 1, 1) := by decide +kernel
theorem dX8_readAct_56 : decode cX8_readAct 56 = .ok (.invokevirtual 152, 3) := by decide +kernel
theorem dX8_readAct_59 : decode cX8_readAct 59 = .ok (.goto 36, 3) := by decide +kernel
theorem dX8_readAct_62 : decode cX8_readAct 62 = .ok (.iload_n 2, 1) := by decide +kernel
theorem dX8_readAct_63 : decode cX8_readAct 63 = .ok (.bipush 119, 2) := by decide +kernel
theorem dX8_readAct_65 : decode cX8_readAct 65 = .ok (.if_icmp .ne 11, 3) := by decide +kernel
theorem dX8_readAct_68 : decode cX8_readAct 68 = .ok (.aload_n 0, 1) := by decide +kernel
theorem dX8_readAct_69 : decode cX8_readAct 69 = .ok (.iload_n 1, 1) := by decide +kernel
theorem dX8_readAct_70 : decode cX8_readAct 70 = .ok (.invokevirtual 155, 3) := by decide +kernel
theorem dX8_readAct_73 : decode cX8_readAct 73 = .ok (.goto 22, 3) := by decide +kernel
theorem dX8_readAct_76 : decode cX8_readAct 76 = .ok (.iload_n 2, 1) := by decide +kernel
theorem dX8_readAct_77 : decode cX8_readAct 77 = .ok (.bipush 110, 2) := by decide +kernel
theorem dX8_readAct_79 : decode cX8_readAct 79 = .ok (.if_icmp .eq 11, 3) := by decide +kernel
theorem dX8_readAct_82 : decode cX8_readAct 82 = .ok (.aload_n 0, 1) := by decide +kernel
theorem dX8_readAct_83 : decode cX8_readAct 83 = .ok (.iload_n 1, 1) := by decide +kernel
theorem dX8_readAct_84 : decode cX8_readAct 84 = .ok (.invokevirtual 158, 3) := by decide +kernel
theorem dX8_readAct_87 : decode cX8_readAct 87 = .ok (.ifCond .eq 7, 3) := by decide +kernel
theorem dX8_readAct_90 : decode cX8_readAct 90 = .ok (.iconst 1, 1) := by decide +kernel
theorem dX8_readAct_91 : decode cX8_readAct 91 = .ok (.goto 4, 3) := by decide +kernel
theorem dX8_readAct_94 : decode cX8_readAct 94 = .ok (.iconst 0, 1) := by decide +kernel
theorem dX8_readAct_95 : decode cX8_readAct 95 = .ok (.ireturn, 1) := by decide +kernel
theorem dX8_readWeek_0 : decode cX8_readWeek 0 = .ok (.aload_n 0, 1) := by decide +kernel
theorem dX8_readWeek_1 : decode cX8_readWeek 1 = .ok (.iconst 0, 1) := by decide +kernel
theorem dX8_readWeek_2 : decode cX8_readWeek 2 = .ok (.putfield 114, 3) := by decide +kernel
theorem dX8_readWeek_5 : decode cX8_readWeek 5 = .ok (.aload_n 0, 1) := by decide +kernel
theorem dX8_readWeek_6 : decode cX8_readWeek 6 = .ok (.iconst 0, 1) := by decide +kernel
theorem dX8_readWeek_7 : decode cX8_readWeek 7 = .ok (.putfield 138, 3) := by decide +kernel
theorem dX8_readWeek_10 : decode cX8_readWeek 10 = .ok (.iconst 1, 1) := by decide +kernel
theorem dX8_readWeek_11 : decode cX8_readWeek 11 = .ok (.istore_n 1, 1) := by decide +kernel
theorem dX8_readWeek_12 : decode cX8_readWeek 12 = .ok (.iload_n 1, 1) := by decide +kernel
theorem dX8_readWeek_13 : decode cX8_readWeek 13 = .ok (.ifCond .eq 38, 3) := by decide +kernel
theorem dX8_readWeek_16 : decode cX8_readWeek 16 = .ok (.aload_n 0, 1) := by decide +kernel
theorem dX8_readWeek_17 : decode cX8_readWeek 17 = .ok (.iconst 4, 1) := by decide +kernel
theorem dX8_readWeek_18 : decode cX8_readWeek 18 = .ok (.aload_n 0, 1) := by decide +kernel
theorem dX8_readWeek_19 : decode cX8_readWeek 19 = .ok (.getfield 138, 3) := by decide +kernel
theorem dX8_readWeek_22 : decode cX8_readWeek 22 = .ok (.imul, 1) := by decide +kernel
theorem dX8_readWeek_23 : decode cX8_readWeek 23 = .ok (.invokevirtual 161, 3) := by decide +kernel
theorem dX8_readWeek_26 : decode cX8_readWeek 26 = .ok (.ifCond .ne 5, 3) := by decide +kernel
theorem dX8_readWeek_29 : decode cX8_readWeek 29 = .ok (.iconst 0, 1) := by decide +kernel
theorem dX8_readWeek_30 : decode cX8_readWeek 30 = .ok (.ireturn, 1) := by decide +kernel
theorem dX8_readWeek_31 : decode cX8_readWeek 31 = .ok (.aload_n 0, 1) := by decide +kernel
theorem dX8_readWeek_32 : decode cX8_readWeek 32 = .ok (.dup, 1) := by decide +kernel
theorem dX8_readWeek_33 : decode cX8_readWeek 33 = .ok (.getfield 138, 3) := by decide +kernel
theorem dX8_readWeek_36 : decode cX8_readWeek 36 = .ok (.iconst 1, 1) := by decide +kernel
theorem dX8_readWeek_37 : decode cX8_readWeek 37 = .ok (.iadd, 1) := by decide +kernel
theorem dX8_readWeek_38 : decode cX8_readWeek 38 = .ok (.putfield 138, 3) := by decide +kernel
theorem dX8_readWeek_41 : decode cX8_readWeek 41 = .ok (.aload_n 0, 1) := by decide +kernel
theorem dX8_readWeek_42 : decode cX8_readWeek 42 = .ok (.bipush 59, 2) := by decide +kernel
theorem dX8_readWeek_44 : decode cX8_readWeek 44 = .ok (.invokevirtual 129, 3) := by decide +kernel
theorem dX8_readWeek_47 : decode cX8_readWeek 47 = .ok (.istore_n 1, 1) := by decide +kernel
theorem dX8_readWeek_48 : decode cX8_readWeek 48 = .ok (.goto (-36), 3) := by decide +kernel
theorem dX8_readWeek_51 : decode cX8_readWeek 51 = .ok (.aload_n 0, 1) := by decide +kernel
theorem dX8_readWeek_52 : decode cX8_readWeek 52 = .ok (.invokevirtual 117, 3) := by decide +kernel
theorem dX8_readWeek_55 : decode cX8_readWeek 55 = .ok (.ifCond .ge 7, 3) := by decide +kernel
theorem dX8_readWeek_58 : decode cX8_readWeek 58 = .ok (.iconst 1, 1) := by decide +kernel
theorem dX8_readWeek_59 : decode cX8_readWeek 59 = .ok (.goto 4, 3) := by decide +kernel
theorem dX8_readWeek_62 : decode cX8_readWeek 62 = .ok (.iconst 0, 1) := by decide +kernel
theorem dX8_readWeek_63 : decode cX8_readWeek 63 = .ok (.ireturn, 1) := by decide +kernel
theorem dX8_does_0 : decode cX8_does 0 = .ok (.aload_n 0, 1) := by decide +kernel
theorem dX8_does_1 : decode cX8_does 1 = .ok (.getfield 37, 3) := by decide +kernel
theorem dX8_does_4 : decode cX8_does 4 = .ok (.iload_n 1, 1) := by decide +kernel
theorem dX8_does_5 : decode cX8_does 5 = .ok (.iaload, 1) := by decide +kernel
theorem dX8_does_6 : decode cX8_does 6 = .ok (.istore_n 2, 1) := by decide +kernel
theorem dX8_does_7 : decode cX8_does 7 = .ok (.aload_n 0, 1) := by decide +kernel
theorem dX8_does_8 : decode cX8_does 8 = .ok (.getfield 37, 3) := by decide +kernel
theorem dX8_does_11 : decode cX8_does 11 = .ok (.iload_n 1, 1) := by decide +kernel
theorem dX8_does_12 : decode cX8_does 12 = .ok (.iconst 1, 1) := by decide +kernel
theorem dX8_does_13 : decode cX8_does 13 = .ok (.iadd, 1) := by decide +kernel
theorem dX8_does_14 : decode cX8_does 14 = .ok (.iaload, 1) := by decide +kernel
theorem dX8_does_15 : decode cX8_does 15 = .ok (.istore_n 3, 1) := by decide +kernel
theorem dX8_does_16 : decode cX8_does 16 = .ok (.aload_n 0, 1) := by decide +kernel
theorem dX8_does_17 : decode cX8_does 17 = .ok (.getfield 37, 3) := by decide +kernel
theorem dX8_does_20 : decode cX8_does 20 = .ok (.iload_n 1, 1) := by decide +kernel
theorem dX8_does_21 : decode cX8_does 21 = .ok (.iconst 2, 1) := by decide +kernel
theorem dX8_does_22 : decode cX8_does 22 = .ok (.iadd, 1) := by decide +kernel
theorem dX8_does_23 : decode cX8_does 23 = .ok (.iaload, 1) := by decide +kernel
theorem dX8_does_24 : decode cX8_does 24 = .ok (.istore 4, 2) := by decide +kernel
theorem dX8_does_26 : decode cX8_does 26 = .ok (.iload_n 2, 1) := by decide +kernel
theorem dX8_does_27 : decode cX8_does 27 = .ok (.bipush 118, 2) := by decide +kernel
theorem dX8_does_29 : decode cX8_does 29 = .ok (.if_icmp .ne 21, 3) := by decide +kernel
theorem dX8_does_32 : decode cX8_does 32 = .ok (.aload_n 0, 1) := by decide +kernel
theorem dX8_does_33 : decode cX8_does 33 = .ok (.iload_n 3, 1) := by decide +kernel
theorem dX8_does_34 : decode cX8_does 34 = .ok (.iload 4, 2) := by decide +kernel
theorem dX8_does_36 : decode cX8_does 36 = .ok (.aload_n 0, 1) := by decide +kernel
theorem dX8_does_37 : decode cX8_does 37 = .ok (.getfield 37, 3) := by decide +kernel
theorem dX8_does_40 : decode cX8_does 40 = .ok (.iload_n 1, 1) := by decide +kernel
theorem dX8_does_41 : decode cX8_does 41 = .ok (.iconst 3, 1) := by decide +kernel
theorem dX8_does_42 : decode cX8_does 42 = .ok (.iadd, 1) := by decide +kernel
theorem dX8_does_43 : decode cX8_does 43 = .ok (.iaload, 1) := by decide +kernel
theorem dX8_does_44 : decode cX8_does 44 = .ok (.invokevirtual 164, 3) := by decide +kernel
theorem dX8_does_47 : decode cX8_does 47 = .ok (.goto 39, 3) := by decide +kernel
theorem dX8_does_50 : decode cX8_does 50 = .ok (.iload_n 2, 1) := by decide +kernel
theorem dX8_does_51 : decode cX8_does 51 = .ok (.bipush 119, 2) := by decide +kernel
theorem dX8_does_53 : decode cX8_does 53 = .ok (.if_icmp .ne 13, 3) := by decide +kernel
theorem dX8_does_56 : decode cX8_does 56 = .ok (.aload_n 0, 1) := by decide +kernel
theorem dX8_does_57 : decode cX8_does 57 = .ok (.iload_n 3, 1) := by decide +kernel
theorem dX8_does_58 : decode cX8_does 58 = .ok (.iload 4, 2) := by decide +kernel
theorem dX8_does_60 : decode cX8_does 60 = .ok (.invokevirtual 167, 3) := by decide +kernel
theorem dX8_does_63 : decode cX8_does 63 = .ok (.goto 23, 3) := by decide +kernel
theorem dX8_does_66 : decode cX8_does 66 = .ok (.iload_n 2, 1) := by decide +kernel
theorem dX8_does_67 : decode cX8_does 67 = .ok (.bipush 99, 2) := by decide +kernel
theorem dX8_does_69 : decode cX8_does 69 = .ok (.if_icmp .ne 13, 3) := by decide +kernel
theorem dX8_does_72 : decode cX8_does 72 = .ok (.aload_n 0, 1) := by decide +kernel
theorem dX8_does_73 : decode cX8_does 73 = .ok (.iload_n 3, 1) := by decide +kernel
theorem dX8_does_74 : decode cX8_does 74 = .ok (.iload 4, 2) := by decide +kernel
theorem dX8_does_76 : decode cX8_does 76 = .ok (.invokevirtual 170, 3) := by decide +kernel
theorem dX8_does_79 : decode cX8_does 79 = .ok (.goto 7, 3) := by decide +kernel
theorem dX8_does_82 : decode cX8_does 82 = .ok (.aload_n 0, 1) := by decide +kernel
theorem dX8_does_83 : decode cX8_does 83 = .ok (.invokevirtual 173, 3) := by decide +kernel
theorem dX8_does_86 : decode cX8_does 86 = .ok (.ifCond .lt 7, 3) := by decide +kernel
theorem dX8_does_89 : decode cX8_does 89 = .ok (.iconst 1, 1) := by decide +kernel
theorem dX8_does_90 : decode cX8_does 90 = .ok (.goto 4, 3) := by decide +kernel
theorem dX8_does_93 : decode cX8_does 93 = .ok (.iconst 0, 1) := by decide +kernel
theorem dX8_does_94 : decode cX8_does 94 = .ok (.ireturn, 1) := by decide +kernel
theorem dX8_week_0 : decode cX8_week 0 = .ok (.aload_n 0, 1) := by decide +kernel
theorem dX8_week_1 : decode cX8_week 1 = .ok (.aload_n 0, 1) := by decide +kernel
theorem dX8_week_2 : decode cX8_week 2 = .ok (.invokevirtual 176, 3) := by decide +kernel
theorem dX8_week_5 : decode cX8_week 5 = .ok (.invokevirtual 145, 3) := by decide +kernel
theorem dX8_week_8 : decode cX8_week 8 = .ok (.istore_n 1, 1) := by decide +kernel
theorem dX8_week_9 : decode cX8_week 9 = .ok (.iload_n 1, 1) := by decide +kernel
theorem dX8_week_10 : decode cX8_week 10 = .ok (.ifCond .ge 5, 3) := by decide +kernel
theorem dX8_week_13 : decode cX8_week 13 = .ok (.iload_n 1, 1) := by decide +kernel
theorem dX8_week_14 : decode cX8_week 14 = .ok (.ireturn, 1) := by decide +kernel
theorem dX8_week_15 : decode cX8_week 15 = .ok (.aload_n 0, 1) := by decide +kernel
theorem dX8_week_16 : decode cX8_week 16 = .ok (.getfield 138, 3) := by decide +kernel
theorem dX8_week_19 : decode cX8_week 19 = .ok (.istore_n 2, 1) := by decide +kernel
theorem dX8_week_20 : decode cX8_week 20 = .ok (.iconst 0, 1) := by decide +kernel
theorem dX8_week_21 : decode cX8_week 21 = .ok (.istore_n 3, 1) := by decide +kernel
theorem dX8_week_22 : decode cX8_week 22 = .ok (.iload_n 3, 1) := by decide +kernel
theorem dX8_week_23 : decode cX8_week 23 = .ok (.iload_n 2, 1) := by decide +kernel
theorem dX8_week_24 : decode cX8_week 24 = .ok (.if_icmp .ge 21, 3) := by decide +kernel
theorem dX8_week_27 : decode cX8_week 27 = .ok (.aload_n 0, 1) := by decide +kernel
theorem dX8_week_28 : decode cX8_week 28 = .ok (.iconst 4, 1) := by decide +kernel
theorem dX8_week_29 : decode cX8_week 29 = .ok (.iload_n 3, 1) := by decide +kernel
theorem dX8_week_30 : decode cX8_week 30 = .ok (.imul, 1) := by decide +kernel
theorem dX8_week_31 : decode cX8_week 31 = .ok (.invokevirtual 179, 3) := by decide +kernel
theorem dX8_week_34 : decode cX8_week 34 = .ok (.ifCond .ne 5, 3) := by decide +kernel
theorem dX8_week_37 : decode cX8_week 37 = .ok (.iload_n 3, 1) := by decide +kernel
theorem dX8_week_38 : decode cX8_week 38 = .ok (.ireturn, 1) := by decide +kernel
theorem dX8_week_39 : decode cX8_week 39 = .ok (.iinc 3 1, 3) := by decide +kernel
theorem dX8_week_42 : decode cX8_week 42 = .ok (.goto (-20), 3) := by decide +kernel
theorem dX8_week_45 : decode cX8_week 45 = .ok (.iload_n 2, 1) := by decide +kernel
theorem dX8_week_46 : decode cX8_week 46 = .ok (.ireturn, 1) := by decide +kernel
theorem dX8_isSister_0 : decode cX8_isSister 0 = .ok (.iload_n 0, 1) := by decide +kernel
theorem dX8_isSister_1 : decode cX8_isSister 1 = .ok (.i2l, 1) := by decide +kernel
theorem dX8_isSister_2 : decode cX8_isSister 2 = .ok (.lconst 0, 1) := by decide +kernel
theorem dX8_isSister_3 : decode cX8_isSister 3 = .ok (.ldc2_w 87, 3) := by decide +kernel
theorem dX8_isSister_6 : decode cX8_isSister 6 = .ok (.invokestatic 66, 3) := by decide +kernel
theorem dX8_isSister_9 : decode cX8_isSister 9 = .ok (.ireturn, 1) := by decide +kernel
theorem dX8_ringOf_0 : decode cX8_ringOf 0 = .ok (.sipush 256, 3) := by decide +kernel
theorem dX8_ringOf_3 : decode cX8_ringOf 3 = .ok (.istore_n 3, 1) := by decide +kernel
theorem dX8_ringOf_4 : decode cX8_ringOf 4 = .ok (.iconst 0, 1) := by decide +kernel
theorem dX8_ringOf_5 : decode cX8_ringOf 5 = .ok (.istore 4, 2) := by decide +kernel
theorem dX8_ringOf_7 : decode cX8_ringOf 7 = .ok (.iload 4, 2) := by decide +kernel
theorem dX8_ringOf_9 : decode cX8_ringOf 9 = .ok (.aload_n 0, 1) := by decide +kernel
theorem dX8_ringOf_10 : decode cX8_ringOf 10 = .ok (.getfield 70, 3) := by decide +kernel
theorem dX8_ringOf_13 : decode cX8_ringOf 13 = .ok (.if_icmp .ge 46, 3) := by decide +kernel
theorem dX8_ringOf_16 : decode cX8_ringOf 16 = .ok (.iload_n 3, 1) := by decide +kernel
theorem dX8_ringOf_17 : decode cX8_ringOf 17 = .ok (.aload_n 0, 1) := by decide +kernel
theorem dX8_ringOf_18 : decode cX8_ringOf 18 = .ok (.getfield 25, 3) := by decide +kernel
theorem dX8_ringOf_21 : decode cX8_ringOf 21 = .ok (.iload 4, 2) := by decide +kernel
theorem dX8_ringOf_23 : decode cX8_ringOf 23 = .ok (.iaload, 1) := by decide +kernel
theorem dX8_ringOf_24 : decode cX8_ringOf 24 = .ok (.iload_n 1, 1) := by decide +kernel
theorem dX8_ringOf_25 : decode cX8_ringOf 25 = .ok (.if_icmp .ne 25, 3) := by decide +kernel
theorem dX8_ringOf_28 : decode cX8_ringOf 28 = .ok (.iload_n 2, 1) := by decide +kernel
theorem dX8_ringOf_29 : decode cX8_ringOf 29 = .ok (.ifCond .eq 14, 3) := by decide +kernel
theorem dX8_ringOf_32 : decode cX8_ringOf 32 = .ok (.aload_n 0, 1) := by decide +kernel
theorem dX8_ringOf_33 : decode cX8_ringOf 33 = .ok (.getfield 22, 3) := by decide +kernel
theorem dX8_ringOf_36 : decode cX8_ringOf 36 = .ok (.iload 4, 2) := by decide +kernel
theorem dX8_ringOf_38 : decode cX8_ringOf 38 = .ok (.iaload, 1) := by decide +kernel
theorem dX8_ringOf_39 : decode cX8_ringOf 39 = .ok (.iconst 1, 1) := by decide +kernel
theorem dX8_ringOf_40 : decode cX8_ringOf 40 = .ok (.if_icmp .eq 10, 3) := by decide +kernel
theorem dX8_ringOf_43 : decode cX8_ringOf 43 = .ok (.iconst 1, 1) := by decide +kernel
theorem dX8_ringOf_44 : decode cX8_ringOf 44 = .ok (.iload 4, 2) := by decide +kernel
theorem dX8_ringOf_46 : decode cX8_ringOf 46 = .ok (.ishl, 1) := by decide +kernel
theorem dX8_ringOf_47 : decode cX8_ringOf 47 = .ok (.goto 4, 3) := by decide +kernel
theorem dX8_ringOf_50 : decode cX8_ringOf 50 = .ok (.iconst 0, 1) := by decide +kernel
theorem dX8_ringOf_51 : decode cX8_ringOf 51 = .ok (.ior, 1) := by decide +kernel
theorem dX8_ringOf_52 : decode cX8_ringOf 52 = .ok (.istore_n 3, 1) := by decide +kernel
theorem dX8_ringOf_53 : decode cX8_ringOf 53 = .ok (.iinc 4 1, 3) := by decide +kernel
theorem dX8_ringOf_56 : decode cX8_ringOf 56 = .ok (.goto (-49), 3) := by decide +kernel
theorem dX8_ringOf_59 : decode cX8_ringOf 59 = .ok (.iload_n 3, 1) := by decide +kernel
theorem dX8_ringOf_60 : decode cX8_ringOf 60 = .ok (.ireturn, 1) := by decide +kernel
theorem dX8_doorOf_0 : decode cX8_doorOf 0 = .ok (.iload_n 1, 1) := by decide +kernel
theorem dX8_doorOf_1 : decode cX8_doorOf 1 = .ok (.aload_n 0, 1) := by decide +kernel
theorem dX8_doorOf_2 : decode cX8_doorOf 2 = .ok (.getfield 84, 3) := by decide +kernel
theorem dX8_doorOf_5 : decode cX8_doorOf 5 = .ok (.if_icmp .ge 7, 3) := by decide +kernel
theorem dX8_doorOf_8 : decode cX8_doorOf 8 = .ok (.iload_n 1, 1) := by decide +kernel
theorem dX8_doorOf_9 : decode cX8_doorOf 9 = .ok (.goto 5, 3) := by decide +kernel
theorem dX8_doorOf_12 : decode cX8_doorOf 12 = .ok (.bipush 16, 2) := by decide +kernel
theorem dX8_doorOf_14 : decode cX8_doorOf 14 = .ok (.ireturn, 1) := by decide +kernel
theorem dX8_findFars_0 : decode cX8_findFars 0 = .ok (.iconst 0, 1) := by decide +kernel
theorem dX8_findFars_1 : decode cX8_findFars 1 = .ok (.istore_n 3, 1) := by decide +kernel
theorem dX8_findFars_2 : decode cX8_findFars 2 = .ok (.iload_n 3, 1) := by decide +kernel
theorem dX8_findFars_3 : decode cX8_findFars 3 = .ok (.bipush 11, 2) := by decide +kernel
theorem dX8_findFars_5 : decode cX8_findFars 5 = .ok (.if_icmp .ge 26, 3) := by decide +kernel
theorem dX8_findFars_8 : decode cX8_findFars 8 = .ok (.aload_n 0, 1) := by decide +kernel
theorem dX8_findFars_9 : decode cX8_findFars 9 = .ok (.getfield 40, 3) := by decide +kernel
theorem dX8_findFars_12 : decode cX8_findFars 12 = .ok (.iload_n 3, 1) := by decide +kernel
theorem dX8_findFars_13 : decode cX8_findFars 13 = .ok (.iload_n 3, 1) := by decide +kernel
theorem dX8_findFars_14 : decode cX8_findFars 14 = .ok (.iload_n 1, 1) := by decide +kernel
theorem dX8_findFars_15 : decode cX8_findFars 15 = .ok (.if_icmp .ne 7, 3) := by decide +kernel
theorem dX8_findFars_18 : decode cX8_findFars 18 = .ok (.iconst 0, 1) := by decide +kernel
theorem dX8_findFars_19 : decode cX8_findFars 19 = .ok (.goto 5, 3) := by decide +kernel
theorem dX8_findFars_22 : decode cX8_findFars 22 = .ok (.bipush 99, 2) := by decide +kernel
theorem dX8_findFars_24 : decode cX8_findFars 24 = .ok (.iastore, 1) := by decide +kernel
theorem dX8_findFars_25 : decode cX8_findFars 25 = .ok (.iinc 3 1, 3) := by decide +kernel
theorem dX8_findFars_28 : decode cX8_findFars 28 = .ok (.goto (-26), 3) := by decide +kernel
theorem dX8_findFars_31 : decode cX8_findFars 31 = .ok (.iconst 1, 1) := by decide +kernel
theorem dX8_findFars_32 : decode cX8_findFars 32 = .ok (.istore_n 3, 1) := by decide +kernel
theorem dX8_findFars_33 : decode cX8_findFars 33 = .ok (.iload_n 3, 1) := by decide +kernel
theorem dX8_findFars_34 : decode cX8_findFars 34 = .ok (.ifCond .eq 196, 3) := by decide +kernel
theorem dX8_findFars_37 : decode cX8_findFars 37 = .ok (.iconst 0, 1) := by decide +kernel
theorem dX8_findFars_38 : decode cX8_findFars 38 = .ok (.istore_n 3, 1) := by decide +kernel
theorem dX8_findFars_39 : decode cX8_findFars 39 = .ok (.iconst 0, 1) := by decide +kernel
theorem dX8_findFars_40 : decode cX8_findFars 40 = .ok (.istore 4, 2) := by decide +kernel
theorem dX8_findFars_42 : decode cX8_findFars 42 = .ok (.iload 4, 2) := by decide +kernel
theorem dX8_findFars_44 : decode cX8_findFars 44 = .ok (.aload_n 0, 1) := by decide +kernel
theorem dX8_findFars_45 : decode cX8_findFars 45 = .ok (.getfield 84, 3) := by decide +kernel
theorem dX8_findFars_48 : decode cX8_findFars 48 = .ok (.if_icmp .gt 179, 3) := by decide +kernel
theorem dX8_findFars_51 : decode cX8_findFars 51 = .ok (.aload_n 0, 1) := by decide +kernel
theorem dX8_findFars_52 : decode cX8_findFars 52 = .ok (.iload 4, 2) := by decide +kernel
theorem dX8_findFars_54 : decode cX8_findFars 54 = .ok (.invokevirtual 182, 3) := by decide +kernel
theorem dX8_findFars_57 : decode cX8_findFars 57 = .ok (.istore 5, 2) := by decide +kernel
theorem dX8_findFars_59 : decode cX8_findFars 59 = .ok (.aload_n 0, 1) := by decide +kernel
theorem dX8_findFars_60 : decode cX8_findFars 60 = .ok (.getfield 7, 3) := by decide +kernel
theorem dX8_findFars_63 : decode cX8_findFars 63 = .ok (.iload 5, 2) := by decide +kernel
theorem dX8_findFars_65 : decode cX8_findFars 65 = .ok (.iaload, 1) := by decide +kernel
theorem dX8_findFars_66 : decode cX8_findFars 66 = .ok (.istore 6, 2) := by decide +kernel
theorem dX8_findFars_68 : decode cX8_findFars 68 = .ok (.aload_n 0, 1) := by decide +kernel
theorem dX8_findFars_69 : decode cX8_findFars 69 = .ok (.getfield 13, 3) := by decide +kernel
theorem dX8_findFars_72 : decode cX8_findFars 72 = .ok (.iload 5, 2) := by decide +kernel
theorem dX8_findFars_74 : decode cX8_findFars 74 = .ok (.iaload, 1) := by decide +kernel
theorem dX8_findFars_75 : decode cX8_findFars 75 = .ok (.istore 7, 2) := by decide +kernel
theorem dX8_findFars_77 : decode cX8_findFars 77 = .ok (.iload_n 2, 1) := by decide +kernel
theorem dX8_findFars_78 : decode cX8_findFars 78 = .ok (.aload_n 0, 1) := by decide +kernel
theorem dX8_findFars_79 : decode cX8_findFars 79 = .ok (.getfield 16, 3) := by decide +kernel
theorem dX8_findFars_82 : decode cX8_findFars 82 = .ok (.iload 5, 2) := by decide +kernel
theorem dX8_findFars_84 : decode cX8_findFars 84 = .ok (.iaload, 1) := by decide +kernel
theorem dX8_findFars_85 : decode cX8_findFars 85 = .ok (.invokestatic 185, 3) := by decide +kernel
theorem dX8_findFars_88 : decode cX8_findFars 88 = .ok (.ifCond .eq 133, 3) := by decide +kernel
theorem dX8_findFars_91 : decode cX8_findFars 91 = .ok (.aload_n 0, 1) := by decide +kernel
theorem dX8_findFars_92 : decode cX8_findFars 92 = .ok (.getfield 40, 3) := by decide +kernel
theorem dX8_findFars_95 : decode cX8_findFars 95 = .ok (.iload 6, 2) := by decide +kernel
theorem dX8_findFars_97 : decode cX8_findFars 97 = .ok (.iaload, 1) := by decide +kernel
theorem dX8_findFars_98 : decode cX8_findFars 98 = .ok (.aload_n 0, 1) := by decide +kernel
theorem dX8_findFars_99 : decode cX8_findFars 99 = .ok (.getfield 40, 3) := by decide +kernel
theorem dX8_findFars_102 : decode cX8_findFars 102 = .ok (.iload 7, 2) := by decide +kernel
theorem dX8_findFars_104 : decode cX8_findFars 104 = .ok (.iaload, 1) := by decide +kernel
theorem dX8_findFars_105 : decode cX8_findFars 105 = .ok (.iconst 1, 1) := by decide +kernel
theorem dX8_findFars_106 : decode cX8_findFars 106 = .ok (.iadd, 1) := by decide +kernel
theorem dX8_findFars_107 : decode cX8_findFars 107 = .ok (.if_icmp .gt 22, 3) := by decide +kernel
theorem dX8_findFars_110 : decode cX8_findFars 110 = .ok (.aload_n 0, 1) := by decide +kernel
theorem dX8_findFars_111 : decode cX8_findFars 111 = .ok (.getfield 40, 3) := by decide +kernel
theorem dX8_findFars_114 : decode cX8_findFars 114 = .ok (.iload 7, 2) := by decide +kernel
theorem dX8_findFars_116 : decode cX8_findFars 116 = .ok (.iaload, 1) := by decide +kernel
theorem dX8_findFars_117 : decode cX8_findFars 117 = .ok (.aload_n 0, 1) := by decide +kernel
theorem dX8_findFars_118 : decode cX8_findFars 118 = .ok (.getfield 40, 3) := by decide +kernel
theorem dX8_findFars_121 : decode cX8_findFars 121 = .ok (.iload 6, 2) := by decide +kernel
theorem dX8_findFars_123 : decode cX8_findFars 123 = .ok (.iaload, 1) := by decide +kernel
theorem dX8_findFars_124 : decode cX8_findFars 124 = .ok (.iconst 1, 1) := by decide +kernel
theorem dX8_findFars_125 : decode cX8_findFars 125 = .ok (.iadd, 1) := by decide +kernel
theorem dX8_findFars_126 : decode cX8_findFars 126 = .ok (.if_icmp .le 95, 3) := by decide +kernel
theorem dX8_findFars_129 : decode cX8_findFars 129 = .ok (.aload_n 0, 1) := by decide +kernel
theorem dX8_findFars_130 : decode cX8_findFars 130 = .ok (.getfield 40, 3) := by decide +kernel
theorem dX8_findFars_133 : decode cX8_findFars 133 = .ok (.iload 6, 2) := by decide +kernel
theorem dX8_findFars_135 : decode cX8_findFars 135 = .ok (.aload_n 0, 1) := by decide +kernel
theorem dX8_findFars_136 : decode cX8_findFars 136 = .ok (.getfield 40, 3) := by decide +kernel
theorem dX8_findFars_139 : decode cX8_findFars 139 = .ok (.iload 6, 2) := by decide +kernel
theorem dX8_findFars_141 : decode cX8_findFars 141 = .ok (.iaload, 1) := by decide +kernel
theorem dX8_findFars_142 : decode cX8_findFars 142 = .ok (.aload_n 0, 1) := by decide +kernel
theorem dX8_findFars_143 : decode cX8_findFars 143 = .ok (.getfield 40, 3) := by decide +kernel
theorem dX8_findFars_146 : decode cX8_findFars 146 = .ok (.iload 7, 2) := by decide +kernel
theorem dX8_findFars_148 : decode cX8_findFars 148 = .ok (.iaload, 1) := by decide +kernel
theorem dX8_findFars_149 : decode cX8_findFars 149 = .ok (.iconst 1, 1) := by decide +kernel
theorem dX8_findFars_150 : decode cX8_findFars 150 = .ok (.iadd, 1) := by decide +kernel
theorem dX8_findFars_151 : decode cX8_findFars 151 = .ok (.if_icmp .le 15, 3) := by decide +kernel
theorem dX8_findFars_154 : decode cX8_findFars 154 = .ok (.aload_n 0, 1) := by decide +kernel
theorem dX8_findFars_155 : decode cX8_findFars 155 = .ok (.getfield 40, 3) := by decide +kernel
theorem dX8_findFars_158 : decode cX8_findFars 158 = .ok (.iload 7, 2) := by decide +kernel
theorem dX8_findFars_160 : decode cX8_findFars 160 = .ok (.iaload, 1) := by decide +kernel
theorem dX8_findFars_161 : decode cX8_findFars 161 = .ok (.iconst 1, 1) := by decide +kernel
theorem dX8_findFars_162 : decode cX8_findFars 162 = .ok (.iadd, 1) := by decide +kernel
theorem dX8_findFars_163 : decode cX8_findFars 163 = .ok (.goto 10, 3) := by decide +kernel
theorem dX8_findFars_166 : decode cX8_findFars 166 = .ok (.aload_n 0, 1) := by decide +kernel
theorem dX8_findFars_167 : decode cX8_findFars 167 = .ok (.getfield 40, 3) := by decide +kernel
theorem dX8_findFars_170 : decode cX8_findFars 170 = .ok (.iload 6, 2) := by decide +kernel
theorem dX8_findFars_172 : decode cX8_findFars 172 = .ok (.iaload, 1) := by decide +kernel
theorem dX8_findFars_173 : decode cX8_findFars 173 = .ok (.iastore, 1) := by decide +kernel
theorem dX8_findFars_174 : decode cX8_findFars 174 = .ok (.aload_n 0, 1) := by decide +kernel
theorem dX8_findFars_175 : decode cX8_findFars 175 = .ok (.getfield 40, 3) := by decide +kernel
theorem dX8_findFars_178 : decode cX8_findFars 178 = .ok (.iload 7, 2) := by decide +kernel
theorem dX8_findFars_180 : decode cX8_findFars 180 = .ok (.aload_n 0, 1) := by decide +kernel
theorem dX8_findFars_181 : decode cX8_findFars 181 = .ok (.getfield 40, 3) := by decide +kernel
theorem dX8_findFars_184 : decode cX8_findFars 184 = .ok (.iload 7, 2) := by decide +kernel
theorem dX8_findFars_186 : decode cX8_findFars 186 = .ok (.iaload, 1) := by decide +kernel
theorem dX8_findFars_187 : decode cX8_findFars 187 = .ok (.aload_n 0, 1) := by decide +kernel
theorem dX8_findFars_188 : decode cX8_findFars 188 = .ok (.getfield 40, 3) := by decide +kernel
theorem dX8_findFars_191 : decode cX8_findFars 191 = .ok (.iload 6, 2) := by decide +kernel
theorem dX8_findFars_193 : decode cX8_findFars 193 = .ok (.iaload, 1) := by decide +kernel
theorem dX8_findFars_194 : decode cX8_findFars 194 = .ok (.iconst 1, 1) := by decide +kernel
theorem dX8_findFars_195 : decode cX8_findFars 195 = .ok (.iadd, 1) := by decide +kernel
theorem dX8_findFars_196 : decode cX8_findFars 196 = .ok (.if_icmp .le 15, 3) := by decide +kernel
theorem dX8_findFars_199 : decode cX8_findFars 199 = .ok (.aload_n 0, 1) := by decide +kernel
theorem dX8_findFars_200 : decode cX8_findFars 200 = .ok (.getfield 40, 3) := by decide +kernel
theorem dX8_findFars_203 : decode cX8_findFars 203 = .ok (.iload 6, 2) := by decide +kernel
theorem dX8_findFars_205 : decode cX8_findFars 205 = .ok (.iaload, 1) := by decide +kernel
theorem dX8_findFars_206 : decode cX8_findFars 206 = .ok (.iconst 1, 1) := by decide +kernel
theorem dX8_findFars_207 : decode cX8_findFars 207 = .ok (.iadd, 1) := by decide +kernel
theorem dX8_findFars_208 : decode cX8_findFars 208 = .ok (.goto 10, 3) := by decide +kernel
theorem dX8_findFars_211 : decode cX8_findFars 211 = .ok (.aload_n 0, 1) := by decide +kernel
theorem dX8_findFars_212 : decode cX8_findFars 212 = .ok (.getfield 40, 3) := by decide +kernel
theorem dX8_findFars_215 : decode cX8_findFars 215 = .ok (.iload 7, 2) := by decide +kernel
theorem dX8_findFars_217 : decode cX8_findFars 217 = .ok (.iaload, 1) := by decide +kernel
theorem dX8_findFars_218 : decode cX8_findFars 218 = .ok (.iastore, 1) := by decide +kernel
theorem dX8_findFars_219 : decode cX8_findFars 219 = .ok (.iconst 1, 1) := by decide +kernel
theorem dX8_findFars_220 : decode cX8_findFars 220 = .ok (.istore_n 3, 1) := by decide +kernel
theorem dX8_findFars_221 : decode cX8_findFars 221 = .ok (.iinc 4 1, 3) := by decide +kernel
theorem dX8_findFars_224 : decode cX8_findFars 224 = .ok (.goto (-182), 3) := by decide +kernel
theorem dX8_findFars_227 : decode cX8_findFars 227 = .ok (.goto (-194), 3) := by decide +kernel
theorem dX8_findFars_230 : decode cX8_findFars 230 = .ok (.return_, 1) := by decide +kernel
theorem dX8_visit_0 : decode cX8_visit 0 = .ok (.iload_n 1, 1) := by decide +kernel
theorem dX8_visit_1 : decode cX8_visit 1 = .ok (.invokestatic 188, 3) := by decide +kernel
theorem dX8_visit_4 : decode cX8_visit 4 = .ok (.ifCond .eq 22, 3) := by decide +kernel
theorem dX8_visit_7 : decode cX8_visit 7 = .ok (.iload_n 2, 1) := by decide +kernel
theorem dX8_visit_8 : decode cX8_visit 8 = .ok (.invokestatic 74, 3) := by decide +kernel
theorem dX8_visit_11 : decode cX8_visit 11 = .ok (.ifCond .eq 15, 3) := by decide +kernel
theorem dX8_visit_14 : decode cX8_visit 14 = .ok (.iload_n 3, 1) := by decide +kernel
theorem dX8_visit_15 : decode cX8_visit 15 = .ok (.i2l, 1) := by decide +kernel
theorem dX8_visit_16 : decode cX8_visit 16 = .ok (.lconst 0, 1) := by decide +kernel
theorem dX8_visit_17 : decode cX8_visit 17 = .ok (.ldc2_w 191, 3) := by decide +kernel
theorem dX8_visit_20 : decode cX8_visit 20 = .ok (.invokestatic 66, 3) := by decide +kernel
theorem dX8_visit_23 : decode cX8_visit 23 = .ok (.ifCond .ne 5, 3) := by decide +kernel
theorem dX8_visit_26 : decode cX8_visit 26 = .ok (.iconst (-1), 1) := by decide +kernel
theorem dX8_visit_27 : decode cX8_visit 27 = .ok (.ireturn, 1) := by decide +kernel
theorem dX8_visit_28 : decode cX8_visit 28 = .ok (.aload_n 0, 1) := by decide +kernel
theorem dX8_visit_29 : decode cX8_visit 29 = .ok (.iload_n 1, 1) := by decide +kernel
theorem dX8_visit_30 : decode cX8_visit 30 = .ok (.iconst 0, 1) := by decide +kernel
theorem dX8_visit_31 : decode cX8_visit 31 = .ok (.invokevirtual 193, 3) := by decide +kernel
theorem dX8_visit_34 : decode cX8_visit 34 = .ok (.istore 4, 2) := by decide +kernel
theorem dX8_visit_36 : decode cX8_visit 36 = .ok (.aload_n 0, 1) := by decide +kernel
theorem dX8_visit_37 : decode cX8_visit 37 = .ok (.iload_n 2, 1) := by decide +kernel
theorem dX8_visit_38 : decode cX8_visit 38 = .ok (.iload 4, 2) := by decide +kernel
theorem dX8_visit_40 : decode cX8_visit 40 = .ok (.invokevirtual 197, 3) := by decide +kernel
theorem dX8_visit_43 : decode cX8_visit 43 = .ok (.aload_n 0, 1) := by decide +kernel
theorem dX8_visit_44 : decode cX8_visit 44 = .ok (.getfield 40, 3) := by decide +kernel
theorem dX8_visit_47 : decode cX8_visit 47 = .ok (.iconst 0, 1) := by decide +kernel
theorem dX8_visit_48 : decode cX8_visit 48 = .ok (.iaload, 1) := by decide +kernel
theorem dX8_visit_49 : decode cX8_visit 49 = .ok (.bipush 99, 2) := by decide +kernel
theorem dX8_visit_51 : decode cX8_visit 51 = .ok (.if_icmp .ne 6, 3) := by decide +kernel
theorem dX8_visit_54 : decode cX8_visit 54 = .ok (.bipush (-2), 2) := by decide +kernel
theorem dX8_visit_56 : decode cX8_visit 56 = .ok (.ireturn, 1) := by decide +kernel
theorem dX8_visit_57 : decode cX8_visit 57 = .ok (.iconst 0, 1) := by decide +kernel
theorem dX8_visit_58 : decode cX8_visit 58 = .ok (.istore 5, 2) := by decide +kernel
theorem dX8_visit_60 : decode cX8_visit 60 = .ok (.iload 5, 2) := by decide +kernel
theorem dX8_visit_62 : decode cX8_visit 62 = .ok (.iload_n 2, 1) := by decide +kernel
theorem dX8_visit_63 : decode cX8_visit 63 = .ok (.if_icmp .eq 83, 3) := by decide +kernel
theorem dX8_visit_66 : decode cX8_visit 66 = .ok (.iconst 0, 1) := by decide +kernel
theorem dX8_visit_67 : decode cX8_visit 67 = .ok (.istore 6, 2) := by decide +kernel
theorem dX8_visit_69 : decode cX8_visit 69 = .ok (.aload_n 0, 1) := by decide +kernel
theorem dX8_visit_70 : decode cX8_visit 70 = .ok (.aload_n 0, 1) := by decide +kernel
theorem dX8_visit_71 : decode cX8_visit 71 = .ok (.iload 6, 2) := by decide +kernel
theorem dX8_visit_73 : decode cX8_visit 73 = .ok (.invokevirtual 182, 3) := by decide +kernel
theorem dX8_visit_76 : decode cX8_visit 76 = .ok (.iload 5, 2) := by decide +kernel
theorem dX8_visit_78 : decode cX8_visit 78 = .ok (.iload 4, 2) := by decide +kernel
theorem dX8_visit_80 : decode cX8_visit 80 = .ok (.invokevirtual 201, 3) := by decide +kernel
theorem dX8_visit_83 : decode cX8_visit 83 = .ok (.ifCond .ne 9, 3) := by decide +kernel
theorem dX8_visit_86 : decode cX8_visit 86 = .ok (.iinc 6 1, 3) := by decide +kernel
theorem dX8_visit_89 : decode cX8_visit 89 = .ok (.goto (-20), 3) := by decide +kernel
theorem dX8_visit_92 : decode cX8_visit 92 = .ok (.aload_n 0, 1) := by decide +kernel
theorem dX8_visit_93 : decode cX8_visit 93 = .ok (.iload 6, 2) := by decide +kernel
theorem dX8_visit_95 : decode cX8_visit 95 = .ok (.invokevirtual 182, 3) := by decide +kernel
theorem dX8_visit_98 : decode cX8_visit 98 = .ok (.istore 7, 2) := by decide +kernel
theorem dX8_visit_100 : decode cX8_visit 100 = .ok (.aload_n 0, 1) := by decide +kernel
theorem dX8_visit_101 : decode cX8_visit 101 = .ok (.aload_n 0, 1) := by decide +kernel
theorem dX8_visit_102 : decode cX8_visit 102 = .ok (.getfield 16, 3) := by decide +kernel
theorem dX8_visit_105 : decode cX8_visit 105 = .ok (.iload 7, 2) := by decide +kernel
theorem dX8_visit_107 : decode cX8_visit 107 = .ok (.iaload, 1) := by decide +kernel
theorem dX8_visit_108 : decode cX8_visit 108 = .ok (.iload_n 3, 1) := by decide +kernel
theorem dX8_visit_109 : decode cX8_visit 109 = .ok (.invokevirtual 205, 3) := by decide +kernel
theorem dX8_visit_112 : decode cX8_visit 112 = .ok (.aload_n 0, 1) := by decide +kernel
theorem dX8_visit_113 : decode cX8_visit 113 = .ok (.getfield 7, 3) := by decide +kernel
theorem dX8_visit_116 : decode cX8_visit 116 = .ok (.iload 7, 2) := by decide +kernel
theorem dX8_visit_118 : decode cX8_visit 118 = .ok (.iaload, 1) := by decide +kernel
theorem dX8_visit_119 : decode cX8_visit 119 = .ok (.iload 5, 2) := by decide +kernel
theorem dX8_visit_121 : decode cX8_visit 121 = .ok (.if_icmp .ne 13, 3) := by decide +kernel
theorem dX8_visit_124 : decode cX8_visit 124 = .ok (.aload_n 0, 1) := by decide +kernel
theorem dX8_visit_125 : decode cX8_visit 125 = .ok (.getfield 13, 3) := by decide +kernel
theorem dX8_visit_128 : decode cX8_visit 128 = .ok (.iload 7, 2) := by decide +kernel
theorem dX8_visit_130 : decode cX8_visit 130 = .ok (.iaload, 1) := by decide +kernel
theorem dX8_visit_131 : decode cX8_visit 131 = .ok (.goto 10, 3) := by decide +kernel
theorem dX8_visit_134 : decode cX8_visit 134 = .ok (.aload_n 0, 1) := by decide +kernel
theorem dX8_visit_135 : decode cX8_visit 135 = .ok (.getfield 7, 3) := by decide +kernel
theorem dX8_visit_138 : decode cX8_visit 138 = .ok (.iload 7, 2) := by decide +kernel
theorem dX8_visit_140 : decode cX8_visit 140 = .ok (.iaload, 1) := by decide +kernel
theorem dX8_visit_141 : decode cX8_visit 141 = .ok (.istore 5, 2) := by decide +kernel
theorem dX8_visit_143 : decode cX8_visit 143 = .ok (.goto (-83), 3) := by decide +kernel
theorem dX8_visit_146 : decode cX8_visit 146 = .ok (.iconst 2, 1) := by decide +kernel
theorem dX8_visit_147 : decode cX8_visit 147 = .ok (.aload_n 0, 1) := by decide +kernel
theorem dX8_visit_148 : decode cX8_visit 148 = .ok (.getfield 40, 3) := by decide +kernel
theorem dX8_visit_151 : decode cX8_visit 151 = .ok (.iconst 0, 1) := by decide +kernel
theorem dX8_visit_152 : decode cX8_visit 152 = .ok (.iaload, 1) := by decide +kernel
theorem dX8_visit_153 : decode cX8_visit 153 = .ok (.imul, 1) := by decide +kernel
theorem dX8_visit_154 : decode cX8_visit 154 = .ok (.iload_n 3, 1) := by decide +kernel
theorem dX8_visit_155 : decode cX8_visit 155 = .ok (.iadd, 1) := by decide +kernel
theorem dX8_visit_156 : decode cX8_visit 156 = .ok (.ireturn, 1) := by decide +kernel
theorem dX8_isNext_0 : decode cX8_isNext 0 = .ok (.aload_n 0, 1) := by decide +kernel
theorem dX8_isNext_1 : decode cX8_isNext 1 = .ok (.getfield 7, 3) := by decide +kernel
theorem dX8_isNext_4 : decode cX8_isNext 4 = .ok (.iload_n 1, 1) := by decide +kernel
theorem dX8_isNext_5 : decode cX8_isNext 5 = .ok (.iaload, 1) := by decide +kernel
theorem dX8_isNext_6 : decode cX8_isNext 6 = .ok (.iload_n 2, 1) := by decide +kernel
theorem dX8_isNext_7 : decode cX8_isNext 7 = .ok (.if_icmp .ne 25, 3) := by decide +kernel
theorem dX8_isNext_10 : decode cX8_isNext 10 = .ok (.aload_n 0, 1) := by decide +kernel
theorem dX8_isNext_11 : decode cX8_isNext 11 = .ok (.getfield 40, 3) := by decide +kernel
theorem dX8_isNext_14 : decode cX8_isNext 14 = .ok (.aload_n 0, 1) := by decide +kernel
theorem dX8_isNext_15 : decode cX8_isNext 15 = .ok (.getfield 13, 3) := by decide +kernel
theorem dX8_isNext_18 : decode cX8_isNext 18 = .ok (.iload_n 1, 1) := by decide +kernel
theorem dX8_isNext_19 : decode cX8_isNext 19 = .ok (.iaload, 1) := by decide +kernel
theorem dX8_isNext_20 : decode cX8_isNext 20 = .ok (.iaload, 1) := by decide +kernel
theorem dX8_isNext_21 : decode cX8_isNext 21 = .ok (.aload_n 0, 1) := by decide +kernel
theorem dX8_isNext_22 : decode cX8_isNext 22 = .ok (.getfield 40, 3) := by decide +kernel
theorem dX8_isNext_25 : decode cX8_isNext 25 = .ok (.iload_n 2, 1) := by decide +kernel
theorem dX8_isNext_26 : decode cX8_isNext 26 = .ok (.iaload, 1) := by decide +kernel
theorem dX8_isNext_27 : decode cX8_isNext 27 = .ok (.iconst 1, 1) := by decide +kernel
theorem dX8_isNext_28 : decode cX8_isNext 28 = .ok (.isub, 1) := by decide +kernel
theorem dX8_isNext_29 : decode cX8_isNext 29 = .ok (.if_icmp .eq 35, 3) := by decide +kernel
theorem dX8_isNext_32 : decode cX8_isNext 32 = .ok (.aload_n 0, 1) := by decide +kernel
theorem dX8_isNext_33 : decode cX8_isNext 33 = .ok (.getfield 13, 3) := by decide +kernel
theorem dX8_isNext_36 : decode cX8_isNext 36 = .ok (.iload_n 1, 1) := by decide +kernel
theorem dX8_isNext_37 : decode cX8_isNext 37 = .ok (.iaload, 1) := by decide +kernel
theorem dX8_isNext_38 : decode cX8_isNext 38 = .ok (.iload_n 2, 1) := by decide +kernel
theorem dX8_isNext_39 : decode cX8_isNext 39 = .ok (.if_icmp .ne 29, 3) := by decide +kernel
theorem dX8_isNext_42 : decode cX8_isNext 42 = .ok (.aload_n 0, 1) := by decide +kernel
theorem dX8_isNext_43 : decode cX8_isNext 43 = .ok (.getfield 40, 3) := by decide +kernel
theorem dX8_isNext_46 : decode cX8_isNext 46 = .ok (.aload_n 0, 1) := by decide +kernel
theorem dX8_isNext_47 : decode cX8_isNext 47 = .ok (.getfield 7, 3) := by decide +kernel
theorem dX8_isNext_50 : decode cX8_isNext 50 = .ok (.iload_n 1, 1) := by decide +kernel
theorem dX8_isNext_51 : decode cX8_isNext 51 = .ok (.iaload, 1) := by decide +kernel
theorem dX8_isNext_52 : decode cX8_isNext 52 = .ok (.iaload, 1) := by decide +kernel
theorem dX8_isNext_53 : decode cX8_isNext 53 = .ok (.aload_n 0, 1) := by decide +kernel
theorem dX8_isNext_54 : decode cX8_isNext 54 = .ok (.getfield 40, 3) := by decide +kernel
theorem dX8_isNext_57 : decode cX8_isNext 57 = .ok (.iload_n 2, 1) := by decide +kernel
theorem dX8_isNext_58 : decode cX8_isNext 58 = .ok (.iaload, 1) := by decide +kernel
theorem dX8_isNext_59 : decode cX8_isNext 59 = .ok (.iconst 1, 1) := by decide +kernel
theorem dX8_isNext_60 : decode cX8_isNext 60 = .ok (.isub, 1) := by decide +kernel
theorem dX8_isNext_61 : decode cX8_isNext 61 = .ok (.if_icmp .ne 7, 3) := by decide +kernel
theorem dX8_isNext_64 : decode cX8_isNext 64 = .ok (.iconst 1, 1) := by decide +kernel
theorem dX8_isNext_65 : decode cX8_isNext 65 = .ok (.goto 4, 3) := by decide +kernel
theorem dX8_isNext_68 : decode cX8_isNext 68 = .ok (.iconst 0, 1) := by decide +kernel
theorem dX8_isNext_69 : decode cX8_isNext 69 = .ok (.istore 4, 2) := by decide +kernel
theorem dX8_isNext_71 : decode cX8_isNext 71 = .ok (.iload 4, 2) := by decide +kernel
theorem dX8_isNext_73 : decode cX8_isNext 73 = .ok (.ifCond .eq 20, 3) := by decide +kernel
theorem dX8_isNext_76 : decode cX8_isNext 76 = .ok (.iload_n 3, 1) := by decide +kernel
theorem dX8_isNext_77 : decode cX8_isNext 77 = .ok (.aload_n 0, 1) := by decide +kernel
theorem dX8_isNext_78 : decode cX8_isNext 78 = .ok (.getfield 16, 3) := by decide +kernel
theorem dX8_isNext_81 : decode cX8_isNext 81 = .ok (.iload_n 1, 1) := by decide +kernel
theorem dX8_isNext_82 : decode cX8_isNext 82 = .ok (.iaload, 1) := by decide +kernel
theorem dX8_isNext_83 : decode cX8_isNext 83 = .ok (.invokestatic 185, 3) := by decide +kernel
theorem dX8_isNext_86 : decode cX8_isNext 86 = .ok (.ifCond .eq 7, 3) := by decide +kernel
theorem dX8_isNext_89 : decode cX8_isNext 89 = .ok (.iconst 1, 1) := by decide +kernel
theorem dX8_isNext_90 : decode cX8_isNext 90 = .ok (.goto 4, 3) := by decide +kernel
theorem dX8_isNext_93 : decode cX8_isNext 93 = .ok (.iconst 0, 1) := by decide +kernel
theorem dX8_isNext_94 : decode cX8_isNext 94 = .ok (.ireturn, 1) := by decide +kernel
theorem dX8_stain_0 : decode cX8_stain 0 = .ok (.iload_n 1, 1) := by decide +kernel
theorem dX8_stain_1 : decode cX8_stain 1 = .ok (.bipush 8, 2) := by decide +kernel
theorem dX8_stain_3 : decode cX8_stain 3 = .ok (.if_icmp .ge 40, 3) := by decide +kernel
theorem dX8_stain_6 : decode cX8_stain 6 = .ok (.aload_n 0, 1) := by decide +kernel
theorem dX8_stain_7 : decode cX8_stain 7 = .ok (.getfield 22, 3) := by decide +kernel
theorem dX8_stain_10 : decode cX8_stain 10 = .ok (.iload_n 1, 1) := by decide +kernel
theorem dX8_stain_11 : decode cX8_stain 11 = .ok (.iaload, 1) := by decide +kernel
theorem dX8_stain_12 : decode cX8_stain 12 = .ok (.iconst 1, 1) := by decide +kernel
theorem dX8_stain_13 : decode cX8_stain 13 = .ok (.if_icmp .ne 30, 3) := by decide +kernel
theorem dX8_stain_16 : decode cX8_stain 16 = .ok (.aload_n 0, 1) := by decide +kernel
theorem dX8_stain_17 : decode cX8_stain 17 = .ok (.getfield 28, 3) := by decide +kernel
theorem dX8_stain_20 : decode cX8_stain 20 = .ok (.iload_n 1, 1) := by decide +kernel
theorem dX8_stain_21 : decode cX8_stain 21 = .ok (.iaload, 1) := by decide +kernel
theorem dX8_stain_22 : decode cX8_stain 22 = .ok (.iload_n 2, 1) := by decide +kernel
theorem dX8_stain_23 : decode cX8_stain 23 = .ok (.if_icmp .ge 20, 3) := by decide +kernel
theorem dX8_stain_26 : decode cX8_stain 26 = .ok (.aload_n 0, 1) := by decide +kernel
theorem dX8_stain_27 : decode cX8_stain 27 = .ok (.getfield 28, 3) := by decide +kernel
theorem dX8_stain_30 : decode cX8_stain 30 = .ok (.iload_n 1, 1) := by decide +kernel
theorem dX8_stain_31 : decode cX8_stain 31 = .ok (.iload_n 2, 1) := by decide +kernel
theorem dX8_stain_32 : decode cX8_stain 32 = .ok (.iastore, 1) := by decide +kernel
theorem dX8_stain_33 : decode cX8_stain 33 = .ok (.aload_n 0, 1) := by decide +kernel
theorem dX8_stain_34 : decode cX8_stain 34 = .ok (.getfield 31, 3) := by decide +kernel
theorem dX8_stain_37 : decode cX8_stain 37 = .ok (.iload_n 1, 1) := by decide +kernel
theorem dX8_stain_38 : decode cX8_stain 38 = .ok (.aload_n 0, 1) := by decide +kernel
theorem dX8_stain_39 : decode cX8_stain 39 = .ok (.getfield 98, 3) := by decide +kernel
theorem dX8_stain_42 : decode cX8_stain 42 = .ok (.iastore, 1) := by decide +kernel
theorem dX8_stain_43 : decode cX8_stain 43 = .ok (.return_, 1) := by decide +kernel
theorem dX8_wash_0 : decode cX8_wash 0 = .ok (.iload_n 1, 1) := by decide +kernel
theorem dX8_wash_1 : decode cX8_wash 1 = .ok (.invokestatic 188, 3) := by decide +kernel
theorem dX8_wash_4 : decode cX8_wash 4 = .ok (.ifCond .eq 11, 3) := by decide +kernel
theorem dX8_wash_7 : decode cX8_wash 7 = .ok (.aload_n 0, 1) := by decide +kernel
theorem dX8_wash_8 : decode cX8_wash 8 = .ok (.iload_n 2, 1) := by decide +kernel
theorem dX8_wash_9 : decode cX8_wash 9 = .ok (.invokevirtual 89, 3) := by decide +kernel
theorem dX8_wash_12 : decode cX8_wash 12 = .ok (.ifCond .ne 5, 3) := by decide +kernel
theorem dX8_wash_15 : decode cX8_wash 15 = .ok (.iconst (-1), 1) := by decide +kernel
theorem dX8_wash_16 : decode cX8_wash 16 = .ok (.ireturn, 1) := by decide +kernel
theorem dX8_wash_17 : decode cX8_wash 17 = .ok (.aload_n 0, 1) := by decide +kernel
theorem dX8_wash_18 : decode cX8_wash 18 = .ok (.getfield 25, 3) := by decide +kernel
theorem dX8_wash_21 : decode cX8_wash 21 = .ok (.iload_n 2, 1) := by decide +kernel
theorem dX8_wash_22 : decode cX8_wash 22 = .ok (.iaload, 1) := by decide +kernel
theorem dX8_wash_23 : decode cX8_wash 23 = .ok (.iload_n 1, 1) := by decide +kernel
theorem dX8_wash_24 : decode cX8_wash 24 = .ok (.if_icmp .ne 13, 3) := by decide +kernel
theorem dX8_wash_27 : decode cX8_wash 27 = .ok (.aload_n 0, 1) := by decide +kernel
theorem dX8_wash_28 : decode cX8_wash 28 = .ok (.getfield 19, 3) := by decide +kernel
theorem dX8_wash_31 : decode cX8_wash 31 = .ok (.iload_n 2, 1) := by decide +kernel
theorem dX8_wash_32 : decode cX8_wash 32 = .ok (.iaload, 1) := by decide +kernel
theorem dX8_wash_33 : decode cX8_wash 33 = .ok (.iconst 3, 1) := by decide +kernel
theorem dX8_wash_34 : decode cX8_wash 34 = .ok (.if_icmp .eq 6, 3) := by decide +kernel
theorem dX8_wash_37 : decode cX8_wash 37 = .ok (.bipush (-2), 2) := by decide +kernel
theorem dX8_wash_39 : decode cX8_wash 39 = .ok (.ireturn, 1) := by decide +kernel
theorem dX8_wash_40 : decode cX8_wash 40 = .ok (.aload_n 0, 1) := by decide +kernel
theorem dX8_wash_41 : decode cX8_wash 41 = .ok (.getfield 28, 3) := by decide +kernel
theorem dX8_wash_44 : decode cX8_wash 44 = .ok (.iload_n 2, 1) := by decide +kernel
theorem dX8_wash_45 : decode cX8_wash 45 = .ok (.dup2, 1) := by decide +kernel
theorem dX8_wash_46 : decode cX8_wash 46 = .ok (.iaload, 1) := by decide +kernel
theorem dX8_wash_47 : decode cX8_wash 47 = .ok (.iconst 2, 1) := by decide +kernel
theorem dX8_wash_48 : decode cX8_wash 48 = .ok (.idiv, 1) := by decide +kernel
theorem dX8_wash_49 : decode cX8_wash 49 = .ok (.iastore, 1) := by decide +kernel
theorem dX8_wash_50 : decode cX8_wash 50 = .ok (.aload_n 0, 1) := by decide +kernel
theorem dX8_wash_51 : decode cX8_wash 51 = .ok (.getfield 28, 3) := by decide +kernel
theorem dX8_wash_54 : decode cX8_wash 54 = .ok (.iload_n 2, 1) := by decide +kernel
theorem dX8_wash_55 : decode cX8_wash 55 = .ok (.iaload, 1) := by decide +kernel
theorem dX8_wash_56 : decode cX8_wash 56 = .ok (.ireturn, 1) := by decide +kernel
theorem dX8_change_0 : decode cX8_change 0 = .ok (.aload_n 0, 1) := by decide +kernel
theorem dX8_change_1 : decode cX8_change 1 = .ok (.iload_n 1, 1) := by decide +kernel
theorem dX8_change_2 : decode cX8_change 2 = .ok (.invokevirtual 89, 3) := by decide +kernel
theorem dX8_change_5 : decode cX8_change 5 = .ok (.ifCond .eq 15, 3) := by decide +kernel
theorem dX8_change_8 : decode cX8_change 8 = .ok (.iload_n 2, 1) := by decide +kernel
theorem dX8_change_9 : decode cX8_change 9 = .ok (.i2l, 1) := by decide +kernel
theorem dX8_change_10 : decode cX8_change 10 = .ok (.lconst 0, 1) := by decide +kernel
theorem dX8_change_11 : decode cX8_change 11 = .ok (.ldc2_w 208, 3) := by decide +kernel
theorem dX8_change_14 : decode cX8_change 14 = .ok (.invokestatic 66, 3) := by decide +kernel
theorem dX8_change_17 : decode cX8_change 17 = .ok (.ifCond .ne 5, 3) := by decide +kernel
theorem dX8_change_20 : decode cX8_change 20 = .ok (.iconst (-1), 1) := by decide +kernel
theorem dX8_change_21 : decode cX8_change 21 = .ok (.ireturn, 1) := by decide +kernel
theorem dX8_change_22 : decode cX8_change 22 = .ok (.aload_n 0, 1) := by decide +kernel
theorem dX8_change_23 : decode cX8_change 23 = .ok (.getfield 25, 3) := by decide +kernel
theorem dX8_change_26 : decode cX8_change 26 = .ok (.iload_n 1, 1) := by decide +kernel
theorem dX8_change_27 : decode cX8_change 27 = .ok (.iaload, 1) := by decide +kernel
theorem dX8_change_28 : decode cX8_change 28 = .ok (.istore_n 3, 1) := by decide +kernel
theorem dX8_change_29 : decode cX8_change 29 = .ok (.iload_n 3, 1) := by decide +kernel
theorem dX8_change_30 : decode cX8_change 30 = .ok (.iload_n 2, 1) := by decide +kernel
theorem dX8_change_31 : decode cX8_change 31 = .ok (.if_icmp .ne 6, 3) := by decide +kernel
theorem dX8_change_34 : decode cX8_change 34 = .ok (.bipush (-2), 2) := by decide +kernel
theorem dX8_change_36 : decode cX8_change 36 = .ok (.ireturn, 1) := by decide +kernel
theorem dX8_change_37 : decode cX8_change 37 = .ok (.aload_n 0, 1) := by decide +kernel
theorem dX8_change_38 : decode cX8_change 38 = .ok (.getfield 25, 3) := by decide +kernel
theorem dX8_change_41 : decode cX8_change 41 = .ok (.iload_n 1, 1) := by decide +kernel
theorem dX8_change_42 : decode cX8_change 42 = .ok (.iload_n 2, 1) := by decide +kernel
theorem dX8_change_43 : decode cX8_change 43 = .ok (.iastore, 1) := by decide +kernel
theorem dX8_change_44 : decode cX8_change 44 = .ok (.iload_n 3, 1) := by decide +kernel
theorem dX8_change_45 : decode cX8_change 45 = .ok (.ireturn, 1) := by decide +kernel
theorem dX8_next_0 : decode cX8_next 0 = .ok (.aload_n 0, 1) := by decide +kernel
theorem dX8_next_1 : decode cX8_next 1 = .ok (.getfield 98, 3) := by decide +kernel
theorem dX8_next_4 : decode cX8_next 4 = .ok (.sipush 999, 3) := by decide +kernel
theorem dX8_next_7 : decode cX8_next 7 = .ok (.if_icmp .ne 6, 3) := by decide +kernel
theorem dX8_next_10 : decode cX8_next 10 = .ok (.bipush (-3), 2) := by decide +kernel
theorem dX8_next_12 : decode cX8_next 12 = .ok (.ireturn, 1) := by decide +kernel
theorem dX8_next_13 : decode cX8_next 13 = .ok (.aload_n 0, 1) := by decide +kernel
theorem dX8_next_14 : decode cX8_next 14 = .ok (.dup, 1) := by decide +kernel
theorem dX8_next_15 : decode cX8_next 15 = .ok (.getfield 98, 3) := by decide +kernel
theorem dX8_next_18 : decode cX8_next 18 = .ok (.iconst 1, 1) := by decide +kernel
theorem dX8_next_19 : decode cX8_next 19 = .ok (.iadd, 1) := by decide +kernel
theorem dX8_next_20 : decode cX8_next 20 = .ok (.putfield 98, 3) := by decide +kernel
theorem dX8_next_23 : decode cX8_next 23 = .ok (.aload_n 0, 1) := by decide +kernel
theorem dX8_next_24 : decode cX8_next 24 = .ok (.getfield 98, 3) := by decide +kernel
theorem dX8_next_27 : decode cX8_next 27 = .ok (.ireturn, 1) := by decide +kernel
theorem dX8_shown_0 : decode cX8_shown 0 = .ok (.aload_n 0, 1) := by decide +kernel
theorem dX8_shown_1 : decode cX8_shown 1 = .ok (.iload_n 1, 1) := by decide +kernel
theorem dX8_shown_2 : decode cX8_shown 2 = .ok (.invokevirtual 89, 3) := by decide +kernel
theorem dX8_shown_5 : decode cX8_shown 5 = .ok (.ifCond .eq 28, 3) := by decide +kernel
theorem dX8_shown_8 : decode cX8_shown 8 = .ok (.iload_n 2, 1) := by decide +kernel
theorem dX8_shown_9 : decode cX8_shown 9 = .ok (.i2l, 1) := by decide +kernel
theorem dX8_shown_10 : decode cX8_shown 10 = .ok (.aload_n 0, 1) := by decide +kernel
theorem dX8_shown_11 : decode cX8_shown 11 = .ok (.getfield 98, 3) := by decide +kernel
theorem dX8_shown_14 : decode cX8_shown 14 = .ok (.i2l, 1) := by decide +kernel
theorem dX8_shown_15 : decode cX8_shown 15 = .ok (.ldc2_w 210, 3) := by decide +kernel
theorem dX8_shown_18 : decode cX8_shown 18 = .ok (.invokestatic 66, 3) := by decide +kernel
theorem dX8_shown_21 : decode cX8_shown 21 = .ok (.ifCond .eq 12, 3) := by decide +kernel
theorem dX8_shown_24 : decode cX8_shown 24 = .ok (.aload_n 0, 1) := by decide +kernel
theorem dX8_shown_25 : decode cX8_shown 25 = .ok (.iload_n 1, 1) := by decide +kernel
theorem dX8_shown_26 : decode cX8_shown 26 = .ok (.iload_n 2, 1) := by decide +kernel
theorem dX8_shown_27 : decode cX8_shown 27 = .ok (.invokevirtual 101, 3) := by decide +kernel
theorem dX8_shown_30 : decode cX8_shown 30 = .ok (.goto 4, 3) := by decide +kernel
theorem dX8_shown_33 : decode cX8_shown 33 = .ok (.iconst (-1), 1) := by decide +kernel
theorem dX8_shown_34 : decode cX8_shown 34 = .ok (.ireturn, 1) := by decide +kernel
theorem dX8_seen_0 : decode cX8_seen 0 = .ok (.iload_n 1, 1) := by decide +kernel
theorem dX8_seen_1 : decode cX8_seen 1 = .ok (.invokestatic 188, 3) := by decide +kernel
theorem dX8_seen_4 : decode cX8_seen 4 = .ok (.ifCond .eq 20, 3) := by decide +kernel
theorem dX8_seen_7 : decode cX8_seen 7 = .ok (.iload_n 2, 1) := by decide +kernel
theorem dX8_seen_8 : decode cX8_seen 8 = .ok (.invokestatic 74, 3) := by decide +kernel
theorem dX8_seen_11 : decode cX8_seen 11 = .ok (.ifCond .eq 13, 3) := by decide +kernel
theorem dX8_seen_14 : decode cX8_seen 14 = .ok (.iload_n 3, 1) := by decide +kernel
theorem dX8_seen_15 : decode cX8_seen 15 = .ok (.i2l, 1) := by decide +kernel
theorem dX8_seen_16 : decode cX8_seen 16 = .ok (.lconst 0, 1) := by decide +kernel
theorem dX8_seen_17 : decode cX8_seen 17 = .ok (.lconst 1, 1) := by decide +kernel
theorem dX8_seen_18 : decode cX8_seen 18 = .ok (.invokestatic 66, 3) := by decide +kernel
theorem dX8_seen_21 : decode cX8_seen 21 = .ok (.ifCond .ne 5, 3) := by decide +kernel
theorem dX8_seen_24 : decode cX8_seen 24 = .ok (.iconst (-1), 1) := by decide +kernel
theorem dX8_seen_25 : decode cX8_seen 25 = .ok (.ireturn, 1) := by decide +kernel
theorem dX8_seen_26 : decode cX8_seen 26 = .ok (.aload_n 0, 1) := by decide +kernel
theorem dX8_seen_27 : decode cX8_seen 27 = .ok (.iload_n 2, 1) := by decide +kernel
theorem dX8_seen_28 : decode cX8_seen 28 = .ok (.aload_n 0, 1) := by decide +kernel
theorem dX8_seen_29 : decode cX8_seen 29 = .ok (.iload_n 1, 1) := by decide +kernel
theorem dX8_seen_30 : decode cX8_seen 30 = .ok (.iload_n 3, 1) := by decide +kernel
theorem dX8_seen_31 : decode cX8_seen 31 = .ok (.iconst 1, 1) := by decide +kernel
theorem dX8_seen_32 : decode cX8_seen 32 = .ok (.if_icmp .ne 7, 3) := by decide +kernel
theorem dX8_seen_35 : decode cX8_seen 35 = .ok (.iconst 1, 1) := by decide +kernel
theorem dX8_seen_36 : decode cX8_seen 36 = .ok (.goto 4, 3) := by decide +kernel
theorem dX8_seen_39 : decode cX8_seen 39 = .ok (.iconst 0, 1) := by decide +kernel
theorem dX8_seen_40 : decode cX8_seen 40 = .ok (.invokevirtual 193, 3) := by decide +kernel
theorem dX8_seen_43 : decode cX8_seen 43 = .ok (.invokevirtual 197, 3) := by decide +kernel
theorem dX8_seen_46 : decode cX8_seen 46 = .ok (.aload_n 0, 1) := by decide +kernel
theorem dX8_seen_47 : decode cX8_seen 47 = .ok (.getfield 40, 3) := by decide +kernel
theorem dX8_seen_50 : decode cX8_seen 50 = .ok (.iconst 0, 1) := by decide +kernel
theorem dX8_seen_51 : decode cX8_seen 51 = .ok (.iaload, 1) := by decide +kernel
theorem dX8_seen_52 : decode cX8_seen 52 = .ok (.bipush 99, 2) := by decide +kernel
theorem dX8_seen_54 : decode cX8_seen 54 = .ok (.if_icmp .ne 8, 3) := by decide +kernel
theorem dX8_seen_57 : decode cX8_seen 57 = .ok (.bipush (-4), 2) := by decide +kernel
theorem dX8_seen_59 : decode cX8_seen 59 = .ok (.goto 11, 3) := by decide +kernel
theorem dX8_seen_62 : decode cX8_seen 62 = .ok (.iconst 2, 1) := by decide +kernel
theorem dX8_seen_63 : decode cX8_seen 63 = .ok (.aload_n 0, 1) := by decide +kernel
theorem dX8_seen_64 : decode cX8_seen 64 = .ok (.getfield 40, 3) := by decide +kernel
theorem dX8_seen_67 : decode cX8_seen 67 = .ok (.iconst 0, 1) := by decide +kernel
theorem dX8_seen_68 : decode cX8_seen 68 = .ok (.iaload, 1) := by decide +kernel
theorem dX8_seen_69 : decode cX8_seen 69 = .ok (.imul, 1) := by decide +kernel
theorem dX8_seen_70 : decode cX8_seen 70 = .ok (.ireturn, 1) := by decide +kernel
theorem dX8_reach_0 : decode cX8_reach 0 = .ok (.iload_n 1, 1) := by decide +kernel
theorem dX8_reach_1 : decode cX8_reach 1 = .ok (.i2l, 1) := by decide +kernel
theorem dX8_reach_2 : decode cX8_reach 2 = .ok (.lconst 0, 1) := by decide +kernel
theorem dX8_reach_3 : decode cX8_reach 3 = .ok (.iconst 1, 1) := by decide +kernel
theorem dX8_reach_4 : decode cX8_reach 4 = .ok (.aload_n 0, 1) := by decide +kernel
theorem dX8_reach_5 : decode cX8_reach 5 = .ok (.getfield 70, 3) := by decide +kernel
theorem dX8_reach_8 : decode cX8_reach 8 = .ok (.ishl, 1) := by decide +kernel
theorem dX8_reach_9 : decode cX8_reach 9 = .ok (.iconst 1, 1) := by decide +kernel
theorem dX8_reach_10 : decode cX8_reach 10 = .ok (.isub, 1) := by decide +kernel
theorem dX8_reach_11 : decode cX8_reach 11 = .ok (.i2l, 1) := by decide +kernel
theorem dX8_reach_12 : decode cX8_reach 12 = .ok (.invokestatic 66, 3) := by decide +kernel
theorem dX8_reach_15 : decode cX8_reach 15 = .ok (.ifCond .ne 5, 3) := by decide +kernel
theorem dX8_reach_18 : decode cX8_reach 18 = .ok (.iconst (-1), 1) := by decide +kernel
theorem dX8_reach_19 : decode cX8_reach 19 = .ok (.ireturn, 1) := by decide +kernel
theorem dX8_reach_20 : decode cX8_reach 20 = .ok (.aload_n 0, 1) := by decide +kernel
theorem dX8_reach_21 : decode cX8_reach 21 = .ok (.iconst 0, 1) := by decide +kernel
theorem dX8_reach_22 : decode cX8_reach 22 = .ok (.iload_n 1, 1) := by decide +kernel
theorem dX8_reach_23 : decode cX8_reach 23 = .ok (.sipush 256, 3) := by decide +kernel
theorem dX8_reach_26 : decode cX8_reach 26 = .ok (.ior, 1) := by decide +kernel
theorem dX8_reach_27 : decode cX8_reach 27 = .ok (.invokevirtual 197, 3) := by decide +kernel
theorem dX8_reach_30 : decode cX8_reach 30 = .ok (.iconst 0, 1) := by decide +kernel
theorem dX8_reach_31 : decode cX8_reach 31 = .ok (.istore_n 2, 1) := by decide +kernel
theorem dX8_reach_32 : decode cX8_reach 32 = .ok (.iconst 0, 1) := by decide +kernel
theorem dX8_reach_33 : decode cX8_reach 33 = .ok (.istore_n 3, 1) := by decide +kernel
theorem dX8_reach_34 : decode cX8_reach 34 = .ok (.iload_n 3, 1) := by decide +kernel
theorem dX8_reach_35 : decode cX8_reach 35 = .ok (.bipush 11, 2) := by decide +kernel
theorem dX8_reach_37 : decode cX8_reach 37 = .ok (.if_icmp .ge 30, 3) := by decide +kernel
theorem dX8_reach_40 : decode cX8_reach 40 = .ok (.iload_n 2, 1) := by decide +kernel
theorem dX8_reach_41 : decode cX8_reach 41 = .ok (.aload_n 0, 1) := by decide +kernel
theorem dX8_reach_42 : decode cX8_reach 42 = .ok (.getfield 40, 3) := by decide +kernel
theorem dX8_reach_45 : decode cX8_reach 45 = .ok (.iload_n 3, 1) := by decide +kernel
theorem dX8_reach_46 : decode cX8_reach 46 = .ok (.iaload, 1) := by decide +kernel
theorem dX8_reach_47 : decode cX8_reach 47 = .ok (.bipush 99, 2) := by decide +kernel
theorem dX8_reach_49 : decode cX8_reach 49 = .ok (.if_icmp .ge 9, 3) := by decide +kernel
theorem dX8_reach_52 : decode cX8_reach 52 = .ok (.iconst 1, 1) := by decide +kernel
theorem dX8_reach_53 : decode cX8_reach 53 = .ok (.iload_n 3, 1) := by decide +kernel
theorem dX8_reach_54 : decode cX8_reach 54 = .ok (.ishl, 1) := by decide +kernel
theorem dX8_reach_55 : decode cX8_reach 55 = .ok (.goto 4, 3) := by decide +kernel
theorem dX8_reach_58 : decode cX8_reach 58 = .ok (.iconst 0, 1) := by decide +kernel
theorem dX8_reach_59 : decode cX8_reach 59 = .ok (.ior, 1) := by decide +kernel
theorem dX8_reach_60 : decode cX8_reach 60 = .ok (.istore_n 2, 1) := by decide +kernel
theorem dX8_reach_61 : decode cX8_reach 61 = .ok (.iinc 3 1, 3) := by decide +kernel
theorem dX8_reach_64 : decode cX8_reach 64 = .ok (.goto (-30), 3) := by decide +kernel
theorem dX8_reach_67 : decode cX8_reach 67 = .ok (.iload_n 2, 1) := by decide +kernel
theorem dX8_reach_68 : decode cX8_reach 68 = .ok (.ireturn, 1) := by decide +kernel
theorem dX8_fits_0 : decode cX8_fits 0 = .ok (.iload_n 1, 1) := by decide +kernel
theorem dX8_fits_1 : decode cX8_fits 1 = .ok (.i2l, 1) := by decide +kernel
theorem dX8_fits_2 : decode cX8_fits 2 = .ok (.ldc2_w 212, 3) := by decide +kernel
theorem dX8_fits_5 : decode cX8_fits 5 = .ok (.ldc2_w 214, 3) := by decide +kernel
theorem dX8_fits_8 : decode cX8_fits 8 = .ok (.invokestatic 66, 3) := by decide +kernel
theorem dX8_fits_11 : decode cX8_fits 11 = .ok (.ifCond .eq 35, 3) := by decide +kernel
theorem dX8_fits_14 : decode cX8_fits 14 = .ok (.iload_n 2, 1) := by decide +kernel
theorem dX8_fits_15 : decode cX8_fits 15 = .ok (.i2l, 1) := by decide +kernel
theorem dX8_fits_16 : decode cX8_fits 16 = .ok (.ldc2_w 212, 3) := by decide +kernel
theorem dX8_fits_19 : decode cX8_fits 19 = .ok (.ldc2_w 82, 3) := by decide +kernel
theorem dX8_fits_22 : decode cX8_fits 22 = .ok (.invokestatic 66, 3) := by decide +kernel
theorem dX8_fits_25 : decode cX8_fits 25 = .ok (.ifCond .eq 21, 3) := by decide +kernel
theorem dX8_fits_28 : decode cX8_fits 28 = .ok (.iload_n 3, 1) := by decide +kernel
theorem dX8_fits_29 : decode cX8_fits 29 = .ok (.i2l, 1) := by decide +kernel
theorem dX8_fits_30 : decode cX8_fits 30 = .ok (.ldc2_w 212, 3) := by decide +kernel
theorem dX8_fits_33 : decode cX8_fits 33 = .ok (.ldc2_w 64, 3) := by decide +kernel
theorem dX8_fits_36 : decode cX8_fits 36 = .ok (.invokestatic 66, 3) := by decide +kernel
theorem dX8_fits_39 : decode cX8_fits 39 = .ok (.ifCond .eq 7, 3) := by decide +kernel
theorem dX8_fits_42 : decode cX8_fits 42 = .ok (.iload_n 3, 1) := by decide +kernel
theorem dX8_fits_43 : decode cX8_fits 43 = .ok (.ifCond .ne 5, 3) := by decide +kernel
theorem dX8_fits_46 : decode cX8_fits 46 = .ok (.iconst (-1), 1) := by decide +kernel
theorem dX8_fits_47 : decode cX8_fits 47 = .ok (.ireturn, 1) := by decide +kernel
theorem dX8_fits_48 : decode cX8_fits 48 = .ok (.aload_n 0, 1) := by decide +kernel
theorem dX8_fits_49 : decode cX8_fits 49 = .ok (.iconst 0, 1) := by decide +kernel
theorem dX8_fits_50 : decode cX8_fits 50 = .ok (.sipush 511, 3) := by decide +kernel
theorem dX8_fits_53 : decode cX8_fits 53 = .ok (.invokevirtual 197, 3) := by decide +kernel
theorem dX8_fits_56 : decode cX8_fits 56 = .ok (.iconst 0, 1) := by decide +kernel
theorem dX8_fits_57 : decode cX8_fits 57 = .ok (.istore 4, 2) := by decide +kernel
theorem dX8_fits_59 : decode cX8_fits 59 = .ok (.iconst 1, 1) := by decide +kernel
theorem dX8_fits_60 : decode cX8_fits 60 = .ok (.istore 5, 2) := by decide +kernel
theorem dX8_fits_62 : decode cX8_fits 62 = .ok (.iload 5, 2) := by decide +kernel
theorem dX8_fits_64 : decode cX8_fits 64 = .ok (.bipush 10, 2) := by decide +kernel
theorem dX8_fits_66 : decode cX8_fits 66 = .ok (.if_icmp .ge 158, 3) := by decide +kernel
theorem dX8_fits_69 : decode cX8_fits 69 = .ok (.iconst 0, 1) := by decide +kernel
theorem dX8_fits_70 : decode cX8_fits 70 = .ok (.istore 6, 2) := by decide +kernel
theorem dX8_fits_72 : decode cX8_fits 72 = .ok (.iload_n 2, 1) := by decide +kernel
theorem dX8_fits_73 : decode cX8_fits 73 = .ok (.ifCond .ge 7, 3) := by decide +kernel
theorem dX8_fits_76 : decode cX8_fits 76 = .ok (.iconst 1, 1) := by decide +kernel
theorem dX8_fits_77 : decode cX8_fits 77 = .ok (.goto 4, 3) := by decide +kernel
theorem dX8_fits_80 : decode cX8_fits 80 = .ok (.iconst 0, 1) := by decide +kernel
theorem dX8_fits_81 : decode cX8_fits 81 = .ok (.istore 7, 2) := by decide +kernel
theorem dX8_fits_83 : decode cX8_fits 83 = .ok (.iconst 0, 1) := by decide +kernel
theorem dX8_fits_84 : decode cX8_fits 84 = .ok (.istore 8, 2) := by decide +kernel
theorem dX8_fits_86 : decode cX8_fits 86 = .ok (.iload 8, 2) := by decide +kernel
theorem dX8_fits_88 : decode cX8_fits 88 = .ok (.aload_n 0, 1) := by decide +kernel
theorem dX8_fits_89 : decode cX8_fits 89 = .ok (.getfield 84, 3) := by decide +kernel
theorem dX8_fits_92 : decode cX8_fits 92 = .ok (.if_icmp .ge 83, 3) := by decide +kernel
theorem dX8_fits_95 : decode cX8_fits 95 = .ok (.aload_n 0, 1) := by decide +kernel
theorem dX8_fits_96 : decode cX8_fits 96 = .ok (.getfield 7, 3) := by decide +kernel
theorem dX8_fits_99 : decode cX8_fits 99 = .ok (.iload 8, 2) := by decide +kernel
theorem dX8_fits_101 : decode cX8_fits 101 = .ok (.iaload, 1) := by decide +kernel
theorem dX8_fits_102 : decode cX8_fits 102 = .ok (.iload 5, 2) := by decide +kernel
theorem dX8_fits_104 : decode cX8_fits 104 = .ok (.if_icmp .eq 15, 3) := by decide +kernel
theorem dX8_fits_107 : decode cX8_fits 107 = .ok (.aload_n 0, 1) := by decide +kernel
theorem dX8_fits_108 : decode cX8_fits 108 = .ok (.getfield 13, 3) := by decide +kernel
theorem dX8_fits_111 : decode cX8_fits 111 = .ok (.iload 8, 2) := by decide +kernel
theorem dX8_fits_113 : decode cX8_fits 113 = .ok (.iaload, 1) := by decide +kernel
theorem dX8_fits_114 : decode cX8_fits 114 = .ok (.iload 5, 2) := by decide +kernel
theorem dX8_fits_116 : decode cX8_fits 116 = .ok (.if_icmp .ne 7, 3) := by decide +kernel
theorem dX8_fits_119 : decode cX8_fits 119 = .ok (.iconst 1, 1) := by decide +kernel
theorem dX8_fits_120 : decode cX8_fits 120 = .ok (.goto 4, 3) := by decide +kernel
theorem dX8_fits_123 : decode cX8_fits 123 = .ok (.iconst 0, 1) := by decide +kernel
theorem dX8_fits_124 : decode cX8_fits 124 = .ok (.istore 9, 2) := by decide +kernel
theorem dX8_fits_126 : decode cX8_fits 126 = .ok (.iload 6, 2) := by decide +kernel
theorem dX8_fits_128 : decode cX8_fits 128 = .ok (.iload 9, 2) := by decide +kernel
theorem dX8_fits_130 : decode cX8_fits 130 = .ok (.ifCond .eq 7, 3) := by decide +kernel
theorem dX8_fits_133 : decode cX8_fits 133 = .ok (.iconst 1, 1) := by decide +kernel
theorem dX8_fits_134 : decode cX8_fits 134 = .ok (.goto 4, 3) := by decide +kernel
theorem dX8_fits_137 : decode cX8_fits 137 = .ok (.iconst 0, 1) := by decide +kernel
theorem dX8_fits_138 : decode cX8_fits 138 = .ok (.iadd, 1) := by decide +kernel
theorem dX8_fits_139 : decode cX8_fits 139 = .ok (.istore 6, 2) := by decide +kernel
theorem dX8_fits_141 : decode cX8_fits 141 = .ok (.iload 7, 2) := by decide +kernel
theorem dX8_fits_143 : decode cX8_fits 143 = .ok (.ifCond .ne 19, 3) := by decide +kernel
theorem dX8_fits_146 : decode cX8_fits 146 = .ok (.iload 9, 2) := by decide +kernel
theorem dX8_fits_148 : decode cX8_fits 148 = .ok (.ifCond .eq 18, 3) := by decide +kernel
theorem dX8_fits_151 : decode cX8_fits 151 = .ok (.aload_n 0, 1) := by decide +kernel
theorem dX8_fits_152 : decode cX8_fits 152 = .ok (.getfield 16, 3) := by decide +kernel
theorem dX8_fits_155 : decode cX8_fits 155 = .ok (.iload 8, 2) := by decide +kernel
theorem dX8_fits_157 : decode cX8_fits 157 = .ok (.iaload, 1) := by decide +kernel
theorem dX8_fits_158 : decode cX8_fits 158 = .ok (.iload_n 2, 1) := by decide +kernel
theorem dX8_fits_159 : decode cX8_fits 159 = .ok (.if_icmp .ne 7, 3) := by decide +kernel
theorem dX8_fits_162 : decode cX8_fits 162 = .ok (.iconst 1, 1) := by decide +kernel
theorem dX8_fits_163 : decode cX8_fits 163 = .ok (.goto 4, 3) := by decide +kernel
theorem dX8_fits_166 : decode cX8_fits 166 = .ok (.iconst 0, 1) := by decide +kernel
theorem dX8_fits_167 : decode cX8_fits 167 = .ok (.istore 7, 2) := by decide +kernel
theorem dX8_fits_169 : decode cX8_fits 169 = .ok (.iinc 8 1, 3) := by decide +kernel
theorem dX8_fits_172 : decode cX8_fits 172 = .ok (.goto (-86), 3) := by decide +kernel
theorem dX8_fits_175 : decode cX8_fits 175 = .ok (.iload 4, 2) := by decide +kernel
theorem dX8_fits_177 : decode cX8_fits 177 = .ok (.iload 7, 2) := by decide +kernel
theorem dX8_fits_179 : decode cX8_fits 179 = .ok (.ifCond .eq 35, 3) := by decide +kernel
theorem dX8_fits_182 : decode cX8_fits 182 = .ok (.iload_n 1, 1) := by decide +kernel
theorem dX8_fits_183 : decode cX8_fits 183 = .ok (.ifCond .lt 9, 3) := by decide +kernel
theorem dX8_fits_186 : decode cX8_fits 186 = .ok (.iload 6, 2) := by decide +kernel
theorem dX8_fits_188 : decode cX8_fits 188 = .ok (.iload_n 1, 1) := by decide +kernel
theorem dX8_fits_189 : decode cX8_fits 189 = .ok (.if_icmp .ne 25, 3) := by decide +kernel
theorem dX8_fits_192 : decode cX8_fits 192 = .ok (.iload_n 3, 1) := by decide +kernel
theorem dX8_fits_193 : decode cX8_fits 193 = .ok (.ifCond .lt 14, 3) := by decide +kernel
theorem dX8_fits_196 : decode cX8_fits 196 = .ok (.aload_n 0, 1) := by decide +kernel
theorem dX8_fits_197 : decode cX8_fits 197 = .ok (.getfield 40, 3) := by decide +kernel
theorem dX8_fits_200 : decode cX8_fits 200 = .ok (.iload 5, 2) := by decide +kernel
theorem dX8_fits_202 : decode cX8_fits 202 = .ok (.iaload, 1) := by decide +kernel
theorem dX8_fits_203 : decode cX8_fits 203 = .ok (.iload_n 3, 1) := by decide +kernel
theorem dX8_fits_204 : decode cX8_fits 204 = .ok (.if_icmp .ne 10, 3) := by decide +kernel
theorem dX8_fits_207 : decode cX8_fits 207 = .ok (.iconst 1, 1) := by decide +kernel
theorem dX8_fits_208 : decode cX8_fits 208 = .ok (.iload 5, 2) := by decide +kernel
theorem dX8_fits_210 : decode cX8_fits 210 = .ok (.ishl, 1) := by decide +kernel
theorem dX8_fits_211 : decode cX8_fits 211 = .ok (.goto 4, 3) := by decide +kernel
theorem dX8_fits_214 : decode cX8_fits 214 = .ok (.iconst 0, 1) := by decide +kernel
theorem dX8_fits_215 : decode cX8_fits 215 = .ok (.ior, 1) := by decide +kernel
theorem dX8_fits_216 : decode cX8_fits 216 = .ok (.istore 4, 2) := by decide +kernel
theorem dX8_fits_218 : decode cX8_fits 218 = .ok (.iinc 5 1, 3) := by decide +kernel
theorem dX8_fits_221 : decode cX8_fits 221 = .ok (.goto (-159), 3) := by decide +kernel
theorem dX8_fits_224 : decode cX8_fits 224 = .ok (.iload 4, 2) := by decide +kernel
theorem dX8_fits_226 : decode cX8_fits 226 = .ok (.ireturn, 1) := by decide +kernel
theorem dX8_been_0 : decode cX8_been 0 = .ok (.iload_n 1, 1) := by decide +kernel
theorem dX8_been_1 : decode cX8_been 1 = .ok (.i2l, 1) := by decide +kernel
theorem dX8_been_2 : decode cX8_been 2 = .ok (.lconst 0, 1) := by decide +kernel
theorem dX8_been_3 : decode cX8_been 3 = .ok (.ldc2_w 87, 3) := by decide +kernel
theorem dX8_been_6 : decode cX8_been 6 = .ok (.invokestatic 66, 3) := by decide +kernel
theorem dX8_been_9 : decode cX8_been 9 = .ok (.ifCond .eq 27, 3) := by decide +kernel
theorem dX8_been_12 : decode cX8_been 12 = .ok (.iload_n 2, 1) := by decide +kernel
theorem dX8_been_13 : decode cX8_been 13 = .ok (.i2l, 1) := by decide +kernel
theorem dX8_been_14 : decode cX8_been 14 = .ok (.lconst 0, 1) := by decide +kernel
theorem dX8_been_15 : decode cX8_been 15 = .ok (.ldc2_w 191, 3) := by decide +kernel
theorem dX8_been_18 : decode cX8_been 18 = .ok (.invokestatic 66, 3) := by decide +kernel
theorem dX8_been_21 : decode cX8_been 21 = .ok (.ifCond .eq 15, 3) := by decide +kernel
theorem dX8_been_24 : decode cX8_been 24 = .ok (.iload_n 3, 1) := by decide +kernel
theorem dX8_been_25 : decode cX8_been 25 = .ok (.i2l, 1) := by decide +kernel
theorem dX8_been_26 : decode cX8_been 26 = .ok (.lconst 0, 1) := by decide +kernel
theorem dX8_been_27 : decode cX8_been 27 = .ok (.ldc2_w 216, 3) := by decide +kernel
theorem dX8_been_30 : decode cX8_been 30 = .ok (.invokestatic 66, 3) := by decide +kernel
theorem dX8_been_33 : decode cX8_been 33 = .ok (.ifCond .ne 5, 3) := by decide +kernel
theorem dX8_been_36 : decode cX8_been 36 = .ok (.iconst (-1), 1) := by decide +kernel
theorem dX8_been_37 : decode cX8_been 37 = .ok (.ireturn, 1) := by decide +kernel
theorem dX8_been_38 : decode cX8_been 38 = .ok (.iload_n 2, 1) := by decide +kernel
theorem dX8_been_39 : decode cX8_been 39 = .ok (.ifCond .ne 7, 3) := by decide +kernel
theorem dX8_been_42 : decode cX8_been 42 = .ok (.iconst 1, 1) := by decide +kernel
theorem dX8_been_43 : decode cX8_been 43 = .ok (.goto 4, 3) := by decide +kernel
theorem dX8_been_46 : decode cX8_been 46 = .ok (.iconst 0, 1) := by decide +kernel
theorem dX8_been_47 : decode cX8_been 47 = .ok (.istore 4, 2) := by decide +kernel
theorem dX8_been_49 : decode cX8_been 49 = .ok (.iconst 1, 1) := by decide +kernel
theorem dX8_been_50 : decode cX8_been 50 = .ok (.istore 5, 2) := by decide +kernel
theorem dX8_been_52 : decode cX8_been 52 = .ok (.iload 5, 2) := by decide +kernel
theorem dX8_been_54 : decode cX8_been 54 = .ok (.bipush 30, 2) := by decide +kernel
theorem dX8_been_56 : decode cX8_been 56 = .ok (.if_icmp .gt 48, 3) := by decide +kernel
theorem dX8_been_59 : decode cX8_been 59 = .ok (.iconst 0, 1) := by decide +kernel
theorem dX8_been_60 : decode cX8_been 60 = .ok (.istore 6, 2) := by decide +kernel
theorem dX8_been_62 : decode cX8_been 62 = .ok (.iload 6, 2) := by decide +kernel
theorem dX8_been_64 : decode cX8_been 64 = .ok (.iload_n 3, 1) := by decide +kernel
theorem dX8_been_65 : decode cX8_been 65 = .ok (.if_icmp .gt 33, 3) := by decide +kernel
theorem dX8_been_68 : decode cX8_been 68 = .ok (.iload 4, 2) := by decide +kernel
theorem dX8_been_70 : decode cX8_been 70 = .ok (.iload_n 1, 1) := by decide +kernel
theorem dX8_been_71 : decode cX8_been 71 = .ok (.iload 5, 2) := by decide +kernel
theorem dX8_been_73 : decode cX8_been 73 = .ok (.iload_n 3, 1) := by decide +kernel
theorem dX8_been_74 : decode cX8_been 74 = .ok (.iload 6, 2) := by decide +kernel
theorem dX8_been_76 : decode cX8_been 76 = .ok (.isub, 1) := by decide +kernel
theorem dX8_been_77 : decode cX8_been 77 = .ok (.invokestatic 94, 3) := by decide +kernel
theorem dX8_been_80 : decode cX8_been 80 = .ok (.iload_n 2, 1) := by decide +kernel
theorem dX8_been_81 : decode cX8_been 81 = .ok (.if_icmp .ne 7, 3) := by decide +kernel
theorem dX8_been_84 : decode cX8_been 84 = .ok (.iconst 1, 1) := by decide +kernel
theorem dX8_been_85 : decode cX8_been 85 = .ok (.goto 4, 3) := by decide +kernel
theorem dX8_been_88 : decode cX8_been 88 = .ok (.iconst 0, 1) := by decide +kernel
theorem dX8_been_89 : decode cX8_been 89 = .ok (.iadd, 1) := by decide +kernel
theorem dX8_been_90 : decode cX8_been 90 = .ok (.istore 4, 2) := by decide +kernel
theorem dX8_been_92 : decode cX8_been 92 = .ok (.iinc 6 1, 3) := by decide +kernel
theorem dX8_been_95 : decode cX8_been 95 = .ok (.goto (-33), 3) := by decide +kernel
theorem dX8_been_98 : decode cX8_been 98 = .ok (.iinc 5 1, 3) := by decide +kernel
theorem dX8_been_101 : decode cX8_been 101 = .ok (.goto (-49), 3) := by decide +kernel
theorem dX8_been_104 : decode cX8_been 104 = .ok (.iload 4, 2) := by decide +kernel
theorem dX8_been_106 : decode cX8_been 106 = .ok (.ireturn, 1) := by decide +kernel
theorem dX8_gains_0 : decode cX8_gains 0 = .ok (.iload_n 3, 1) := by decide +kernel
theorem dX8_gains_1 : decode cX8_gains 1 = .ok (.iload_n 2, 1) := by decide +kernel
theorem dX8_gains_2 : decode cX8_gains 2 = .ok (.if_icmp .le 18, 3) := by decide +kernel
theorem dX8_gains_5 : decode cX8_gains 5 = .ok (.iload_n 0, 1) := by decide +kernel
theorem dX8_gains_6 : decode cX8_gains 6 = .ok (.iload_n 1, 1) := by decide +kernel
theorem dX8_gains_7 : decode cX8_gains 7 = .ok (.iload_n 3, 1) := by decide +kernel
theorem dX8_gains_8 : decode cX8_gains 8 = .ok (.iload_n 2, 1) := by decide +kernel
theorem dX8_gains_9 : decode cX8_gains 9 = .ok (.isub, 1) := by decide +kernel
theorem dX8_gains_10 : decode cX8_gains 10 = .ok (.invokestatic 94, 3) := by decide +kernel
theorem dX8_gains_13 : decode cX8_gains 13 = .ok (.ifCond .le 7, 3) := by decide +kernel
theorem dX8_gains_16 : decode cX8_gains 16 = .ok (.iconst 0, 1) := by decide +kernel
theorem dX8_gains_17 : decode cX8_gains 17 = .ok (.goto 7, 3) := by decide +kernel
theorem dX8_gains_20 : decode cX8_gains 20 = .ok (.bipush 10, 2) := by decide +kernel
theorem dX8_gains_22 : decode cX8_gains 22 = .ok (.iload_n 2, 1) := by decide +kernel
theorem dX8_gains_23 : decode cX8_gains 23 = .ok (.isub, 1) := by decide +kernel
theorem dX8_gains_24 : decode cX8_gains 24 = .ok (.ireturn, 1) := by decide +kernel
theorem dX8_look_0 : decode cX8_look 0 = .ok (.iload_n 1, 1) := by decide +kernel
theorem dX8_look_1 : decode cX8_look 1 = .ok (.i2l, 1) := by decide +kernel
theorem dX8_look_2 : decode cX8_look 2 = .ok (.lconst 0, 1) := by decide +kernel
theorem dX8_look_3 : decode cX8_look 3 = .ok (.ldc2_w 87, 3) := by decide +kernel
theorem dX8_look_6 : decode cX8_look 6 = .ok (.invokestatic 66, 3) := by decide +kernel
theorem dX8_look_9 : decode cX8_look 9 = .ok (.ifCond .eq 25, 3) := by decide +kernel
theorem dX8_look_12 : decode cX8_look 12 = .ok (.iload_n 2, 1) := by decide +kernel
theorem dX8_look_13 : decode cX8_look 13 = .ok (.i2l, 1) := by decide +kernel
theorem dX8_look_14 : decode cX8_look 14 = .ok (.lconst 0, 1) := by decide +kernel
theorem dX8_look_15 : decode cX8_look 15 = .ok (.ldc2_w 191, 3) := by decide +kernel
theorem dX8_look_18 : decode cX8_look 18 = .ok (.invokestatic 66, 3) := by decide +kernel
theorem dX8_look_21 : decode cX8_look 21 = .ok (.ifCond .eq 13, 3) := by decide +kernel
theorem dX8_look_24 : decode cX8_look 24 = .ok (.iload_n 3, 1) := by decide +kernel
theorem dX8_look_25 : decode cX8_look 25 = .ok (.i2l, 1) := by decide +kernel
theorem dX8_look_26 : decode cX8_look 26 = .ok (.lconst 0, 1) := by decide +kernel
theorem dX8_look_27 : decode cX8_look 27 = .ok (.lconst 1, 1) := by decide +kernel
theorem dX8_look_28 : decode cX8_look 28 = .ok (.invokestatic 66, 3) := by decide +kernel
theorem dX8_look_31 : decode cX8_look 31 = .ok (.ifCond .ne 5, 3) := by decide +kernel
theorem dX8_look_34 : decode cX8_look 34 = .ok (.iconst (-1), 1) := by decide +kernel
theorem dX8_look_35 : decode cX8_look 35 = .ok (.ireturn, 1) := by decide +kernel
theorem dX8_look_36 : decode cX8_look 36 = .ok (.iconst 0, 1) := by decide +kernel
theorem dX8_look_37 : decode cX8_look 37 = .ok (.istore 4, 2) := by decide +kernel
theorem dX8_look_39 : decode cX8_look 39 = .ok (.bipush (-4), 2) := by decide +kernel
theorem dX8_look_41 : decode cX8_look 41 = .ok (.istore 5, 2) := by decide +kernel
theorem dX8_look_43 : decode cX8_look 43 = .ok (.iconst 0, 1) := by decide +kernel
theorem dX8_look_44 : decode cX8_look 44 = .ok (.istore 6, 2) := by decide +kernel
theorem dX8_look_46 : decode cX8_look 46 = .ok (.iload 6, 2) := by decide +kernel
theorem dX8_look_48 : decode cX8_look 48 = .ok (.bipush 7, 2) := by decide +kernel
theorem dX8_look_50 : decode cX8_look 50 = .ok (.if_icmp .ge 135, 3) := by decide +kernel
theorem dX8_look_53 : decode cX8_look 53 = .ok (.iconst 0, 1) := by decide +kernel
theorem dX8_look_54 : decode cX8_look 54 = .ok (.istore 7, 2) := by decide +kernel
theorem dX8_look_56 : decode cX8_look 56 = .ok (.iload 7, 2) := by decide +kernel
theorem dX8_look_58 : decode cX8_look 58 = .ok (.bipush 7, 2) := by decide +kernel
theorem dX8_look_60 : decode cX8_look 60 = .ok (.if_icmp .ge 119, 3) := by decide +kernel
theorem dX8_look_63 : decode cX8_look 63 = .ok (.iload_n 1, 1) := by decide +kernel
theorem dX8_look_64 : decode cX8_look 64 = .ok (.iload_n 2, 1) := by decide +kernel
theorem dX8_look_65 : decode cX8_look 65 = .ok (.iload 6, 2) := by decide +kernel
theorem dX8_look_67 : decode cX8_look 67 = .ok (.iload 7, 2) := by decide +kernel
theorem dX8_look_69 : decode cX8_look 69 = .ok (.invokestatic 218, 3) := by decide +kernel
theorem dX8_look_72 : decode cX8_look 72 = .ok (.istore 8, 2) := by decide +kernel
theorem dX8_look_74 : decode cX8_look 74 = .ok (.iconst 1, 1) := by decide +kernel
theorem dX8_look_75 : decode cX8_look 75 = .ok (.istore 9, 2) := by decide +kernel
theorem dX8_look_77 : decode cX8_look 77 = .ok (.iconst 0, 1) := by decide +kernel
theorem dX8_look_78 : decode cX8_look 78 = .ok (.istore 10, 2) := by decide +kernel
theorem dX8_look_80 : decode cX8_look 80 = .ok (.iload 10, 2) := by decide +kernel
theorem dX8_look_82 : decode cX8_look 82 = .ok (.bipush 7, 2) := by decide +kernel
theorem dX8_look_84 : decode cX8_look 84 = .ok (.if_icmp .ge 49, 3) := by decide +kernel
theorem dX8_look_87 : decode cX8_look 87 = .ok (.iload 9, 2) := by decide +kernel
theorem dX8_look_89 : decode cX8_look 89 = .ok (.ifCond .eq 35, 3) := by decide +kernel
theorem dX8_look_92 : decode cX8_look 92 = .ok (.iload_n 1, 1) := by decide +kernel
theorem dX8_look_93 : decode cX8_look 93 = .ok (.iload_n 2, 1) := by decide +kernel
theorem dX8_look_94 : decode cX8_look 94 = .ok (.iload 10, 2) := by decide +kernel
theorem dX8_look_96 : decode cX8_look 96 = .ok (.iload 7, 2) := by decide +kernel
theorem dX8_look_98 : decode cX8_look 98 = .ok (.invokestatic 218, 3) := by decide +kernel
theorem dX8_look_101 : decode cX8_look 101 = .ok (.iload 8, 2) := by decide +kernel
theorem dX8_look_103 : decode cX8_look 103 = .ok (.if_icmp .gt 21, 3) := by decide +kernel
theorem dX8_look_106 : decode cX8_look 106 = .ok (.iload_n 1, 1) := by decide +kernel
theorem dX8_look_107 : decode cX8_look 107 = .ok (.iload_n 2, 1) := by decide +kernel
theorem dX8_look_108 : decode cX8_look 108 = .ok (.iload 6, 2) := by decide +kernel
theorem dX8_look_110 : decode cX8_look 110 = .ok (.iload 10, 2) := by decide +kernel
theorem dX8_look_112 : decode cX8_look 112 = .ok (.invokestatic 218, 3) := by decide +kernel
theorem dX8_look_115 : decode cX8_look 115 = .ok (.iload 8, 2) := by decide +kernel
theorem dX8_look_117 : decode cX8_look 117 = .ok (.if_icmp .lt 7, 3) := by decide +kernel
theorem dX8_look_120 : decode cX8_look 120 = .ok (.iconst 1, 1) := by decide +kernel
theorem dX8_look_121 : decode cX8_look 121 = .ok (.goto 4, 3) := by decide +kernel
theorem dX8_look_124 : decode cX8_look 124 = .ok (.iconst 0, 1) := by decide +kernel
theorem dX8_look_125 : decode cX8_look 125 = .ok (.istore 9, 2) := by decide +kernel
theorem dX8_look_127 : decode cX8_look 127 = .ok (.iinc 10 1, 3) := by decide +kernel
theorem dX8_look_130 : decode cX8_look 130 = .ok (.goto (-50), 3) := by decide +kernel
theorem dX8_look_133 : decode cX8_look 133 = .ok (.iload 9, 2) := by decide +kernel
theorem dX8_look_135 : decode cX8_look 135 = .ok (.ifCond .eq 19, 3) := by decide +kernel
theorem dX8_look_138 : decode cX8_look 138 = .ok (.iload 4, 2) := by decide +kernel
theorem dX8_look_140 : decode cX8_look 140 = .ok (.ifCond .ne 14, 3) := by decide +kernel
theorem dX8_look_143 : decode cX8_look 143 = .ok (.bipush 10, 2) := by decide +kernel
theorem dX8_look_145 : decode cX8_look 145 = .ok (.iload 6, 2) := by decide +kernel
theorem dX8_look_147 : decode cX8_look 147 = .ok (.imul, 1) := by decide +kernel
theorem dX8_look_148 : decode cX8_look 148 = .ok (.iload 7, 2) := by decide +kernel
theorem dX8_look_150 : decode cX8_look 150 = .ok (.iadd, 1) := by decide +kernel
theorem dX8_look_151 : decode cX8_look 151 = .ok (.goto 5, 3) := by decide +kernel
theorem dX8_look_154 : decode cX8_look 154 = .ok (.iload 5, 2) := by decide +kernel
theorem dX8_look_156 : decode cX8_look 156 = .ok (.istore 5, 2) := by decide +kernel
theorem dX8_look_158 : decode cX8_look 158 = .ok (.iload 4, 2) := by decide +kernel
theorem dX8_look_160 : decode cX8_look 160 = .ok (.iload 9, 2) := by decide +kernel
theorem dX8_look_162 : decode cX8_look 162 = .ok (.ifCond .eq 7, 3) := by decide +kernel
theorem dX8_look_165 : decode cX8_look 165 = .ok (.iconst 1, 1) := by decide +kernel
theorem dX8_look_166 : decode cX8_look 166 = .ok (.goto 4, 3) := by decide +kernel
theorem dX8_look_169 : decode cX8_look 169 = .ok (.iconst 0, 1) := by decide +kernel
theorem dX8_look_170 : decode cX8_look 170 = .ok (.iadd, 1) := by decide +kernel
theorem dX8_look_171 : decode cX8_look 171 = .ok (.istore 4, 2) := by decide +kernel
theorem dX8_look_173 : decode cX8_look 173 = .ok (.iinc 7 1, 3) := by decide +kernel
theorem dX8_look_176 : decode cX8_look 176 = .ok (.goto (-120), 3) := by decide +kernel
theorem dX8_look_179 : decode cX8_look 179 = .ok (.iinc 6 1, 3) := by decide +kernel
theorem dX8_look_182 : decode cX8_look 182 = .ok (.goto (-136), 3) := by decide +kernel
theorem dX8_look_185 : decode cX8_look 185 = .ok (.iload_n 3, 1) := by decide +kernel
theorem dX8_look_186 : decode cX8_look 186 = .ok (.ifCond .ne 8, 3) := by decide +kernel
theorem dX8_look_189 : decode cX8_look 189 = .ok (.iload 4, 2) := by decide +kernel
theorem dX8_look_191 : decode cX8_look 191 = .ok (.goto 5, 3) := by decide +kernel
theorem dX8_look_194 : decode cX8_look 194 = .ok (.iload 5, 2) := by decide +kernel
theorem dX8_look_196 : decode cX8_look 196 = .ok (.ireturn, 1) := by decide +kernel
theorem dX8_carried_0 : decode cX8_carried 0 = .ok (.iload_n 1, 1) := by decide +kernel
theorem dX8_carried_1 : decode cX8_carried 1 = .ok (.bipush 48, 2) := by decide +kernel
theorem dX8_carried_3 : decode cX8_carried 3 = .ok (.if_icmp .ge 137, 3) := by decide +kernel
theorem dX8_carried_6 : decode cX8_carried 6 = .ok (.iload_n 1, 1) := by decide +kernel
theorem dX8_carried_7 : decode cX8_carried 7 = .ok (.bipush 16, 2) := by decide +kernel
theorem dX8_carried_9 : decode cX8_carried 9 = .ok (.irem, 1) := by decide +kernel
theorem dX8_carried_10 : decode cX8_carried 10 = .ok (.istore 4, 2) := by decide +kernel
theorem dX8_carried_12 : decode cX8_carried 12 = .ok (.iload_n 1, 1) := by decide +kernel
theorem dX8_carried_13 : decode cX8_carried 13 = .ok (.bipush 16, 2) := by decide +kernel
theorem dX8_carried_15 : decode cX8_carried 15 = .ok (.idiv, 1) := by decide +kernel
theorem dX8_carried_16 : decode cX8_carried 16 = .ok (.istore 5, 2) := by decide +kernel
theorem dX8_carried_18 : decode cX8_carried 18 = .ok (.aload_n 0, 1) := by decide +kernel
theorem dX8_carried_19 : decode cX8_carried 19 = .ok (.getfield 7, 3) := by decide +kernel
theorem dX8_carried_22 : decode cX8_carried 22 = .ok (.iload 4, 2) := by decide +kernel
theorem dX8_carried_24 : decode cX8_carried 24 = .ok (.iload_n 3, 1) := by decide +kernel
theorem dX8_carried_25 : decode cX8_carried 25 = .ok (.ifCond .eq 12, 3) := by decide +kernel
theorem dX8_carried_28 : decode cX8_carried 28 = .ok (.iload 5, 2) := by decide +kernel
theorem dX8_carried_30 : decode cX8_carried 30 = .ok (.ifCond .ne 7, 3) := by decide +kernel
theorem dX8_carried_33 : decode cX8_carried 33 = .ok (.iload_n 2, 1) := by decide +kernel
theorem dX8_carried_34 : decode cX8_carried 34 = .ok (.goto 10, 3) := by decide +kernel
theorem dX8_carried_37 : decode cX8_carried 37 = .ok (.aload_n 0, 1) := by decide +kernel
theorem dX8_carried_38 : decode cX8_carried 38 = .ok (.getfield 7, 3) := by decide +kernel
theorem dX8_carried_41 : decode cX8_carried 41 = .ok (.iload 4, 2) := by decide +kernel
theorem dX8_carried_43 : decode cX8_carried 43 = .ok (.iaload, 1) := by decide +kernel
theorem dX8_carried_44 : decode cX8_carried 44 = .ok (.iastore, 1) := by decide +kernel
theorem dX8_carried_45 : decode cX8_carried 45 = .ok (.aload_n 0, 1) := by decide +kernel
theorem dX8_carried_46 : decode cX8_carried 46 = .ok (.getfield 13, 3) := by decide +kernel
theorem dX8_carried_49 : decode cX8_carried 49 = .ok (.iload 4, 2) := by decide +kernel
theorem dX8_carried_51 : decode cX8_carried 51 = .ok (.iload_n 3, 1) := by decide +kernel
theorem dX8_carried_52 : decode cX8_carried 52 = .ok (.ifCond .eq 13, 3) := by decide +kernel
theorem dX8_carried_55 : decode cX8_carried 55 = .ok (.iload 5, 2) := by decide +kernel
theorem dX8_carried_57 : decode cX8_carried 57 = .ok (.iconst 1, 1) := by decide +kernel
theorem dX8_carried_58 : decode cX8_carried 58 = .ok (.if_icmp .ne 7, 3) := by decide +kernel
theorem dX8_carried_61 : decode cX8_carried 61 = .ok (.iload_n 2, 1) := by decide +kernel
theorem dX8_carried_62 : decode cX8_carried 62 = .ok (.goto 10, 3) := by decide +kernel
theorem dX8_carried_65 : decode cX8_carried 65 = .ok (.aload_n 0, 1) := by decide +kernel
theorem dX8_carried_66 : decode cX8_carried 66 = .ok (.getfield 13, 3) := by decide +kernel
theorem dX8_carried_69 : decode cX8_carried 69 = .ok (.iload 4, 2) := by decide +kernel
theorem dX8_carried_71 : decode cX8_carried 71 = .ok (.iaload, 1) := by decide +kernel
theorem dX8_carried_72 : decode cX8_carried 72 = .ok (.iastore, 1) := by decide +kernel
theorem dX8_carried_73 : decode cX8_carried 73 = .ok (.aload_n 0, 1) := by decide +kernel
theorem dX8_carried_74 : decode cX8_carried 74 = .ok (.getfield 16, 3) := by decide +kernel
theorem dX8_carried_77 : decode cX8_carried 77 = .ok (.iload 4, 2) := by decide +kernel
theorem dX8_carried_79 : decode cX8_carried 79 = .ok (.iload_n 3, 1) := by decide +kernel
theorem dX8_carried_80 : decode cX8_carried 80 = .ok (.ifCond .eq 13, 3) := by decide +kernel
theorem dX8_carried_83 : decode cX8_carried 83 = .ok (.iload 5, 2) := by decide +kernel
theorem dX8_carried_85 : decode cX8_carried 85 = .ok (.iconst 2, 1) := by decide +kernel
theorem dX8_carried_86 : decode cX8_carried 86 = .ok (.if_icmp .ne 7, 3) := by decide +kernel
theorem dX8_carried_89 : decode cX8_carried 89 = .ok (.iload_n 2, 1) := by decide +kernel
theorem dX8_carried_90 : decode cX8_carried 90 = .ok (.goto 10, 3) := by decide +kernel
theorem dX8_carried_93 : decode cX8_carried 93 = .ok (.aload_n 0, 1) := by decide +kernel
theorem dX8_carried_94 : decode cX8_carried 94 = .ok (.getfield 16, 3) := by decide +kernel
theorem dX8_carried_97 : decode cX8_carried 97 = .ok (.iload 4, 2) := by decide +kernel
theorem dX8_carried_99 : decode cX8_carried 99 = .ok (.iaload, 1) := by decide +kernel
theorem dX8_carried_100 : decode cX8_carried 100 = .ok (.iastore, 1) := by decide +kernel
theorem dX8_carried_101 : decode cX8_carried 101 = .ok (.iload 5, 2) := by decide +kernel
theorem dX8_carried_103 : decode cX8_carried 103 = .ok (.ifCond .ne 13, 3) := by decide +kernel
theorem dX8_carried_106 : decode cX8_carried 106 = .ok (.aload_n 0, 1) := by decide +kernel
theorem dX8_carried_107 : decode cX8_carried 107 = .ok (.getfield 7, 3) := by decide +kernel
theorem dX8_carried_110 : decode cX8_carried 110 = .ok (.iload 4, 2) := by decide +kernel
theorem dX8_carried_112 : decode cX8_carried 112 = .ok (.iaload, 1) := by decide +kernel
theorem dX8_carried_113 : decode cX8_carried 113 = .ok (.goto 26, 3) := by decide +kernel
theorem dX8_carried_116 : decode cX8_carried 116 = .ok (.iload 5, 2) := by decide +kernel
theorem dX8_carried_118 : decode cX8_carried 118 = .ok (.iconst 1, 1) := by decide +kernel
theorem dX8_carried_119 : decode cX8_carried 119 = .ok (.if_icmp .ne 13, 3) := by decide +kernel
theorem dX8_carried_122 : decode cX8_carried 122 = .ok (.aload_n 0, 1) := by decide +kernel
theorem dX8_carried_123 : decode cX8_carried 123 = .ok (.getfield 13, 3) := by decide +kernel
theorem dX8_carried_126 : decode cX8_carried 126 = .ok (.iload 4, 2) := by decide +kernel
theorem dX8_carried_128 : decode cX8_carried 128 = .ok (.iaload, 1) := by decide +kernel
theorem dX8_carried_129 : decode cX8_carried 129 = .ok (.goto 10, 3) := by decide +kernel
theorem dX8_carried_132 : decode cX8_carried 132 = .ok (.aload_n 0, 1) := by decide +kernel
theorem dX8_carried_133 : decode cX8_carried 133 = .ok (.getfield 16, 3) := by decide +kernel
theorem dX8_carried_136 : decode cX8_carried 136 = .ok (.iload 4, 2) := by decide +kernel
theorem dX8_carried_138 : decode cX8_carried 138 = .ok (.iaload, 1) := by decide +kernel
theorem dX8_carried_139 : decode cX8_carried 139 = .ok (.ireturn, 1) := by decide +kernel
theorem dX8_carried_140 : decode cX8_carried 140 = .ok (.iload_n 1, 1) := by decide +kernel
theorem dX8_carried_141 : decode cX8_carried 141 = .ok (.bipush 88, 2) := by decide +kernel
theorem dX8_carried_143 : decode cX8_carried 143 = .ok (.if_icmp .ge 228, 3) := by decide +kernel
theorem dX8_carried_146 : decode cX8_carried 146 = .ok (.iload_n 1, 1) := by decide +kernel
theorem dX8_carried_147 : decode cX8_carried 147 = .ok (.bipush 8, 2) := by decide +kernel
theorem dX8_carried_149 : decode cX8_carried 149 = .ok (.irem, 1) := by decide +kernel
theorem dX8_carried_150 : decode cX8_carried 150 = .ok (.istore 4, 2) := by decide +kernel
theorem dX8_carried_152 : decode cX8_carried 152 = .ok (.iload_n 1, 1) := by decide +kernel
theorem dX8_carried_153 : decode cX8_carried 153 = .ok (.bipush 8, 2) := by decide +kernel
theorem dX8_carried_155 : decode cX8_carried 155 = .ok (.idiv, 1) := by decide +kernel
theorem dX8_carried_156 : decode cX8_carried 156 = .ok (.bipush 6, 2) := by decide +kernel
theorem dX8_carried_158 : decode cX8_carried 158 = .ok (.isub, 1) := by decide +kernel
theorem dX8_carried_159 : decode cX8_carried 159 = .ok (.istore 5, 2) := by decide +kernel
theorem dX8_carried_161 : decode cX8_carried 161 = .ok (.aload_n 0, 1) := by decide +kernel
theorem dX8_carried_162 : decode cX8_carried 162 = .ok (.getfield 19, 3) := by decide +kernel
theorem dX8_carried_165 : decode cX8_carried 165 = .ok (.iload 4, 2) := by decide +kernel
theorem dX8_carried_167 : decode cX8_carried 167 = .ok (.iload_n 3, 1) := by decide +kernel
theorem dX8_carried_168 : decode cX8_carried 168 = .ok (.ifCond .eq 12, 3) := by decide +kernel
theorem dX8_carried_171 : decode cX8_carried 171 = .ok (.iload 5, 2) := by decide +kernel
theorem dX8_carried_173 : decode cX8_carried 173 = .ok (.ifCond .ne 7, 3) := by decide +kernel
theorem dX8_carried_176 : decode cX8_carried 176 = .ok (.iload_n 2, 1) := by decide +kernel
theorem dX8_carried_177 : decode cX8_carried 177 = .ok (.goto 10, 3) := by decide +kernel
theorem dX8_carried_180 : decode cX8_carried 180 = .ok (.aload_n 0, 1) := by decide +kernel
theorem dX8_carried_181 : decode cX8_carried 181 = .ok (.getfield 19, 3) := by decide +kernel
theorem dX8_carried_184 : decode cX8_carried 184 = .ok (.iload 4, 2) := by decide +kernel
theorem dX8_carried_186 : decode cX8_carried 186 = .ok (.iaload, 1) := by decide +kernel
theorem dX8_carried_187 : decode cX8_carried 187 = .ok (.iastore, 1) := by decide +kernel
theorem dX8_carried_188 : decode cX8_carried 188 = .ok (.aload_n 0, 1) := by decide +kernel
theorem dX8_carried_189 : decode cX8_carried 189 = .ok (.getfield 22, 3) := by decide +kernel
theorem dX8_carried_192 : decode cX8_carried 192 = .ok (.iload 4, 2) := by decide +kernel
theorem dX8_carried_194 : decode cX8_carried 194 = .ok (.iload_n 3, 1) := by decide +kernel
theorem dX8_carried_195 : decode cX8_carried 195 = .ok (.ifCond .eq 13, 3) := by decide +kernel
theorem dX8_carried_198 : decode cX8_carried 198 = .ok (.iload 5, 2) := by decide +kernel
theorem dX8_carried_200 : decode cX8_carried 200 = .ok (.iconst 1, 1) := by decide +kernel
theorem dX8_carried_201 : decode cX8_carried 201 = .ok (.if_icmp .ne 7, 3) := by decide +kernel
theorem dX8_carried_204 : decode cX8_carried 204 = .ok (.iload_n 2, 1) := by decide +kernel
theorem dX8_carried_205 : decode cX8_carried 205 = .ok (.goto 10, 3) := by decide +kernel
theorem dX8_carried_208 : decode cX8_carried 208 = .ok (.aload_n 0, 1) := by decide +kernel
theorem dX8_carried_209 : decode cX8_carried 209 = .ok (.getfield 22, 3) := by decide +kernel
theorem dX8_carried_212 : decode cX8_carried 212 = .ok (.iload 4, 2) := by decide +kernel
theorem dX8_carried_214 : decode cX8_carried 214 = .ok (.iaload, 1) := by decide +kernel
theorem dX8_carried_215 : decode cX8_carried 215 = .ok (.iastore, 1) := by decide +kernel
theorem dX8_carried_216 : decode cX8_carried 216 = .ok (.aload_n 0, 1) := by decide +kernel
theorem dX8_carried_217 : decode cX8_carried 217 = .ok (.getfield 25, 3) := by decide +kernel
theorem dX8_carried_220 : decode cX8_carried 220 = .ok (.iload 4, 2) := by decide +kernel
theorem dX8_carried_222 : decode cX8_carried 222 = .ok (.iload_n 3, 1) := by decide +kernel
theorem dX8_carried_223 : decode cX8_carried 223 = .ok (.ifCond .eq 13, 3) := by decide +kernel
theorem dX8_carried_226 : decode cX8_carried 226 = .ok (.iload 5, 2) := by decide +kernel
theorem dX8_carried_228 : decode cX8_carried 228 = .ok (.iconst 2, 1) := by decide +kernel
theorem dX8_carried_229 : decode cX8_carried 229 = .ok (.if_icmp .ne 7, 3) := by decide +kernel
theorem dX8_carried_232 : decode cX8_carried 232 = .ok (.iload_n 2, 1) := by decide +kernel
theorem dX8_carried_233 : decode cX8_carried 233 = .ok (.goto 10, 3) := by decide +kernel
theorem dX8_carried_236 : decode cX8_carried 236 = .ok (.aload_n 0, 1) := by decide +kernel
theorem dX8_carried_237 : decode cX8_carried 237 = .ok (.getfield 25, 3) := by decide +kernel
theorem dX8_carried_240 : decode cX8_carried 240 = .ok (.iload 4, 2) := by decide +kernel
theorem dX8_carried_242 : decode cX8_carried 242 = .ok (.iaload, 1) := by decide +kernel
theorem dX8_carried_243 : decode cX8_carried 243 = .ok (.iastore, 1) := by decide +kernel
theorem dX8_carried_244 : decode cX8_carried 244 = .ok (.aload_n 0, 1) := by decide +kernel
theorem dX8_carried_245 : decode cX8_carried 245 = .ok (.getfield 28, 3) := by decide +kernel
theorem dX8_carried_248 : decode cX8_carried 248 = .ok (.iload 4, 2) := by decide +kernel
theorem dX8_carried_250 : decode cX8_carried 250 = .ok (.iload_n 3, 1) := by decide +kernel
theorem dX8_carried_251 : decode cX8_carried 251 = .ok (.ifCond .eq 13, 3) := by decide +kernel
theorem dX8_carried_254 : decode cX8_carried 254 = .ok (.iload 5, 2) := by decide +kernel
theorem dX8_carried_256 : decode cX8_carried 256 = .ok (.iconst 3, 1) := by decide +kernel
theorem dX8_carried_257 : decode cX8_carried 257 = .ok (.if_icmp .ne 7, 3) := by decide +kernel
theorem dX8_carried_260 : decode cX8_carried 260 = .ok (.iload_n 2, 1) := by decide +kernel
theorem dX8_carried_261 : decode cX8_carried 261 = .ok (.goto 10, 3) := by decide +kernel
theorem dX8_carried_264 : decode cX8_carried 264 = .ok (.aload_n 0, 1) := by decide +kernel
theorem dX8_carried_265 : decode cX8_carried 265 = .ok (.getfield 28, 3) := by decide +kernel
theorem dX8_carried_268 : decode cX8_carried 268 = .ok (.iload 4, 2) := by decide +kernel
theorem dX8_carried_270 : decode cX8_carried 270 = .ok (.iaload, 1) := by decide +kernel
theorem dX8_carried_271 : decode cX8_carried 271 = .ok (.iastore, 1) := by decide +kernel
theorem dX8_carried_272 : decode cX8_carried 272 = .ok (.aload_n 0, 1) := by decide +kernel
theorem dX8_carried_273 : decode cX8_carried 273 = .ok (.getfield 31, 3) := by decide +kernel
theorem dX8_carried_276 : decode cX8_carried 276 = .ok (.iload 4, 2) := by decide +kernel
theorem dX8_carried_278 : decode cX8_carried 278 = .ok (.iload_n 3, 1) := by decide +kernel
theorem dX8_carried_279 : decode cX8_carried 279 = .ok (.ifCond .eq 13, 3) := by decide +kernel
theorem dX8_carried_282 : decode cX8_carried 282 = .ok (.iload 5, 2) := by decide +kernel
theorem dX8_carried_284 : decode cX8_carried 284 = .ok (.iconst 4, 1) := by decide +kernel
theorem dX8_carried_285 : decode cX8_carried 285 = .ok (.if_icmp .ne 7, 3) := by decide +kernel
theorem dX8_carried_288 : decode cX8_carried 288 = .ok (.iload_n 2, 1) := by decide +kernel
theorem dX8_carried_289 : decode cX8_carried 289 = .ok (.goto 10, 3) := by decide +kernel
theorem dX8_carried_292 : decode cX8_carried 292 = .ok (.aload_n 0, 1) := by decide +kernel
theorem dX8_carried_293 : decode cX8_carried 293 = .ok (.getfield 31, 3) := by decide +kernel
theorem dX8_carried_296 : decode cX8_carried 296 = .ok (.iload 4, 2) := by decide +kernel
theorem dX8_carried_298 : decode cX8_carried 298 = .ok (.iaload, 1) := by decide +kernel
theorem dX8_carried_299 : decode cX8_carried 299 = .ok (.iastore, 1) := by decide +kernel
theorem dX8_carried_300 : decode cX8_carried 300 = .ok (.iload 5, 2) := by decide +kernel
theorem dX8_carried_302 : decode cX8_carried 302 = .ok (.ifCond .ne 13, 3) := by decide +kernel
theorem dX8_carried_305 : decode cX8_carried 305 = .ok (.aload_n 0, 1) := by decide +kernel
theorem dX8_carried_306 : decode cX8_carried 306 = .ok (.getfield 19, 3) := by decide +kernel
theorem dX8_carried_309 : decode cX8_carried 309 = .ok (.iload 4, 2) := by decide +kernel
theorem dX8_carried_311 : decode cX8_carried 311 = .ok (.iaload, 1) := by decide +kernel
theorem dX8_carried_312 : decode cX8_carried 312 = .ok (.goto 58, 3) := by decide +kernel
theorem dX8_carried_315 : decode cX8_carried 315 = .ok (.iload 5, 2) := by decide +kernel
theorem dX8_carried_317 : decode cX8_carried 317 = .ok (.iconst 1, 1) := by decide +kernel
theorem dX8_carried_318 : decode cX8_carried 318 = .ok (.if_icmp .ne 13, 3) := by decide +kernel
theorem dX8_carried_321 : decode cX8_carried 321 = .ok (.aload_n 0, 1) := by decide +kernel
theorem dX8_carried_322 : decode cX8_carried 322 = .ok (.getfield 22, 3) := by decide +kernel
theorem dX8_carried_325 : decode cX8_carried 325 = .ok (.iload 4, 2) := by decide +kernel
theorem dX8_carried_327 : decode cX8_carried 327 = .ok (.iaload, 1) := by decide +kernel
theorem dX8_carried_328 : decode cX8_carried 328 = .ok (.goto 42, 3) := by decide +kernel
theorem dX8_carried_331 : decode cX8_carried 331 = .ok (.iload 5, 2) := by decide +kernel
theorem dX8_carried_333 : decode cX8_carried 333 = .ok (.iconst 2, 1) := by decide +kernel
theorem dX8_carried_334 : decode cX8_carried 334 = .ok (.if_icmp .ne 13, 3) := by decide +kernel
theorem dX8_carried_337 : decode cX8_carried 337 = .ok (.aload_n 0, 1) := by decide +kernel
theorem dX8_carried_338 : decode cX8_carried 338 = .ok (.getfield 25, 3) := by decide +kernel
theorem dX8_carried_341 : decode cX8_carried 341 = .ok (.iload 4, 2) := by decide +kernel
theorem dX8_carried_343 : decode cX8_carried 343 = .ok (.iaload, 1) := by decide +kernel
theorem dX8_carried_344 : decode cX8_carried 344 = .ok (.goto 26, 3) := by decide +kernel
theorem dX8_carried_347 : decode cX8_carried 347 = .ok (.iload 5, 2) := by decide +kernel
theorem dX8_carried_349 : decode cX8_carried 349 = .ok (.iconst 3, 1) := by decide +kernel
theorem dX8_carried_350 : decode cX8_carried 350 = .ok (.if_icmp .ne 13, 3) := by decide +kernel
theorem dX8_carried_353 : decode cX8_carried 353 = .ok (.aload_n 0, 1) := by decide +kernel
theorem dX8_carried_354 : decode cX8_carried 354 = .ok (.getfield 28, 3) := by decide +kernel
theorem dX8_carried_357 : decode cX8_carried 357 = .ok (.iload 4, 2) := by decide +kernel
theorem dX8_carried_359 : decode cX8_carried 359 = .ok (.iaload, 1) := by decide +kernel
theorem dX8_carried_360 : decode cX8_carried 360 = .ok (.goto 10, 3) := by decide +kernel
theorem dX8_carried_363 : decode cX8_carried 363 = .ok (.aload_n 0, 1) := by decide +kernel
theorem dX8_carried_364 : decode cX8_carried 364 = .ok (.getfield 31, 3) := by decide +kernel
theorem dX8_carried_367 : decode cX8_carried 367 = .ok (.iload 4, 2) := by decide +kernel
theorem dX8_carried_369 : decode cX8_carried 369 = .ok (.iaload, 1) := by decide +kernel
theorem dX8_carried_370 : decode cX8_carried 370 = .ok (.ireturn, 1) := by decide +kernel
theorem dX8_carried_371 : decode cX8_carried 371 = .ok (.aload_n 0, 1) := by decide +kernel
theorem dX8_carried_372 : decode cX8_carried 372 = .ok (.iload_n 3, 1) := by decide +kernel
theorem dX8_carried_373 : decode cX8_carried 373 = .ok (.ifCond .eq 13, 3) := by decide +kernel
theorem dX8_carried_376 : decode cX8_carried 376 = .ok (.iload_n 1, 1) := by decide +kernel
theorem dX8_carried_377 : decode cX8_carried 377 = .ok (.bipush 88, 2) := by decide +kernel
theorem dX8_carried_379 : decode cX8_carried 379 = .ok (.if_icmp .ne 7, 3) := by decide +kernel
theorem dX8_carried_382 : decode cX8_carried 382 = .ok (.iload_n 2, 1) := by decide +kernel
theorem dX8_carried_383 : decode cX8_carried 383 = .ok (.goto 7, 3) := by decide +kernel
theorem dX8_carried_386 : decode cX8_carried 386 = .ok (.aload_n 0, 1) := by decide +kernel
theorem dX8_carried_387 : decode cX8_carried 387 = .ok (.getfield 84, 3) := by decide +kernel
theorem dX8_carried_390 : decode cX8_carried 390 = .ok (.putfield 84, 3) := by decide +kernel
theorem dX8_carried_393 : decode cX8_carried 393 = .ok (.aload_n 0, 1) := by decide +kernel
theorem dX8_carried_394 : decode cX8_carried 394 = .ok (.iload_n 3, 1) := by decide +kernel
theorem dX8_carried_395 : decode cX8_carried 395 = .ok (.ifCond .eq 13, 3) := by decide +kernel
theorem dX8_carried_398 : decode cX8_carried 398 = .ok (.iload_n 1, 1) := by decide +kernel
theorem dX8_carried_399 : decode cX8_carried 399 = .ok (.bipush 89, 2) := by decide +kernel
theorem dX8_carried_401 : decode cX8_carried 401 = .ok (.if_icmp .ne 7, 3) := by decide +kernel
theorem dX8_carried_404 : decode cX8_carried 404 = .ok (.iload_n 2, 1) := by decide +kernel
theorem dX8_carried_405 : decode cX8_carried 405 = .ok (.goto 7, 3) := by decide +kernel
theorem dX8_carried_408 : decode cX8_carried 408 = .ok (.aload_n 0, 1) := by decide +kernel
theorem dX8_carried_409 : decode cX8_carried 409 = .ok (.getfield 70, 3) := by decide +kernel
theorem dX8_carried_412 : decode cX8_carried 412 = .ok (.putfield 70, 3) := by decide +kernel
theorem dX8_carried_415 : decode cX8_carried 415 = .ok (.aload_n 0, 1) := by decide +kernel
theorem dX8_carried_416 : decode cX8_carried 416 = .ok (.iload_n 3, 1) := by decide +kernel
theorem dX8_carried_417 : decode cX8_carried 417 = .ok (.ifCond .eq 13, 3) := by decide +kernel
theorem dX8_carried_420 : decode cX8_carried 420 = .ok (.iload_n 1, 1) := by decide +kernel
theorem dX8_carried_421 : decode cX8_carried 421 = .ok (.bipush 90, 2) := by decide +kernel
theorem dX8_carried_423 : decode cX8_carried 423 = .ok (.if_icmp .ne 7, 3) := by decide +kernel
theorem dX8_carried_426 : decode cX8_carried 426 = .ok (.iload_n 2, 1) := by decide +kernel
theorem dX8_carried_427 : decode cX8_carried 427 = .ok (.goto 7, 3) := by decide +kernel
theorem dX8_carried_430 : decode cX8_carried 430 = .ok (.aload_n 0, 1) := by decide +kernel
theorem dX8_carried_431 : decode cX8_carried 431 = .ok (.getfield 98, 3) := by decide +kernel
theorem dX8_carried_434 : decode cX8_carried 434 = .ok (.putfield 98, 3) := by decide +kernel
theorem dX8_carried_437 : decode cX8_carried 437 = .ok (.iload_n 1, 1) := by decide +kernel
theorem dX8_carried_438 : decode cX8_carried 438 = .ok (.bipush 88, 2) := by decide +kernel
theorem dX8_carried_440 : decode cX8_carried 440 = .ok (.if_icmp .ne 10, 3) := by decide +kernel
theorem dX8_carried_443 : decode cX8_carried 443 = .ok (.aload_n 0, 1) := by decide +kernel
theorem dX8_carried_444 : decode cX8_carried 444 = .ok (.getfield 84, 3) := by decide +kernel
theorem dX8_carried_447 : decode cX8_carried 447 = .ok (.goto 20, 3) := by decide +kernel
theorem dX8_carried_450 : decode cX8_carried 450 = .ok (.iload_n 1, 1) := by decide +kernel
theorem dX8_carried_451 : decode cX8_carried 451 = .ok (.bipush 89, 2) := by decide +kernel
theorem dX8_carried_453 : decode cX8_carried 453 = .ok (.if_icmp .ne 10, 3) := by decide +kernel
theorem dX8_carried_456 : decode cX8_carried 456 = .ok (.aload_n 0, 1) := by decide +kernel
theorem dX8_carried_457 : decode cX8_carried 457 = .ok (.getfield 70, 3) := by decide +kernel
theorem dX8_carried_460 : decode cX8_carried 460 = .ok (.goto 7, 3) := by decide +kernel
theorem dX8_carried_463 : decode cX8_carried 463 = .ok (.aload_n 0, 1) := by decide +kernel
theorem dX8_carried_464 : decode cX8_carried 464 = .ok (.getfield 98, 3) := by decide +kernel
theorem dX8_carried_467 : decode cX8_carried 467 = .ok (.ireturn, 1) := by decide +kernel
theorem dX8_image_0 : decode cX8_image 0 = .ok (.iconst 0, 1) := by decide +kernel
theorem dX8_image_1 : decode cX8_image 1 = .ok (.istore_n 1, 1) := by decide +kernel
theorem dX8_image_2 : decode cX8_image 2 = .ok (.iload_n 1, 1) := by decide +kernel
theorem dX8_image_3 : decode cX8_image 3 = .ok (.bipush 90, 2) := by decide +kernel
theorem dX8_image_5 : decode cX8_image 5 = .ok (.if_icmp .gt 22, 3) := by decide +kernel
theorem dX8_image_8 : decode cX8_image 8 = .ok (.aload_n 0, 1) := by decide +kernel
theorem dX8_image_9 : decode cX8_image 9 = .ok (.getfield 43, 3) := by decide +kernel
theorem dX8_image_12 : decode cX8_image 12 = .ok (.iload_n 1, 1) := by decide +kernel
theorem dX8_image_13 : decode cX8_image 13 = .ok (.aload_n 0, 1) := by decide +kernel
theorem dX8_image_14 : decode cX8_image 14 = .ok (.iload_n 1, 1) := by decide +kernel
theorem dX8_image_15 : decode cX8_image 15 = .ok (.iconst 0, 1) := by decide +kernel
theorem dX8_image_16 : decode cX8_image 16 = .ok (.iconst 0, 1) := by decide +kernel
theorem dX8_image_17 : decode cX8_image 17 = .ok (.invokevirtual 222, 3) := by decide +kernel
theorem dX8_image_20 : decode cX8_image 20 = .ok (.iastore, 1) := by decide +kernel
theorem dX8_image_21 : decode cX8_image 21 = .ok (.iinc 1 1, 3) := by decide +kernel
theorem dX8_image_24 : decode cX8_image 24 = .ok (.goto (-22), 3) := by decide +kernel
theorem dX8_image_27 : decode cX8_image 27 = .ok (.aload_n 0, 1) := by decide +kernel
theorem dX8_image_28 : decode cX8_image 28 = .ok (.iconst 1, 1) := by decide +kernel
theorem dX8_image_29 : decode cX8_image 29 = .ok (.putfield 226, 3) := by decide +kernel
theorem dX8_image_32 : decode cX8_image 32 = .ok (.iconst 1, 1) := by decide +kernel
theorem dX8_image_33 : decode cX8_image 33 = .ok (.ireturn, 1) := by decide +kernel
theorem dX8_restore_0 : decode cX8_restore 0 = .ok (.aload_n 0, 1) := by decide +kernel
theorem dX8_restore_1 : decode cX8_restore 1 = .ok (.getfield 226, 3) := by decide +kernel
theorem dX8_restore_4 : decode cX8_restore 4 = .ok (.ifCond .ne 6, 3) := by decide +kernel
theorem dX8_restore_7 : decode cX8_restore 7 = .ok (.bipush (-4), 2) := by decide +kernel
theorem dX8_restore_9 : decode cX8_restore 9 = .ok (.ireturn, 1) := by decide +kernel
theorem dX8_restore_10 : decode cX8_restore 10 = .ok (.iconst 0, 1) := by decide +kernel
theorem dX8_restore_11 : decode cX8_restore 11 = .ok (.istore_n 1, 1) := by decide +kernel
theorem dX8_restore_12 : decode cX8_restore 12 = .ok (.iload_n 1, 1) := by decide +kernel
theorem dX8_restore_13 : decode cX8_restore 13 = .ok (.bipush 90, 2) := by decide +kernel
theorem dX8_restore_15 : decode cX8_restore 15 = .ok (.if_icmp .gt 22, 3) := by decide +kernel
theorem dX8_restore_18 : decode cX8_restore 18 = .ok (.aload_n 0, 1) := by decide +kernel
theorem dX8_restore_19 : decode cX8_restore 19 = .ok (.iload_n 1, 1) := by decide +kernel
theorem dX8_restore_20 : decode cX8_restore 20 = .ok (.aload_n 0, 1) := by decide +kernel
theorem dX8_restore_21 : decode cX8_restore 21 = .ok (.getfield 43, 3) := by decide +kernel
theorem dX8_restore_24 : decode cX8_restore 24 = .ok (.iload_n 1, 1) := by decide +kernel
theorem dX8_restore_25 : decode cX8_restore 25 = .ok (.iaload, 1) := by decide +kernel
theorem dX8_restore_26 : decode cX8_restore 26 = .ok (.iconst 1, 1) := by decide +kernel
theorem dX8_restore_27 : decode cX8_restore 27 = .ok (.invokevirtual 222, 3) := by decide +kernel
theorem dX8_restore_30 : decode cX8_restore 30 = .ok (.pop, 1) := by decide +kernel
theorem dX8_restore_31 : decode cX8_restore 31 = .ok (.iinc 1 1, 3) := by decide +kernel
theorem dX8_restore_34 : decode cX8_restore 34 = .ok (.goto (-22), 3) := by decide +kernel
theorem dX8_restore_37 : decode cX8_restore 37 = .ok (.iconst 1, 1) := by decide +kernel
theorem dX8_restore_38 : decode cX8_restore 38 = .ok (.ireturn, 1) := by decide +kernel
theorem dX8_isSheet_0 : decode cX8_isSheet 0 = .ok (.iload_n 0, 1) := by decide +kernel
theorem dX8_isSheet_1 : decode cX8_isSheet 1 = .ok (.i2l, 1) := by decide +kernel
theorem dX8_isSheet_2 : decode cX8_isSheet 2 = .ok (.lconst 0, 1) := by decide +kernel
theorem dX8_isSheet_3 : decode cX8_isSheet 3 = .ok (.ldc2_w 87, 3) := by decide +kernel
theorem dX8_isSheet_6 : decode cX8_isSheet 6 = .ok (.invokestatic 66, 3) := by decide +kernel
theorem dX8_isSheet_9 : decode cX8_isSheet 9 = .ok (.ifCond .eq 19, 3) := by decide +kernel
theorem dX8_isSheet_12 : decode cX8_isSheet 12 = .ok (.iload_n 1, 1) := by decide +kernel
theorem dX8_isSheet_13 : decode cX8_isSheet 13 = .ok (.i2l, 1) := by decide +kernel
theorem dX8_isSheet_14 : decode cX8_isSheet 14 = .ok (.lconst 0, 1) := by decide +kernel
theorem dX8_isSheet_15 : decode cX8_isSheet 15 = .ok (.ldc2_w 92, 3) := by decide +kernel
theorem dX8_isSheet_18 : decode cX8_isSheet 18 = .ok (.invokestatic 66, 3) := by decide +kernel
theorem dX8_isSheet_21 : decode cX8_isSheet 21 = .ok (.ifCond .eq 7, 3) := by decide +kernel
theorem dX8_isSheet_24 : decode cX8_isSheet 24 = .ok (.iconst 1, 1) := by decide +kernel
theorem dX8_isSheet_25 : decode cX8_isSheet 25 = .ok (.goto 4, 3) := by decide +kernel
theorem dX8_isSheet_28 : decode cX8_isSheet 28 = .ok (.iconst 0, 1) := by decide +kernel
theorem dX8_isSheet_29 : decode cX8_isSheet 29 = .ok (.ireturn, 1) := by decide +kernel
theorem dX8_asLane_0 : decode cX8_asLane 0 = .ok (.iload_n 0, 1) := by decide +kernel
theorem dX8_asLane_1 : decode cX8_asLane 1 = .ok (.ifCond .ne 13, 3) := by decide +kernel
theorem dX8_asLane_4 : decode cX8_asLane 4 = .ok (.iload_n 1, 1) := by decide +kernel
theorem dX8_asLane_5 : decode cX8_asLane 5 = .ok (.bipush 24, 2) := by decide +kernel
theorem dX8_asLane_7 : decode cX8_asLane 7 = .ok (.ishl, 1) := by decide +kernel
theorem dX8_asLane_8 : decode cX8_asLane 8 = .ok (.bipush 24, 2) := by decide +kernel
theorem dX8_asLane_10 : decode cX8_asLane 10 = .ok (.ishr, 1) := by decide +kernel
theorem dX8_asLane_11 : decode cX8_asLane 11 = .ok (.goto 19, 3) := by decide +kernel
theorem dX8_asLane_14 : decode cX8_asLane 14 = .ok (.iload_n 0, 1) := by decide +kernel
theorem dX8_asLane_15 : decode cX8_asLane 15 = .ok (.iconst 1, 1) := by decide +kernel
theorem dX8_asLane_16 : decode cX8_asLane 16 = .ok (.if_icmp .ne 13, 3) := by decide +kernel
theorem dX8_asLane_19 : decode cX8_asLane 19 = .ok (.iload_n 1, 1) := by decide +kernel
theorem dX8_asLane_20 : decode cX8_asLane 20 = .ok (.bipush 16, 2) := by decide +kernel
theorem dX8_asLane_22 : decode cX8_asLane 22 = .ok (.ishl, 1) := by decide +kernel
theorem dX8_asLane_23 : decode cX8_asLane 23 = .ok (.bipush 16, 2) := by decide +kernel
theorem dX8_asLane_25 : decode cX8_asLane 25 = .ok (.ishr, 1) := by decide +kernel
theorem dX8_asLane_26 : decode cX8_asLane 26 = .ok (.goto 4, 3) := by decide +kernel
theorem dX8_asLane_29 : decode cX8_asLane 29 = .ok (.iload_n 1, 1) := by decide +kernel
theorem dX8_asLane_30 : decode cX8_asLane 30 = .ok (.ireturn, 1) := by decide +kernel
theorem dX8_sheet_0 : decode cX8_sheet 0 = .ok (.iload_n 1, 1) := by decide +kernel
theorem dX8_sheet_1 : decode cX8_sheet 1 = .ok (.iload_n 2, 1) := by decide +kernel
theorem dX8_sheet_2 : decode cX8_sheet 2 = .ok (.invokestatic 230, 3) := by decide +kernel
theorem dX8_sheet_5 : decode cX8_sheet 5 = .ok (.ifCond .eq 9, 3) := by decide +kernel
theorem dX8_sheet_8 : decode cX8_sheet 8 = .ok (.iload_n 3, 1) := by decide +kernel
theorem dX8_sheet_9 : decode cX8_sheet 9 = .ok (.bipush 24, 2) := by decide +kernel
theorem dX8_sheet_11 : decode cX8_sheet 11 = .ok (.if_icmp .le 5, 3) := by decide +kernel
theorem dX8_sheet_14 : decode cX8_sheet 14 = .ok (.iconst (-1), 1) := by decide +kernel
theorem dX8_sheet_15 : decode cX8_sheet 15 = .ok (.ireturn, 1) := by decide +kernel
theorem dX8_sheet_16 : decode cX8_sheet 16 = .ok (.iload_n 3, 1) := by decide +kernel
theorem dX8_sheet_17 : decode cX8_sheet 17 = .ok (.ifCond .ge 6, 3) := by decide +kernel
theorem dX8_sheet_20 : decode cX8_sheet 20 = .ok (.bipush (-14), 2) := by decide +kernel
theorem dX8_sheet_22 : decode cX8_sheet 22 = .ok (.ireturn, 1) := by decide +kernel
theorem dX8_sheet_23 : decode cX8_sheet 23 = .ok (.aload_n 0, 1) := by decide +kernel
theorem dX8_sheet_24 : decode cX8_sheet 24 = .ok (.getfield 46, 3) := by decide +kernel
theorem dX8_sheet_27 : decode cX8_sheet 27 = .ok (.iload_n 1, 1) := by decide +kernel
theorem dX8_sheet_28 : decode cX8_sheet 28 = .ok (.iload_n 2, 1) := by decide +kernel
theorem dX8_sheet_29 : decode cX8_sheet 29 = .ok (.iastore, 1) := by decide +kernel
theorem dX8_sheet_30 : decode cX8_sheet 30 = .ok (.aload_n 0, 1) := by decide +kernel
theorem dX8_sheet_31 : decode cX8_sheet 31 = .ok (.getfield 49, 3) := by decide +kernel
theorem dX8_sheet_34 : decode cX8_sheet 34 = .ok (.iload_n 1, 1) := by decide +kernel
theorem dX8_sheet_35 : decode cX8_sheet 35 = .ok (.iload_n 3, 1) := by decide +kernel
theorem dX8_sheet_36 : decode cX8_sheet 36 = .ok (.iastore, 1) := by decide +kernel
theorem dX8_sheet_37 : decode cX8_sheet 37 = .ok (.iconst 0, 1) := by decide +kernel
theorem dX8_sheet_38 : decode cX8_sheet 38 = .ok (.istore 4, 2) := by decide +kernel
theorem dX8_sheet_40 : decode cX8_sheet 40 = .ok (.iload 4, 2) := by decide +kernel
theorem dX8_sheet_42 : decode cX8_sheet 42 = .ok (.bipush 24, 2) := by decide +kernel
theorem dX8_sheet_44 : decode cX8_sheet 44 = .ok (.if_icmp .ge 22, 3) := by decide +kernel
theorem dX8_sheet_47 : decode cX8_sheet 47 = .ok (.aload_n 0, 1) := by decide +kernel
theorem dX8_sheet_48 : decode cX8_sheet 48 = .ok (.getfield 52, 3) := by decide +kernel
theorem dX8_sheet_51 : decode cX8_sheet 51 = .ok (.bipush 24, 2) := by decide +kernel
theorem dX8_sheet_53 : decode cX8_sheet 53 = .ok (.iload_n 1, 1) := by decide +kernel
theorem dX8_sheet_54 : decode cX8_sheet 54 = .ok (.imul, 1) := by decide +kernel
theorem dX8_sheet_55 : decode cX8_sheet 55 = .ok (.iload 4, 2) := by decide +kernel
theorem dX8_sheet_57 : decode cX8_sheet 57 = .ok (.iadd, 1) := by decide +kernel
theorem dX8_sheet_58 : decode cX8_sheet 58 = .ok (.iconst 0, 1) := by decide +kernel
theorem dX8_sheet_59 : decode cX8_sheet 59 = .ok (.iastore, 1) := by decide +kernel
theorem dX8_sheet_60 : decode cX8_sheet 60 = .ok (.iinc 4 1, 3) := by decide +kernel
theorem dX8_sheet_63 : decode cX8_sheet 63 = .ok (.goto (-23), 3) := by decide +kernel
theorem dX8_sheet_66 : decode cX8_sheet 66 = .ok (.iload_n 3, 1) := by decide +kernel
theorem dX8_sheet_67 : decode cX8_sheet 67 = .ok (.ireturn, 1) := by decide +kernel
theorem dX8_drop_0 : decode cX8_drop 0 = .ok (.iload_n 1, 1) := by decide +kernel
theorem dX8_drop_1 : decode cX8_drop 1 = .ok (.i2l, 1) := by decide +kernel
theorem dX8_drop_2 : decode cX8_drop 2 = .ok (.lconst 0, 1) := by decide +kernel
theorem dX8_drop_3 : decode cX8_drop 3 = .ok (.ldc2_w 87, 3) := by decide +kernel
theorem dX8_drop_6 : decode cX8_drop 6 = .ok (.invokestatic 66, 3) := by decide +kernel
theorem dX8_drop_9 : decode cX8_drop 9 = .ok (.ifCond .ne 5, 3) := by decide +kernel
theorem dX8_drop_12 : decode cX8_drop 12 = .ok (.iconst (-1), 1) := by decide +kernel
theorem dX8_drop_13 : decode cX8_drop 13 = .ok (.ireturn, 1) := by decide +kernel
theorem dX8_drop_14 : decode cX8_drop 14 = .ok (.aload_n 0, 1) := by decide +kernel
theorem dX8_drop_15 : decode cX8_drop 15 = .ok (.getfield 46, 3) := by decide +kernel
theorem dX8_drop_18 : decode cX8_drop 18 = .ok (.iload_n 1, 1) := by decide +kernel
theorem dX8_drop_19 : decode cX8_drop 19 = .ok (.iaload, 1) := by decide +kernel
theorem dX8_drop_20 : decode cX8_drop 20 = .ok (.ifCond .ge 6, 3) := by decide +kernel
theorem dX8_drop_23 : decode cX8_drop 23 = .ok (.bipush (-11), 2) := by decide +kernel
theorem dX8_drop_25 : decode cX8_drop 25 = .ok (.ireturn, 1) := by decide +kernel
theorem dX8_drop_26 : decode cX8_drop 26 = .ok (.aload_n 0, 1) := by decide +kernel
theorem dX8_drop_27 : decode cX8_drop 27 = .ok (.getfield 46, 3) := by decide +kernel
theorem dX8_drop_30 : decode cX8_drop 30 = .ok (.iload_n 1, 1) := by decide +kernel
theorem dX8_drop_31 : decode cX8_drop 31 = .ok (.iconst (-1), 1) := by decide +kernel
theorem dX8_drop_32 : decode cX8_drop 32 = .ok (.iastore, 1) := by decide +kernel
theorem dX8_drop_33 : decode cX8_drop 33 = .ok (.aload_n 0, 1) := by decide +kernel
theorem dX8_drop_34 : decode cX8_drop 34 = .ok (.getfield 49, 3) := by decide +kernel
theorem dX8_drop_37 : decode cX8_drop 37 = .ok (.iload_n 1, 1) := by decide +kernel
theorem dX8_drop_38 : decode cX8_drop 38 = .ok (.iaload, 1) := by decide +kernel
theorem dX8_drop_39 : decode cX8_drop 39 = .ok (.ireturn, 1) := by decide +kernel
theorem dX8_lacksRow_0 : decode cX8_lacksRow 0 = .ok (.aload_n 0, 1) := by decide +kernel
theorem dX8_lacksRow_1 : decode cX8_lacksRow 1 = .ok (.getfield 46, 3) := by decide +kernel
theorem dX8_lacksRow_4 : decode cX8_lacksRow 4 = .ok (.iload_n 1, 1) := by decide +kernel
theorem dX8_lacksRow_5 : decode cX8_lacksRow 5 = .ok (.iaload, 1) := by decide +kernel
theorem dX8_lacksRow_6 : decode cX8_lacksRow 6 = .ok (.iload_n 2, 1) := by decide +kernel
theorem dX8_lacksRow_7 : decode cX8_lacksRow 7 = .ok (.if_icmp .eq 20, 3) := by decide +kernel
theorem dX8_lacksRow_10 : decode cX8_lacksRow 10 = .ok (.aload_n 0, 1) := by decide +kernel
theorem dX8_lacksRow_11 : decode cX8_lacksRow 11 = .ok (.getfield 46, 3) := by decide +kernel
theorem dX8_lacksRow_14 : decode cX8_lacksRow 14 = .ok (.iload_n 1, 1) := by decide +kernel
theorem dX8_lacksRow_15 : decode cX8_lacksRow 15 = .ok (.iaload, 1) := by decide +kernel
theorem dX8_lacksRow_16 : decode cX8_lacksRow 16 = .ok (.ifCond .ge 8, 3) := by decide +kernel
theorem dX8_lacksRow_19 : decode cX8_lacksRow 19 = .ok (.bipush (-11), 2) := by decide +kernel
theorem dX8_lacksRow_21 : decode cX8_lacksRow 21 = .ok (.goto 5, 3) := by decide +kernel
theorem dX8_lacksRow_24 : decode cX8_lacksRow 24 = .ok (.bipush (-12), 2) := by decide +kernel
theorem dX8_lacksRow_26 : decode cX8_lacksRow 26 = .ok (.ireturn, 1) := by decide +kernel
theorem dX8_lacksRow_27 : decode cX8_lacksRow 27 = .ok (.iload_n 3, 1) := by decide +kernel
theorem dX8_lacksRow_28 : decode cX8_lacksRow 28 = .ok (.i2l, 1) := by decide +kernel
theorem dX8_lacksRow_29 : decode cX8_lacksRow 29 = .ok (.lconst 0, 1) := by decide +kernel
theorem dX8_lacksRow_30 : decode cX8_lacksRow 30 = .ok (.aload_n 0, 1) := by decide +kernel
theorem dX8_lacksRow_31 : decode cX8_lacksRow 31 = .ok (.getfield 49, 3) := by decide +kernel
theorem dX8_lacksRow_34 : decode cX8_lacksRow 34 = .ok (.iload_n 1, 1) := by decide +kernel
theorem dX8_lacksRow_35 : decode cX8_lacksRow 35 = .ok (.iaload, 1) := by decide +kernel
theorem dX8_lacksRow_36 : decode cX8_lacksRow 36 = .ok (.iload 4, 2) := by decide +kernel
theorem dX8_lacksRow_38 : decode cX8_lacksRow 38 = .ok (.isub, 1) := by decide +kernel
theorem dX8_lacksRow_39 : decode cX8_lacksRow 39 = .ok (.i2l, 1) := by decide +kernel
theorem dX8_lacksRow_40 : decode cX8_lacksRow 40 = .ok (.invokestatic 66, 3) := by decide +kernel
theorem dX8_lacksRow_43 : decode cX8_lacksRow 43 = .ok (.ifCond .eq 7, 3) := by decide +kernel
theorem dX8_lacksRow_46 : decode cX8_lacksRow 46 = .ok (.iconst 0, 1) := by decide +kernel
theorem dX8_lacksRow_47 : decode cX8_lacksRow 47 = .ok (.goto 5, 3) := by decide +kernel
theorem dX8_lacksRow_50 : decode cX8_lacksRow 50 = .ok (.bipush (-13), 2) := by decide +kernel
theorem dX8_lacksRow_52 : decode cX8_lacksRow 52 = .ok (.ireturn, 1) := by decide +kernel
theorem dX8_item_0 : decode cX8_item 0 = .ok (.iload_n 1, 1) := by decide +kernel
theorem dX8_item_1 : decode cX8_item 1 = .ok (.iload_n 2, 1) := by decide +kernel
theorem dX8_item_2 : decode cX8_item 2 = .ok (.invokestatic 230, 3) := by decide +kernel
theorem dX8_item_5 : decode cX8_item 5 = .ok (.ifCond .ne 5, 3) := by decide +kernel
theorem dX8_item_8 : decode cX8_item 8 = .ok (.iconst (-1), 1) := by decide +kernel
theorem dX8_item_9 : decode cX8_item 9 = .ok (.ireturn, 1) := by decide +kernel
theorem dX8_item_10 : decode cX8_item 10 = .ok (.aload_n 0, 1) := by decide +kernel
theorem dX8_item_11 : decode cX8_item 11 = .ok (.iload_n 1, 1) := by decide +kernel
theorem dX8_item_12 : decode cX8_item 12 = .ok (.iload_n 2, 1) := by decide +kernel
theorem dX8_item_13 : decode cX8_item 13 = .ok (.iload_n 3, 1) := by decide +kernel
theorem dX8_item_14 : decode cX8_item 14 = .ok (.iconst 1, 1) := by decide +kernel
theorem dX8_item_15 : decode cX8_item 15 = .ok (.invokevirtual 233, 3) := by decide +kernel
theorem dX8_item_18 : decode cX8_item 18 = .ok (.istore 5, 2) := by decide +kernel
theorem dX8_item_20 : decode cX8_item 20 = .ok (.iload 5, 2) := by decide +kernel
theorem dX8_item_22 : decode cX8_item 22 = .ok (.ifCond .ge 6, 3) := by decide +kernel
theorem dX8_item_25 : decode cX8_item 25 = .ok (.iload 5, 2) := by decide +kernel
theorem dX8_item_27 : decode cX8_item 27 = .ok (.ireturn, 1) := by decide +kernel
theorem dX8_item_28 : decode cX8_item 28 = .ok (.aload_n 0, 1) := by decide +kernel
theorem dX8_item_29 : decode cX8_item 29 = .ok (.getfield 52, 3) := by decide +kernel
theorem dX8_item_32 : decode cX8_item 32 = .ok (.bipush 24, 2) := by decide +kernel
theorem dX8_item_34 : decode cX8_item 34 = .ok (.iload_n 1, 1) := by decide +kernel
theorem dX8_item_35 : decode cX8_item 35 = .ok (.imul, 1) := by decide +kernel
theorem dX8_item_36 : decode cX8_item 36 = .ok (.iload_n 3, 1) := by decide +kernel
theorem dX8_item_37 : decode cX8_item 37 = .ok (.iadd, 1) := by decide +kernel
theorem dX8_item_38 : decode cX8_item 38 = .ok (.iload_n 2, 1) := by decide +kernel
theorem dX8_item_39 : decode cX8_item 39 = .ok (.iload 4, 2) := by decide +kernel
theorem dX8_item_41 : decode cX8_item 41 = .ok (.invokestatic 236, 3) := by decide +kernel
theorem dX8_item_44 : decode cX8_item 44 = .ok (.iastore, 1) := by decide +kernel
theorem dX8_item_45 : decode cX8_item 45 = .ok (.iconst 1, 1) := by decide +kernel
theorem dX8_item_46 : decode cX8_item 46 = .ok (.ireturn, 1) := by decide +kernel
theorem dX8_nextOrder_0 : decode cX8_nextOrder 0 = .ok (.iload_n 1, 1) := by decide +kernel
theorem dX8_nextOrder_1 : decode cX8_nextOrder 1 = .ok (.iconst 2, 1) := by decide +kernel
theorem dX8_nextOrder_2 : decode cX8_nextOrder 2 = .ok (.isub, 1) := by decide +kernel
theorem dX8_nextOrder_3 : decode cX8_nextOrder 3 = .ok (.istore_n 2, 1) := by decide +kernel
theorem dX8_nextOrder_4 : decode cX8_nextOrder 4 = .ok (.iload_n 2, 1) := by decide +kernel
theorem dX8_nextOrder_5 : decode cX8_nextOrder 5 = .ok (.ifCond .lt 26, 3) := by decide +kernel
theorem dX8_nextOrder_8 : decode cX8_nextOrder 8 = .ok (.aload_n 0, 1) := by decide +kernel
theorem dX8_nextOrder_9 : decode cX8_nextOrder 9 = .ok (.getfield 55, 3) := by decide +kernel
theorem dX8_nextOrder_12 : decode cX8_nextOrder 12 = .ok (.iload_n 2, 1) := by decide +kernel
theorem dX8_nextOrder_13 : decode cX8_nextOrder 13 = .ok (.iaload, 1) := by decide +kernel
theorem dX8_nextOrder_14 : decode cX8_nextOrder 14 = .ok (.aload_n 0, 1) := by decide +kernel
theorem dX8_nextOrder_15 : decode cX8_nextOrder 15 = .ok (.getfield 55, 3) := by decide +kernel
theorem dX8_nextOrder_18 : decode cX8_nextOrder 18 = .ok (.iload_n 2, 1) := by decide +kernel
theorem dX8_nextOrder_19 : decode cX8_nextOrder 19 = .ok (.iconst 1, 1) := by decide +kernel
theorem dX8_nextOrder_20 : decode cX8_nextOrder 20 = .ok (.iadd, 1) := by decide +kernel
theorem dX8_nextOrder_21 : decode cX8_nextOrder 21 = .ok (.iaload, 1) := by decide +kernel
theorem dX8_nextOrder_22 : decode cX8_nextOrder 22 = .ok (.if_icmp .le 9, 3) := by decide +kernel
theorem dX8_nextOrder_25 : decode cX8_nextOrder 25 = .ok (.iinc 2 (-1), 3) := by decide +kernel
theorem dX8_nextOrder_28 : decode cX8_nextOrder 28 = .ok (.goto (-24), 3) := by decide +kernel
theorem dX8_nextOrder_31 : decode cX8_nextOrder 31 = .ok (.iload_n 2, 1) := by decide +kernel
theorem dX8_nextOrder_32 : decode cX8_nextOrder 32 = .ok (.ifCond .ge 5, 3) := by decide +kernel
theorem dX8_nextOrder_35 : decode cX8_nextOrder 35 = .ok (.iconst 0, 1) := by decide +kernel
theorem dX8_nextOrder_36 : decode cX8_nextOrder 36 = .ok (.ireturn, 1) := by decide +kernel
theorem dX8_nextOrder_37 : decode cX8_nextOrder 37 = .ok (.iload_n 1, 1) := by decide +kernel
theorem dX8_nextOrder_38 : decode cX8_nextOrder 38 = .ok (.iconst 1, 1) := by decide +kernel
theorem dX8_nextOrder_39 : decode cX8_nextOrder 39 = .ok (.isub, 1) := by decide +kernel
theorem dX8_nextOrder_40 : decode cX8_nextOrder 40 = .ok (.istore_n 3, 1) := by decide +kernel
theorem dX8_nextOrder_41 : decode cX8_nextOrder 41 = .ok (.aload_n 0, 1) := by decide +kernel
theorem dX8_nextOrder_42 : decode cX8_nextOrder 42 = .ok (.getfield 55, 3) := by decide +kernel
theorem dX8_nextOrder_45 : decode cX8_nextOrder 45 = .ok (.iload_n 3, 1) := by decide +kernel
theorem dX8_nextOrder_46 : decode cX8_nextOrder 46 = .ok (.iaload, 1) := by decide +kernel
theorem dX8_nextOrder_47 : decode cX8_nextOrder 47 = .ok (.aload_n 0, 1) := by decide +kernel
theorem dX8_nextOrder_48 : decode cX8_nextOrder 48 = .ok (.getfield 55, 3) := by decide +kernel
theorem dX8_nextOrder_51 : decode cX8_nextOrder 51 = .ok (.iload_n 2, 1) := by decide +kernel
theorem dX8_nextOrder_52 : decode cX8_nextOrder 52 = .ok (.iaload, 1) := by decide +kernel
theorem dX8_nextOrder_53 : decode cX8_nextOrder 53 = .ok (.if_icmp .ge 9, 3) := by decide +kernel
theorem dX8_nextOrder_56 : decode cX8_nextOrder 56 = .ok (.iinc 3 (-1), 3) := by decide +kernel
theorem dX8_nextOrder_59 : decode cX8_nextOrder 59 = .ok (.goto (-18), 3) := by decide +kernel
theorem dX8_nextOrder_62 : decode cX8_nextOrder 62 = .ok (.aload_n 0, 1) := by decide +kernel
theorem dX8_nextOrder_63 : decode cX8_nextOrder 63 = .ok (.getfield 55, 3) := by decide +kernel
theorem dX8_nextOrder_66 : decode cX8_nextOrder 66 = .ok (.iload_n 2, 1) := by decide +kernel
theorem dX8_nextOrder_67 : decode cX8_nextOrder 67 = .ok (.iaload, 1) := by decide +kernel
theorem dX8_nextOrder_68 : decode cX8_nextOrder 68 = .ok (.istore 4, 2) := by decide +kernel
theorem dX8_nextOrder_70 : decode cX8_nextOrder 70 = .ok (.aload_n 0, 1) := by decide +kernel
theorem dX8_nextOrder_71 : decode cX8_nextOrder 71 = .ok (.getfield 55, 3) := by decide +kernel
theorem dX8_nextOrder_74 : decode cX8_nextOrder 74 = .ok (.iload_n 2, 1) := by decide +kernel
theorem dX8_nextOrder_75 : decode cX8_nextOrder 75 = .ok (.aload_n 0, 1) := by decide +kernel
theorem dX8_nextOrder_76 : decode cX8_nextOrder 76 = .ok (.getfield 55, 3) := by decide +kernel
theorem dX8_nextOrder_79 : decode cX8_nextOrder 79 = .ok (.iload_n 3, 1) := by decide +kernel
theorem dX8_nextOrder_80 : decode cX8_nextOrder 80 = .ok (.iaload, 1) := by decide +kernel
theorem dX8_nextOrder_81 : decode cX8_nextOrder 81 = .ok (.iastore, 1) := by decide +kernel
theorem dX8_nextOrder_82 : decode cX8_nextOrder 82 = .ok (.aload_n 0, 1) := by decide +kernel
theorem dX8_nextOrder_83 : decode cX8_nextOrder 83 = .ok (.getfield 55, 3) := by decide +kernel
theorem dX8_nextOrder_86 : decode cX8_nextOrder 86 = .ok (.iload_n 3, 1) := by decide +kernel
theorem dX8_nextOrder_87 : decode cX8_nextOrder 87 = .ok (.iload 4, 2) := by decide +kernel
theorem dX8_nextOrder_89 : decode cX8_nextOrder 89 = .ok (.iastore, 1) := by decide +kernel
theorem dX8_nextOrder_90 : decode cX8_nextOrder 90 = .ok (.iload_n 1, 1) := by decide +kernel
theorem dX8_nextOrder_91 : decode cX8_nextOrder 91 = .ok (.iconst 1, 1) := by decide +kernel
theorem dX8_nextOrder_92 : decode cX8_nextOrder 92 = .ok (.isub, 1) := by decide +kernel
theorem dX8_nextOrder_93 : decode cX8_nextOrder 93 = .ok (.istore 5, 2) := by decide +kernel
theorem dX8_nextOrder_95 : decode cX8_nextOrder 95 = .ok (.iload_n 2, 1) := by decide +kernel
theorem dX8_nextOrder_96 : decode cX8_nextOrder 96 = .ok (.iconst 1, 1) := by decide +kernel
theorem dX8_nextOrder_97 : decode cX8_nextOrder 97 = .ok (.iadd, 1) := by decide +kernel
theorem dX8_nextOrder_98 : decode cX8_nextOrder 98 = .ok (.istore 6, 2) := by decide +kernel
theorem dX8_nextOrder_100 : decode cX8_nextOrder 100 = .ok (.iload 6, 2) := by decide +kernel
theorem dX8_nextOrder_102 : decode cX8_nextOrder 102 = .ok (.iload 5, 2) := by decide +kernel
theorem dX8_nextOrder_104 : decode cX8_nextOrder 104 = .ok (.if_icmp .ge 44, 3) := by decide +kernel
theorem dX8_nextOrder_107 : decode cX8_nextOrder 107 = .ok (.aload_n 0, 1) := by decide +kernel
theorem dX8_nextOrder_108 : decode cX8_nextOrder 108 = .ok (.getfield 55, 3) := by decide +kernel
theorem dX8_nextOrder_111 : decode cX8_nextOrder 111 = .ok (.iload 6, 2) := by decide +kernel
theorem dX8_nextOrder_113 : decode cX8_nextOrder 113 = .ok (.iaload, 1) := by decide +kernel
theorem dX8_nextOrder_114 : decode cX8_nextOrder 114 = .ok (.istore 4, 2) := by decide +kernel
theorem dX8_nextOrder_116 : decode cX8_nextOrder 116 = .ok (.aload_n 0, 1) := by decide +kernel
theorem dX8_nextOrder_117 : decode cX8_nextOrder 117 = .ok (.getfield 55, 3) := by decide +kernel
theorem dX8_nextOrder_120 : decode cX8_nextOrder 120 = .ok (.iload 6, 2) := by decide +kernel
theorem dX8_nextOrder_122 : decode cX8_nextOrder 122 = .ok (.aload_n 0, 1) := by decide +kernel
theorem dX8_nextOrder_123 : decode cX8_nextOrder 123 = .ok (.getfield 55, 3) := by decide +kernel
theorem dX8_nextOrder_126 : decode cX8_nextOrder 126 = .ok (.iload 5, 2) := by decide +kernel
theorem dX8_nextOrder_128 : decode cX8_nextOrder 128 = .ok (.iaload, 1) := by decide +kernel
theorem dX8_nextOrder_129 : decode cX8_nextOrder 129 = .ok (.iastore, 1) := by decide +kernel
theorem dX8_nextOrder_130 : decode cX8_nextOrder 130 = .ok (.aload_n 0, 1) := by decide +kernel
theorem dX8_nextOrder_131 : decode cX8_nextOrder 131 = .ok (.getfield 55, 3) := by decide +kernel
theorem dX8_nextOrder_134 : decode cX8_nextOrder 134 = .ok (.iload 5, 2) := by decide +kernel
theorem dX8_nextOrder_136 : decode cX8_nextOrder 136 = .ok (.iload 4, 2) := by decide +kernel
theorem dX8_nextOrder_138 : decode cX8_nextOrder 138 = .ok (.iastore, 1) := by decide +kernel
theorem dX8_nextOrder_139 : decode cX8_nextOrder 139 = .ok (.iinc 5 (-1), 3) := by decide +kernel
theorem dX8_nextOrder_142 : decode cX8_nextOrder 142 = .ok (.iinc 6 1, 3) := by decide +kernel
theorem dX8_nextOrder_145 : decode cX8_nextOrder 145 = .ok (.goto (-45), 3) := by decide +kernel
theorem dX8_nextOrder_148 : decode cX8_nextOrder 148 = .ok (.iconst 1, 1) := by decide +kernel
theorem dX8_nextOrder_149 : decode cX8_nextOrder 149 = .ok (.ireturn, 1) := by decide +kernel
theorem dX8_areTold_0 : decode cX8_areTold 0 = .ok (.iconst 0, 1) := by decide +kernel
theorem dX8_areTold_1 : decode cX8_areTold 1 = .ok (.istore_n 3, 1) := by decide +kernel
theorem dX8_areTold_2 : decode cX8_areTold 2 = .ok (.iconst 1, 1) := by decide +kernel
theorem dX8_areTold_3 : decode cX8_areTold 3 = .ok (.istore 4, 2) := by decide +kernel
theorem dX8_areTold_5 : decode cX8_areTold 5 = .ok (.iconst 0, 1) := by decide +kernel
theorem dX8_areTold_6 : decode cX8_areTold 6 = .ok (.istore 5, 2) := by decide +kernel
theorem dX8_areTold_8 : decode cX8_areTold 8 = .ok (.iload 5, 2) := by decide +kernel
theorem dX8_areTold_10 : decode cX8_areTold 10 = .ok (.iload_n 2, 1) := by decide +kernel
theorem dX8_areTold_11 : decode cX8_areTold 11 = .ok (.if_icmp .ge 96, 3) := by decide +kernel
theorem dX8_areTold_14 : decode cX8_areTold 14 = .ok (.iload 4, 2) := by decide +kernel
theorem dX8_areTold_16 : decode cX8_areTold 16 = .ok (.ifCond .eq 91, 3) := by decide +kernel
theorem dX8_areTold_19 : decode cX8_areTold 19 = .ok (.aload_n 0, 1) := by decide +kernel
theorem dX8_areTold_20 : decode cX8_areTold 20 = .ok (.getfield 52, 3) := by decide +kernel
theorem dX8_areTold_23 : decode cX8_areTold 23 = .ok (.iload_n 1, 1) := by decide +kernel
theorem dX8_areTold_24 : decode cX8_areTold 24 = .ok (.iconst 2, 1) := by decide +kernel
theorem dX8_areTold_25 : decode cX8_areTold 25 = .ok (.iload 5, 2) := by decide +kernel
theorem dX8_areTold_27 : decode cX8_areTold 27 = .ok (.imul, 1) := by decide +kernel
theorem dX8_areTold_28 : decode cX8_areTold 28 = .ok (.iadd, 1) := by decide +kernel
theorem dX8_areTold_29 : decode cX8_areTold 29 = .ok (.iaload, 1) := by decide +kernel
theorem dX8_areTold_30 : decode cX8_areTold 30 = .ok (.istore 6, 2) := by decide +kernel
theorem dX8_areTold_32 : decode cX8_areTold 32 = .ok (.aload_n 0, 1) := by decide +kernel
theorem dX8_areTold_33 : decode cX8_areTold 33 = .ok (.iload 6, 2) := by decide +kernel
theorem dX8_areTold_35 : decode cX8_areTold 35 = .ok (.invokevirtual 89, 3) := by decide +kernel
theorem dX8_areTold_38 : decode cX8_areTold 38 = .ok (.ifCond .eq 44, 3) := by decide +kernel
theorem dX8_areTold_41 : decode cX8_areTold 41 = .ok (.iload_n 3, 1) := by decide +kernel
theorem dX8_areTold_42 : decode cX8_areTold 42 = .ok (.iload 6, 2) := by decide +kernel
theorem dX8_areTold_44 : decode cX8_areTold 44 = .ok (.invokestatic 185, 3) := by decide +kernel
theorem dX8_areTold_47 : decode cX8_areTold 47 = .ok (.ifCond .ne 35, 3) := by decide +kernel
theorem dX8_areTold_50 : decode cX8_areTold 50 = .ok (.aload_n 0, 1) := by decide +kernel
theorem dX8_areTold_51 : decode cX8_areTold 51 = .ok (.getfield 52, 3) := by decide +kernel
theorem dX8_areTold_54 : decode cX8_areTold 54 = .ok (.iload_n 1, 1) := by decide +kernel
theorem dX8_areTold_55 : decode cX8_areTold 55 = .ok (.iconst 2, 1) := by decide +kernel
theorem dX8_areTold_56 : decode cX8_areTold 56 = .ok (.iload 5, 2) := by decide +kernel
theorem dX8_areTold_58 : decode cX8_areTold 58 = .ok (.imul, 1) := by decide +kernel
theorem dX8_areTold_59 : decode cX8_areTold 59 = .ok (.iadd, 1) := by decide +kernel
theorem dX8_areTold_60 : decode cX8_areTold 60 = .ok (.iconst 1, 1) := by decide +kernel
theorem dX8_areTold_61 : decode cX8_areTold 61 = .ok (.iadd, 1) := by decide +kernel
theorem dX8_areTold_62 : decode cX8_areTold 62 = .ok (.iaload, 1) := by decide +kernel
theorem dX8_areTold_63 : decode cX8_areTold 63 = .ok (.i2l, 1) := by decide +kernel
theorem dX8_areTold_64 : decode cX8_areTold 64 = .ok (.aload_n 0, 1) := by decide +kernel
theorem dX8_areTold_65 : decode cX8_areTold 65 = .ok (.getfield 98, 3) := by decide +kernel
theorem dX8_areTold_68 : decode cX8_areTold 68 = .ok (.i2l, 1) := by decide +kernel
theorem dX8_areTold_69 : decode cX8_areTold 69 = .ok (.ldc2_w 210, 3) := by decide +kernel
theorem dX8_areTold_72 : decode cX8_areTold 72 = .ok (.invokestatic 66, 3) := by decide +kernel
theorem dX8_areTold_75 : decode cX8_areTold 75 = .ok (.ifCond .eq 7, 3) := by decide +kernel
theorem dX8_areTold_78 : decode cX8_areTold 78 = .ok (.iconst 1, 1) := by decide +kernel
theorem dX8_areTold_79 : decode cX8_areTold 79 = .ok (.goto 4, 3) := by decide +kernel
theorem dX8_areTold_82 : decode cX8_areTold 82 = .ok (.iconst 0, 1) := by decide +kernel
theorem dX8_areTold_83 : decode cX8_areTold 83 = .ok (.istore 4, 2) := by decide +kernel
theorem dX8_areTold_85 : decode cX8_areTold 85 = .ok (.iload_n 3, 1) := by decide +kernel
theorem dX8_areTold_86 : decode cX8_areTold 86 = .ok (.iload 4, 2) := by decide +kernel
theorem dX8_areTold_88 : decode cX8_areTold 88 = .ok (.ifCond .eq 10, 3) := by decide +kernel
theorem dX8_areTold_91 : decode cX8_areTold 91 = .ok (.iconst 1, 1) := by decide +kernel
theorem dX8_areTold_92 : decode cX8_areTold 92 = .ok (.iload 6, 2) := by decide +kernel
theorem dX8_areTold_94 : decode cX8_areTold 94 = .ok (.ishl, 1) := by decide +kernel
theorem dX8_areTold_95 : decode cX8_areTold 95 = .ok (.goto 4, 3) := by decide +kernel
theorem dX8_areTold_98 : decode cX8_areTold 98 = .ok (.iconst 0, 1) := by decide +kernel
theorem dX8_areTold_99 : decode cX8_areTold 99 = .ok (.ior, 1) := by decide +kernel
theorem dX8_areTold_100 : decode cX8_areTold 100 = .ok (.istore_n 3, 1) := by decide +kernel
theorem dX8_areTold_101 : decode cX8_areTold 101 = .ok (.iinc 5 1, 3) := by decide +kernel
theorem dX8_areTold_104 : decode cX8_areTold 104 = .ok (.goto (-96), 3) := by decide +kernel
theorem dX8_areTold_107 : decode cX8_areTold 107 = .ok (.iload 4, 2) := by decide +kernel
theorem dX8_areTold_109 : decode cX8_areTold 109 = .ok (.ireturn, 1) := by decide +kernel
theorem dX8_areClean_0 : decode cX8_areClean 0 = .ok (.iconst 1, 1) := by decide +kernel
theorem dX8_areClean_1 : decode cX8_areClean 1 = .ok (.istore_n 3, 1) := by decide +kernel
theorem dX8_areClean_2 : decode cX8_areClean 2 = .ok (.iconst 0, 1) := by decide +kernel
theorem dX8_areClean_3 : decode cX8_areClean 3 = .ok (.istore 4, 2) := by decide +kernel
theorem dX8_areClean_5 : decode cX8_areClean 5 = .ok (.iload 4, 2) := by decide +kernel
theorem dX8_areClean_7 : decode cX8_areClean 7 = .ok (.iload_n 2, 1) := by decide +kernel
theorem dX8_areClean_8 : decode cX8_areClean 8 = .ok (.if_icmp .ge 55, 3) := by decide +kernel
theorem dX8_areClean_11 : decode cX8_areClean 11 = .ok (.iload_n 3, 1) := by decide +kernel
theorem dX8_areClean_12 : decode cX8_areClean 12 = .ok (.ifCond .eq 43, 3) := by decide +kernel
theorem dX8_areClean_15 : decode cX8_areClean 15 = .ok (.aload_n 0, 1) := by decide +kernel
theorem dX8_areClean_16 : decode cX8_areClean 16 = .ok (.aload_n 0, 1) := by decide +kernel
theorem dX8_areClean_17 : decode cX8_areClean 17 = .ok (.getfield 52, 3) := by decide +kernel
theorem dX8_areClean_20 : decode cX8_areClean 20 = .ok (.iload_n 1, 1) := by decide +kernel
theorem dX8_areClean_21 : decode cX8_areClean 21 = .ok (.iconst 2, 1) := by decide +kernel
theorem dX8_areClean_22 : decode cX8_areClean 22 = .ok (.aload_n 0, 1) := by decide +kernel
theorem dX8_areClean_23 : decode cX8_areClean 23 = .ok (.getfield 55, 3) := by decide +kernel
theorem dX8_areClean_26 : decode cX8_areClean 26 = .ok (.iload 4, 2) := by decide +kernel
theorem dX8_areClean_28 : decode cX8_areClean 28 = .ok (.iaload, 1) := by decide +kernel
theorem dX8_areClean_29 : decode cX8_areClean 29 = .ok (.imul, 1) := by decide +kernel
theorem dX8_areClean_30 : decode cX8_areClean 30 = .ok (.iadd, 1) := by decide +kernel
theorem dX8_areClean_31 : decode cX8_areClean 31 = .ok (.iaload, 1) := by decide +kernel
theorem dX8_areClean_32 : decode cX8_areClean 32 = .ok (.aload_n 0, 1) := by decide +kernel
theorem dX8_areClean_33 : decode cX8_areClean 33 = .ok (.getfield 52, 3) := by decide +kernel
theorem dX8_areClean_36 : decode cX8_areClean 36 = .ok (.iload_n 1, 1) := by decide +kernel
theorem dX8_areClean_37 : decode cX8_areClean 37 = .ok (.iconst 2, 1) := by decide +kernel
theorem dX8_areClean_38 : decode cX8_areClean 38 = .ok (.iload 4, 2) := by decide +kernel
theorem dX8_areClean_40 : decode cX8_areClean 40 = .ok (.imul, 1) := by decide +kernel
theorem dX8_areClean_41 : decode cX8_areClean 41 = .ok (.iadd, 1) := by decide +kernel
theorem dX8_areClean_42 : decode cX8_areClean 42 = .ok (.iconst 1, 1) := by decide +kernel
theorem dX8_areClean_43 : decode cX8_areClean 43 = .ok (.iadd, 1) := by decide +kernel
theorem dX8_areClean_44 : decode cX8_areClean 44 = .ok (.iaload, 1) := by decide +kernel
theorem dX8_areClean_45 : decode cX8_areClean 45 = .ok (.invokevirtual 101, 3) := by decide +kernel
theorem dX8_areClean_48 : decode cX8_areClean 48 = .ok (.ifCond .ne 7, 3) := by decide +kernel
theorem dX8_areClean_51 : decode cX8_areClean 51 = .ok (.iconst 1, 1) := by decide +kernel
theorem dX8_areClean_52 : decode cX8_areClean 52 = .ok (.goto 4, 3) := by decide +kernel
theorem dX8_areClean_55 : decode cX8_areClean 55 = .ok (.iconst 0, 1) := by decide +kernel
theorem dX8_areClean_56 : decode cX8_areClean 56 = .ok (.istore_n 3, 1) := by decide +kernel
theorem dX8_areClean_57 : decode cX8_areClean 57 = .ok (.iinc 4 1, 3) := by decide +kernel
theorem dX8_areClean_60 : decode cX8_areClean 60 = .ok (.goto (-55), 3) := by decide +kernel
theorem dX8_areClean_63 : decode cX8_areClean 63 = .ok (.iload_n 3, 1) := by decide +kernel
theorem dX8_areClean_64 : decode cX8_areClean 64 = .ok (.ireturn, 1) := by decide +kernel
theorem dX8_rings_0 : decode cX8_rings 0 = .ok (.iconst 0, 1) := by decide +kernel
theorem dX8_rings_1 : decode cX8_rings 1 = .ok (.istore_n 2, 1) := by decide +kernel
theorem dX8_rings_2 : decode cX8_rings 2 = .ok (.iconst 0, 1) := by decide +kernel
theorem dX8_rings_3 : decode cX8_rings 3 = .ok (.istore_n 3, 1) := by decide +kernel
theorem dX8_rings_4 : decode cX8_rings 4 = .ok (.iconst 0, 1) := by decide +kernel
theorem dX8_rings_5 : decode cX8_rings 5 = .ok (.istore 4, 2) := by decide +kernel
theorem dX8_rings_7 : decode cX8_rings 7 = .ok (.iload 4, 2) := by decide +kernel
theorem dX8_rings_9 : decode cX8_rings 9 = .ok (.iload_n 1, 1) := by decide +kernel
theorem dX8_rings_10 : decode cX8_rings 10 = .ok (.if_icmp .ge 58, 3) := by decide +kernel
theorem dX8_rings_13 : decode cX8_rings 13 = .ok (.iload_n 3, 1) := by decide +kernel
theorem dX8_rings_14 : decode cX8_rings 14 = .ok (.iload_n 2, 1) := by decide +kernel
theorem dX8_rings_15 : decode cX8_rings 15 = .ok (.iload 4, 2) := by decide +kernel
theorem dX8_rings_17 : decode cX8_rings 17 = .ok (.invokestatic 185, 3) := by decide +kernel
theorem dX8_rings_20 : decode cX8_rings 20 = .ok (.ifCond .eq 7, 3) := by decide +kernel
theorem dX8_rings_23 : decode cX8_rings 23 = .ok (.iconst 0, 1) := by decide +kernel
theorem dX8_rings_24 : decode cX8_rings 24 = .ok (.goto 4, 3) := by decide +kernel
theorem dX8_rings_27 : decode cX8_rings 27 = .ok (.iconst 1, 1) := by decide +kernel
theorem dX8_rings_28 : decode cX8_rings 28 = .ok (.iadd, 1) := by decide +kernel
theorem dX8_rings_29 : decode cX8_rings 29 = .ok (.istore_n 3, 1) := by decide +kernel
theorem dX8_rings_30 : decode cX8_rings 30 = .ok (.iload 4, 2) := by decide +kernel
theorem dX8_rings_32 : decode cX8_rings 32 = .ok (.istore 5, 2) := by decide +kernel
theorem dX8_rings_34 : decode cX8_rings 34 = .ok (.iload_n 2, 1) := by decide +kernel
theorem dX8_rings_35 : decode cX8_rings 35 = .ok (.iload 5, 2) := by decide +kernel
theorem dX8_rings_37 : decode cX8_rings 37 = .ok (.invokestatic 185, 3) := by decide +kernel
theorem dX8_rings_40 : decode cX8_rings 40 = .ok (.ifCond .ne 22, 3) := by decide +kernel
theorem dX8_rings_43 : decode cX8_rings 43 = .ok (.iload_n 2, 1) := by decide +kernel
theorem dX8_rings_44 : decode cX8_rings 44 = .ok (.iconst 1, 1) := by decide +kernel
theorem dX8_rings_45 : decode cX8_rings 45 = .ok (.iload 5, 2) := by decide +kernel
theorem dX8_rings_47 : decode cX8_rings 47 = .ok (.ishl, 1) := by decide +kernel
theorem dX8_rings_48 : decode cX8_rings 48 = .ok (.ior, 1) := by decide +kernel
theorem dX8_rings_49 : decode cX8_rings 49 = .ok (.istore_n 2, 1) := by decide +kernel
theorem dX8_rings_50 : decode cX8_rings 50 = .ok (.aload_n 0, 1) := by decide +kernel
theorem dX8_rings_51 : decode cX8_rings 51 = .ok (.getfield 55, 3) := by decide +kernel
theorem dX8_rings_54 : decode cX8_rings 54 = .ok (.iload 5, 2) := by decide +kernel
theorem dX8_rings_56 : decode cX8_rings 56 = .ok (.iaload, 1) := by decide +kernel
theorem dX8_rings_57 : decode cX8_rings 57 = .ok (.istore 5, 2) := by decide +kernel
theorem dX8_rings_59 : decode cX8_rings 59 = .ok (.goto (-25), 3) := by decide +kernel
theorem dX8_rings_62 : decode cX8_rings 62 = .ok (.iinc 4 1, 3) := by decide +kernel
theorem dX8_rings_65 : decode cX8_rings 65 = .ok (.goto (-58), 3) := by decide +kernel
theorem dX8_rings_68 : decode cX8_rings 68 = .ok (.iload_n 3, 1) := by decide +kernel
theorem dX8_rings_69 : decode cX8_rings 69 = .ok (.ireturn, 1) := by decide +kernel
theorem dX8_asked_0 : decode cX8_asked 0 = .ok (.iload_n 1, 1) := by decide +kernel
theorem dX8_asked_1 : decode cX8_asked 1 = .ok (.iload_n 2, 1) := by decide +kernel
theorem dX8_asked_2 : decode cX8_asked 2 = .ok (.invokestatic 230, 3) := by decide +kernel
theorem dX8_asked_5 : decode cX8_asked 5 = .ok (.ifCond .eq 33, 3) := by decide +kernel
theorem dX8_asked_8 : decode cX8_asked 8 = .ok (.iload 4, 2) := by decide +kernel
theorem dX8_asked_10 : decode cX8_asked 10 = .ok (.i2l, 1) := by decide +kernel
theorem dX8_asked_11 : decode cX8_asked 11 = .ok (.lconst 1, 1) := by decide +kernel
theorem dX8_asked_12 : decode cX8_asked 12 = .ok (.ldc2_w 239, 3) := by decide +kernel
theorem dX8_asked_15 : decode cX8_asked 15 = .ok (.invokestatic 66, 3) := by decide +kernel
theorem dX8_asked_18 : decode cX8_asked 18 = .ok (.ifCond .eq 20, 3) := by decide +kernel
theorem dX8_asked_21 : decode cX8_asked 21 = .ok (.iload 5, 2) := by decide +kernel
theorem dX8_asked_23 : decode cX8_asked 23 = .ok (.i2l, 1) := by decide +kernel
theorem dX8_asked_24 : decode cX8_asked 24 = .ok (.ldc2_w 212, 3) := by decide +kernel
theorem dX8_asked_27 : decode cX8_asked 27 = .ok (.iload 4, 2) := by decide +kernel
theorem dX8_asked_29 : decode cX8_asked 29 = .ok (.iconst 1, 1) := by decide +kernel
theorem dX8_asked_30 : decode cX8_asked 30 = .ok (.isub, 1) := by decide +kernel
theorem dX8_asked_31 : decode cX8_asked 31 = .ok (.i2l, 1) := by decide +kernel
theorem dX8_asked_32 : decode cX8_asked 32 = .ok (.invokestatic 66, 3) := by decide +kernel
theorem dX8_asked_35 : decode cX8_asked 35 = .ok (.ifCond .ne 5, 3) := by decide +kernel
theorem dX8_asked_38 : decode cX8_asked 38 = .ok (.iconst (-1), 1) := by decide +kernel
theorem dX8_asked_39 : decode cX8_asked 39 = .ok (.ireturn, 1) := by decide +kernel
theorem dX8_asked_40 : decode cX8_asked 40 = .ok (.aload_n 0, 1) := by decide +kernel
theorem dX8_asked_41 : decode cX8_asked 41 = .ok (.iload_n 1, 1) := by decide +kernel
theorem dX8_asked_42 : decode cX8_asked 42 = .ok (.iload_n 2, 1) := by decide +kernel
theorem dX8_asked_43 : decode cX8_asked 43 = .ok (.iload_n 3, 1) := by decide +kernel
theorem dX8_asked_44 : decode cX8_asked 44 = .ok (.iconst 2, 1) := by decide +kernel
theorem dX8_asked_45 : decode cX8_asked 45 = .ok (.iload 4, 2) := by decide +kernel
theorem dX8_asked_47 : decode cX8_asked 47 = .ok (.imul, 1) := by decide +kernel
theorem dX8_asked_48 : decode cX8_asked 48 = .ok (.invokevirtual 233, 3) := by decide +kernel
theorem dX8_asked_51 : decode cX8_asked 51 = .ok (.istore 6, 2) := by decide +kernel
theorem dX8_asked_53 : decode cX8_asked 53 = .ok (.iload 6, 2) := by decide +kernel
theorem dX8_asked_55 : decode cX8_asked 55 = .ok (.ifCond .ge 6, 3) := by decide +kernel
theorem dX8_asked_58 : decode cX8_asked 58 = .ok (.iload 6, 2) := by decide +kernel
theorem dX8_asked_60 : decode cX8_asked 60 = .ok (.ireturn, 1) := by decide +kernel
theorem dX8_asked_61 : decode cX8_asked 61 = .ok (.bipush 24, 2) := by decide +kernel
theorem dX8_asked_63 : decode cX8_asked 63 = .ok (.iload_n 1, 1) := by decide +kernel
theorem dX8_asked_64 : decode cX8_asked 64 = .ok (.imul, 1) := by decide +kernel
theorem dX8_asked_65 : decode cX8_asked 65 = .ok (.iload_n 3, 1) := by decide +kernel
theorem dX8_asked_66 : decode cX8_asked 66 = .ok (.iadd, 1) := by decide +kernel
theorem dX8_asked_67 : decode cX8_asked 67 = .ok (.istore 7, 2) := by decide +kernel
theorem dX8_asked_69 : decode cX8_asked 69 = .ok (.aload_n 0, 1) := by decide +kernel
theorem dX8_asked_70 : decode cX8_asked 70 = .ok (.iload 7, 2) := by decide +kernel
theorem dX8_asked_72 : decode cX8_asked 72 = .ok (.iload 4, 2) := by decide +kernel
theorem dX8_asked_74 : decode cX8_asked 74 = .ok (.invokevirtual 241, 3) := by decide +kernel
theorem dX8_asked_77 : decode cX8_asked 77 = .ok (.ifCond .ne 6, 3) := by decide +kernel
theorem dX8_asked_80 : decode cX8_asked 80 = .ok (.bipush (-2), 2) := by decide +kernel
theorem dX8_asked_82 : decode cX8_asked 82 = .ok (.ireturn, 1) := by decide +kernel
theorem dX8_asked_83 : decode cX8_asked 83 = .ok (.iconst 0, 1) := by decide +kernel
theorem dX8_asked_84 : decode cX8_asked 84 = .ok (.istore 8, 2) := by decide +kernel
theorem dX8_asked_86 : decode cX8_asked 86 = .ok (.iload 8, 2) := by decide +kernel
theorem dX8_asked_88 : decode cX8_asked 88 = .ok (.iload 4, 2) := by decide +kernel
theorem dX8_asked_90 : decode cX8_asked 90 = .ok (.if_icmp .ge 18, 3) := by decide +kernel
theorem dX8_asked_93 : decode cX8_asked 93 = .ok (.aload_n 0, 1) := by decide +kernel
theorem dX8_asked_94 : decode cX8_asked 94 = .ok (.getfield 55, 3) := by decide +kernel
theorem dX8_asked_97 : decode cX8_asked 97 = .ok (.iload 8, 2) := by decide +kernel
theorem dX8_asked_99 : decode cX8_asked 99 = .ok (.iload 8, 2) := by decide +kernel
theorem dX8_asked_101 : decode cX8_asked 101 = .ok (.iastore, 1) := by decide +kernel
theorem dX8_asked_102 : decode cX8_asked 102 = .ok (.iinc 8 1, 3) := by decide +kernel
theorem dX8_asked_105 : decode cX8_asked 105 = .ok (.goto (-19), 3) := by decide +kernel
theorem dX8_asked_108 : decode cX8_asked 108 = .ok (.bipush (-4), 2) := by decide +kernel
theorem dX8_asked_110 : decode cX8_asked 110 = .ok (.istore 8, 2) := by decide +kernel
theorem dX8_asked_112 : decode cX8_asked 112 = .ok (.iconst 1, 1) := by decide +kernel
theorem dX8_asked_113 : decode cX8_asked 113 = .ok (.istore 9, 2) := by decide +kernel
theorem dX8_asked_115 : decode cX8_asked 115 = .ok (.iload 9, 2) := by decide +kernel
theorem dX8_asked_117 : decode cX8_asked 117 = .ok (.ifCond .eq 94, 3) := by decide +kernel
theorem dX8_asked_120 : decode cX8_asked 120 = .ok (.aload_n 0, 1) := by decide +kernel
theorem dX8_asked_121 : decode cX8_asked 121 = .ok (.iload 7, 2) := by decide +kernel
theorem dX8_asked_123 : decode cX8_asked 123 = .ok (.iload 4, 2) := by decide +kernel
theorem dX8_asked_125 : decode cX8_asked 125 = .ok (.invokevirtual 244, 3) := by decide +kernel
theorem dX8_asked_128 : decode cX8_asked 128 = .ok (.ifCond .eq 15, 3) := by decide +kernel
theorem dX8_asked_131 : decode cX8_asked 131 = .ok (.iload 4, 2) := by decide +kernel
theorem dX8_asked_133 : decode cX8_asked 133 = .ok (.aload_n 0, 1) := by decide +kernel
theorem dX8_asked_134 : decode cX8_asked 134 = .ok (.iload 4, 2) := by decide +kernel
theorem dX8_asked_136 : decode cX8_asked 136 = .ok (.invokevirtual 247, 3) := by decide +kernel
theorem dX8_asked_139 : decode cX8_asked 139 = .ok (.isub, 1) := by decide +kernel
theorem dX8_asked_140 : decode cX8_asked 140 = .ok (.goto 5, 3) := by decide +kernel
theorem dX8_asked_143 : decode cX8_asked 143 = .ok (.bipush 99, 2) := by decide +kernel
theorem dX8_asked_145 : decode cX8_asked 145 = .ok (.istore 10, 2) := by decide +kernel
theorem dX8_asked_147 : decode cX8_asked 147 = .ok (.iload 10, 2) := by decide +kernel
theorem dX8_asked_149 : decode cX8_asked 149 = .ok (.bipush 99, 2) := by decide +kernel
theorem dX8_asked_151 : decode cX8_asked 151 = .ok (.if_icmp .ge 49, 3) := by decide +kernel
theorem dX8_asked_154 : decode cX8_asked 154 = .ok (.iload 8, 2) := by decide +kernel
theorem dX8_asked_156 : decode cX8_asked 156 = .ok (.ifCond .lt 10, 3) := by decide +kernel
theorem dX8_asked_159 : decode cX8_asked 159 = .ok (.iload 10, 2) := by decide +kernel
theorem dX8_asked_161 : decode cX8_asked 161 = .ok (.iload 8, 2) := by decide +kernel
theorem dX8_asked_163 : decode cX8_asked 163 = .ok (.if_icmp .ge 37, 3) := by decide +kernel
theorem dX8_asked_166 : decode cX8_asked 166 = .ok (.iload 10, 2) := by decide +kernel
theorem dX8_asked_168 : decode cX8_asked 168 = .ok (.istore 8, 2) := by decide +kernel
theorem dX8_asked_170 : decode cX8_asked 170 = .ok (.iconst 0, 1) := by decide +kernel
theorem dX8_asked_171 : decode cX8_asked 171 = .ok (.istore 11, 2) := by decide +kernel
theorem dX8_asked_173 : decode cX8_asked 173 = .ok (.iload 11, 2) := by decide +kernel
theorem dX8_asked_175 : decode cX8_asked 175 = .ok (.iload 4, 2) := by decide +kernel
theorem dX8_asked_177 : decode cX8_asked 177 = .ok (.if_icmp .ge 23, 3) := by decide +kernel
theorem dX8_asked_180 : decode cX8_asked 180 = .ok (.aload_n 0, 1) := by decide +kernel
theorem dX8_asked_181 : decode cX8_asked 181 = .ok (.getfield 58, 3) := by decide +kernel
theorem dX8_asked_184 : decode cX8_asked 184 = .ok (.iload 11, 2) := by decide +kernel
theorem dX8_asked_186 : decode cX8_asked 186 = .ok (.aload_n 0, 1) := by decide +kernel
theorem dX8_asked_187 : decode cX8_asked 187 = .ok (.getfield 55, 3) := by decide +kernel
theorem dX8_asked_190 : decode cX8_asked 190 = .ok (.iload 11, 2) := by decide +kernel
theorem dX8_asked_192 : decode cX8_asked 192 = .ok (.iaload, 1) := by decide +kernel
theorem dX8_asked_193 : decode cX8_asked 193 = .ok (.iastore, 1) := by decide +kernel
theorem dX8_asked_194 : decode cX8_asked 194 = .ok (.iinc 11 1, 3) := by decide +kernel
theorem dX8_asked_197 : decode cX8_asked 197 = .ok (.goto (-24), 3) := by decide +kernel
theorem dX8_asked_200 : decode cX8_asked 200 = .ok (.aload_n 0, 1) := by decide +kernel
theorem dX8_asked_201 : decode cX8_asked 201 = .ok (.iload 4, 2) := by decide +kernel
theorem dX8_asked_203 : decode cX8_asked 203 = .ok (.invokevirtual 250, 3) := by decide +kernel
theorem dX8_asked_206 : decode cX8_asked 206 = .ok (.istore 9, 2) := by decide +kernel
theorem dX8_asked_208 : decode cX8_asked 208 = .ok (.goto (-93), 3) := by decide +kernel
theorem dX8_asked_211 : decode cX8_asked 211 = .ok (.iload 8, 2) := by decide +kernel
theorem dX8_asked_213 : decode cX8_asked 213 = .ok (.ifCond .lt 8, 3) := by decide +kernel
theorem dX8_asked_216 : decode cX8_asked 216 = .ok (.iload 5, 2) := by decide +kernel
theorem dX8_asked_218 : decode cX8_asked 218 = .ok (.ifCond .ge 8, 3) := by decide +kernel
theorem dX8_asked_221 : decode cX8_asked 221 = .ok (.iload 8, 2) := by decide +kernel
theorem dX8_asked_223 : decode cX8_asked 223 = .ok (.goto 10, 3) := by decide +kernel
theorem dX8_asked_226 : decode cX8_asked 226 = .ok (.aload_n 0, 1) := by decide +kernel
theorem dX8_asked_227 : decode cX8_asked 227 = .ok (.getfield 58, 3) := by decide +kernel
theorem dX8_asked_230 : decode cX8_asked 230 = .ok (.iload 5, 2) := by decide +kernel
theorem dX8_asked_232 : decode cX8_asked 232 = .ok (.iaload, 1) := by decide +kernel
theorem dX8_asked_233 : decode cX8_asked 233 = .ok (.ireturn, 1) := by decide +kernel
theorem dX8_film_0 : decode cX8_film 0 = .ok (.iload_n 1, 1) := by decide +kernel
theorem dX8_film_1 : decode cX8_film 1 = .ok (.iload_n 2, 1) := by decide +kernel
theorem dX8_film_2 : decode cX8_film 2 = .ok (.invokestatic 230, 3) := by decide +kernel
theorem dX8_film_5 : decode cX8_film 5 = .ok (.ifCond .ne 5, 3) := by decide +kernel
theorem dX8_film_8 : decode cX8_film 8 = .ok (.iconst (-1), 1) := by decide +kernel
theorem dX8_film_9 : decode cX8_film 9 = .ok (.ireturn, 1) := by decide +kernel
theorem dX8_film_10 : decode cX8_film 10 = .ok (.aload_n 0, 1) := by decide +kernel
theorem dX8_film_11 : decode cX8_film 11 = .ok (.iload_n 1, 1) := by decide +kernel
theorem dX8_film_12 : decode cX8_film 12 = .ok (.iload_n 2, 1) := by decide +kernel
theorem dX8_film_13 : decode cX8_film 13 = .ok (.iload_n 3, 1) := by decide +kernel
theorem dX8_film_14 : decode cX8_film 14 = .ok (.aload_n 0, 1) := by decide +kernel
theorem dX8_film_15 : decode cX8_film 15 = .ok (.getfield 70, 3) := by decide +kernel
theorem dX8_film_18 : decode cX8_film 18 = .ok (.invokevirtual 233, 3) := by decide +kernel
theorem dX8_film_21 : decode cX8_film 21 = .ok (.istore 4, 2) := by decide +kernel
theorem dX8_film_23 : decode cX8_film 23 = .ok (.iload 4, 2) := by decide +kernel
theorem dX8_film_25 : decode cX8_film 25 = .ok (.ifCond .ge 6, 3) := by decide +kernel
theorem dX8_film_28 : decode cX8_film 28 = .ok (.iload 4, 2) := by decide +kernel
theorem dX8_film_30 : decode cX8_film 30 = .ok (.ireturn, 1) := by decide +kernel
theorem dX8_film_31 : decode cX8_film 31 = .ok (.iconst 0, 1) := by decide +kernel
theorem dX8_film_32 : decode cX8_film 32 = .ok (.istore 5, 2) := by decide +kernel
theorem dX8_film_34 : decode cX8_film 34 = .ok (.iload 5, 2) := by decide +kernel
theorem dX8_film_36 : decode cX8_film 36 = .ok (.aload_n 0, 1) := by decide +kernel
theorem dX8_film_37 : decode cX8_film 37 = .ok (.getfield 70, 3) := by decide +kernel
theorem dX8_film_40 : decode cX8_film 40 = .ok (.if_icmp .ge 30, 3) := by decide +kernel
theorem dX8_film_43 : decode cX8_film 43 = .ok (.aload_n 0, 1) := by decide +kernel
theorem dX8_film_44 : decode cX8_film 44 = .ok (.getfield 52, 3) := by decide +kernel
theorem dX8_film_47 : decode cX8_film 47 = .ok (.bipush 24, 2) := by decide +kernel
theorem dX8_film_49 : decode cX8_film 49 = .ok (.iload_n 1, 1) := by decide +kernel
theorem dX8_film_50 : decode cX8_film 50 = .ok (.imul, 1) := by decide +kernel
theorem dX8_film_51 : decode cX8_film 51 = .ok (.iload_n 3, 1) := by decide +kernel
theorem dX8_film_52 : decode cX8_film 52 = .ok (.iadd, 1) := by decide +kernel
theorem dX8_film_53 : decode cX8_film 53 = .ok (.iload 5, 2) := by decide +kernel
theorem dX8_film_55 : decode cX8_film 55 = .ok (.iadd, 1) := by decide +kernel
theorem dX8_film_56 : decode cX8_film 56 = .ok (.aload_n 0, 1) := by decide +kernel
theorem dX8_film_57 : decode cX8_film 57 = .ok (.getfield 28, 3) := by decide +kernel
theorem dX8_film_60 : decode cX8_film 60 = .ok (.iload 5, 2) := by decide +kernel
theorem dX8_film_62 : decode cX8_film 62 = .ok (.iaload, 1) := by decide +kernel
theorem dX8_film_63 : decode cX8_film 63 = .ok (.iastore, 1) := by decide +kernel
theorem dX8_film_64 : decode cX8_film 64 = .ok (.iinc 5 1, 3) := by decide +kernel
theorem dX8_film_67 : decode cX8_film 67 = .ok (.goto (-33), 3) := by decide +kernel
theorem dX8_film_70 : decode cX8_film 70 = .ok (.aload_n 0, 1) := by decide +kernel
theorem dX8_film_71 : decode cX8_film 71 = .ok (.getfield 70, 3) := by decide +kernel
theorem dX8_film_74 : decode cX8_film 74 = .ok (.ireturn, 1) := by decide +kernel
theorem dX8_copy_0 : decode cX8_copy 0 = .ok (.iload_n 1, 1) := by decide +kernel
theorem dX8_copy_1 : decode cX8_copy 1 = .ok (.i2l, 1) := by decide +kernel
theorem dX8_copy_2 : decode cX8_copy 2 = .ok (.lconst 0, 1) := by decide +kernel
theorem dX8_copy_3 : decode cX8_copy 3 = .ok (.ldc2_w 87, 3) := by decide +kernel
theorem dX8_copy_6 : decode cX8_copy 6 = .ok (.invokestatic 66, 3) := by decide +kernel
theorem dX8_copy_9 : decode cX8_copy 9 = .ok (.ifCond .eq 15, 3) := by decide +kernel
theorem dX8_copy_12 : decode cX8_copy 12 = .ok (.iload_n 3, 1) := by decide +kernel
theorem dX8_copy_13 : decode cX8_copy 13 = .ok (.i2l, 1) := by decide +kernel
theorem dX8_copy_14 : decode cX8_copy 14 = .ok (.lconst 0, 1) := by decide +kernel
theorem dX8_copy_15 : decode cX8_copy 15 = .ok (.ldc2_w 87, 3) := by decide +kernel
theorem dX8_copy_18 : decode cX8_copy 18 = .ok (.invokestatic 66, 3) := by decide +kernel
theorem dX8_copy_21 : decode cX8_copy 21 = .ok (.ifCond .ne 5, 3) := by decide +kernel
theorem dX8_copy_24 : decode cX8_copy 24 = .ok (.iconst (-1), 1) := by decide +kernel
theorem dX8_copy_25 : decode cX8_copy 25 = .ok (.ireturn, 1) := by decide +kernel
theorem dX8_copy_26 : decode cX8_copy 26 = .ok (.aload_n 0, 1) := by decide +kernel
theorem dX8_copy_27 : decode cX8_copy 27 = .ok (.getfield 46, 3) := by decide +kernel
theorem dX8_copy_30 : decode cX8_copy 30 = .ok (.iload_n 1, 1) := by decide +kernel
theorem dX8_copy_31 : decode cX8_copy 31 = .ok (.iaload, 1) := by decide +kernel
theorem dX8_copy_32 : decode cX8_copy 32 = .ok (.ifCond .lt 12, 3) := by decide +kernel
theorem dX8_copy_35 : decode cX8_copy 35 = .ok (.aload_n 0, 1) := by decide +kernel
theorem dX8_copy_36 : decode cX8_copy 36 = .ok (.getfield 46, 3) := by decide +kernel
theorem dX8_copy_39 : decode cX8_copy 39 = .ok (.iload_n 3, 1) := by decide +kernel
theorem dX8_copy_40 : decode cX8_copy 40 = .ok (.iaload, 1) := by decide +kernel
theorem dX8_copy_41 : decode cX8_copy 41 = .ok (.ifCond .ge 6, 3) := by decide +kernel
theorem dX8_copy_44 : decode cX8_copy 44 = .ok (.bipush (-11), 2) := by decide +kernel
theorem dX8_copy_46 : decode cX8_copy 46 = .ok (.ireturn, 1) := by decide +kernel
theorem dX8_copy_47 : decode cX8_copy 47 = .ok (.aload_n 0, 1) := by decide +kernel
theorem dX8_copy_48 : decode cX8_copy 48 = .ok (.getfield 46, 3) := by decide +kernel
theorem dX8_copy_51 : decode cX8_copy 51 = .ok (.iload_n 1, 1) := by decide +kernel
theorem dX8_copy_52 : decode cX8_copy 52 = .ok (.iaload, 1) := by decide +kernel
theorem dX8_copy_53 : decode cX8_copy 53 = .ok (.aload_n 0, 1) := by decide +kernel
theorem dX8_copy_54 : decode cX8_copy 54 = .ok (.getfield 46, 3) := by decide +kernel
theorem dX8_copy_57 : decode cX8_copy 57 = .ok (.iload_n 3, 1) := by decide +kernel
theorem dX8_copy_58 : decode cX8_copy 58 = .ok (.iaload, 1) := by decide +kernel
theorem dX8_copy_59 : decode cX8_copy 59 = .ok (.if_icmp .eq 6, 3) := by decide +kernel
theorem dX8_copy_62 : decode cX8_copy 62 = .ok (.bipush (-12), 2) := by decide +kernel
theorem dX8_copy_64 : decode cX8_copy 64 = .ok (.ireturn, 1) := by decide +kernel
theorem dX8_copy_65 : decode cX8_copy 65 = .ok (.iload 5, 2) := by decide +kernel
theorem dX8_copy_67 : decode cX8_copy 67 = .ok (.ifCond .lt 44, 3) := by decide +kernel
theorem dX8_copy_70 : decode cX8_copy 70 = .ok (.iload_n 2, 1) := by decide +kernel
theorem dX8_copy_71 : decode cX8_copy 71 = .ok (.i2l, 1) := by decide +kernel
theorem dX8_copy_72 : decode cX8_copy 72 = .ok (.lconst 0, 1) := by decide +kernel
theorem dX8_copy_73 : decode cX8_copy 73 = .ok (.aload_n 0, 1) := by decide +kernel
theorem dX8_copy_74 : decode cX8_copy 74 = .ok (.getfield 49, 3) := by decide +kernel
theorem dX8_copy_77 : decode cX8_copy 77 = .ok (.iload_n 1, 1) := by decide +kernel
theorem dX8_copy_78 : decode cX8_copy 78 = .ok (.iaload, 1) := by decide +kernel
theorem dX8_copy_79 : decode cX8_copy 79 = .ok (.i2l, 1) := by decide +kernel
theorem dX8_copy_80 : decode cX8_copy 80 = .ok (.iload 5, 2) := by decide +kernel
theorem dX8_copy_82 : decode cX8_copy 82 = .ok (.i2l, 1) := by decide +kernel
theorem dX8_copy_83 : decode cX8_copy 83 = .ok (.lsub, 1) := by decide +kernel
theorem dX8_copy_84 : decode cX8_copy 84 = .ok (.invokestatic 66, 3) := by decide +kernel
theorem dX8_copy_87 : decode cX8_copy 87 = .ok (.ifCond .eq 24, 3) := by decide +kernel
theorem dX8_copy_90 : decode cX8_copy 90 = .ok (.iload 4, 2) := by decide +kernel
theorem dX8_copy_92 : decode cX8_copy 92 = .ok (.i2l, 1) := by decide +kernel
theorem dX8_copy_93 : decode cX8_copy 93 = .ok (.lconst 0, 1) := by decide +kernel
theorem dX8_copy_94 : decode cX8_copy 94 = .ok (.aload_n 0, 1) := by decide +kernel
theorem dX8_copy_95 : decode cX8_copy 95 = .ok (.getfield 49, 3) := by decide +kernel
theorem dX8_copy_98 : decode cX8_copy 98 = .ok (.iload_n 3, 1) := by decide +kernel
theorem dX8_copy_99 : decode cX8_copy 99 = .ok (.iaload, 1) := by decide +kernel
theorem dX8_copy_100 : decode cX8_copy 100 = .ok (.i2l, 1) := by decide +kernel
theorem dX8_copy_101 : decode cX8_copy 101 = .ok (.iload 5, 2) := by decide +kernel
theorem dX8_copy_103 : decode cX8_copy 103 = .ok (.i2l, 1) := by decide +kernel
theorem dX8_copy_104 : decode cX8_copy 104 = .ok (.lsub, 1) := by decide +kernel
theorem dX8_copy_105 : decode cX8_copy 105 = .ok (.invokestatic 66, 3) := by decide +kernel
theorem dX8_copy_108 : decode cX8_copy 108 = .ok (.ifCond .ne 6, 3) := by decide +kernel
theorem dX8_copy_111 : decode cX8_copy 111 = .ok (.bipush (-13), 2) := by decide +kernel
theorem dX8_copy_113 : decode cX8_copy 113 = .ok (.ireturn, 1) := by decide +kernel
theorem dX8_copy_114 : decode cX8_copy 114 = .ok (.iconst 0, 1) := by decide +kernel
theorem dX8_copy_115 : decode cX8_copy 115 = .ok (.istore 6, 2) := by decide +kernel
theorem dX8_copy_117 : decode cX8_copy 117 = .ok (.iload 6, 2) := by decide +kernel
theorem dX8_copy_119 : decode cX8_copy 119 = .ok (.iload 5, 2) := by decide +kernel
theorem dX8_copy_121 : decode cX8_copy 121 = .ok (.if_icmp .ge 30, 3) := by decide +kernel
theorem dX8_copy_124 : decode cX8_copy 124 = .ok (.aload_n 0, 1) := by decide +kernel
theorem dX8_copy_125 : decode cX8_copy 125 = .ok (.getfield 61, 3) := by decide +kernel
theorem dX8_copy_128 : decode cX8_copy 128 = .ok (.iload 6, 2) := by decide +kernel
theorem dX8_copy_130 : decode cX8_copy 130 = .ok (.aload_n 0, 1) := by decide +kernel
theorem dX8_copy_131 : decode cX8_copy 131 = .ok (.getfield 52, 3) := by decide +kernel
theorem dX8_copy_134 : decode cX8_copy 134 = .ok (.bipush 24, 2) := by decide +kernel
theorem dX8_copy_136 : decode cX8_copy 136 = .ok (.iload_n 1, 1) := by decide +kernel
theorem dX8_copy_137 : decode cX8_copy 137 = .ok (.imul, 1) := by decide +kernel
theorem dX8_copy_138 : decode cX8_copy 138 = .ok (.iload_n 2, 1) := by decide +kernel
theorem dX8_copy_139 : decode cX8_copy 139 = .ok (.iadd, 1) := by decide +kernel
theorem dX8_copy_140 : decode cX8_copy 140 = .ok (.iload 6, 2) := by decide +kernel
theorem dX8_copy_142 : decode cX8_copy 142 = .ok (.iadd, 1) := by decide +kernel
theorem dX8_copy_143 : decode cX8_copy 143 = .ok (.iaload, 1) := by decide +kernel
theorem dX8_copy_144 : decode cX8_copy 144 = .ok (.iastore, 1) := by decide +kernel
theorem dX8_copy_145 : decode cX8_copy 145 = .ok (.iinc 6 1, 3) := by decide +kernel
theorem dX8_copy_148 : decode cX8_copy 148 = .ok (.goto (-31), 3) := by decide +kernel
theorem dX8_copy_151 : decode cX8_copy 151 = .ok (.iconst 0, 1) := by decide +kernel
theorem dX8_copy_152 : decode cX8_copy 152 = .ok (.istore 6, 2) := by decide +kernel
theorem dX8_copy_154 : decode cX8_copy 154 = .ok (.iload 6, 2) := by decide +kernel
theorem dX8_copy_156 : decode cX8_copy 156 = .ok (.iload 5, 2) := by decide +kernel
theorem dX8_copy_158 : decode cX8_copy 158 = .ok (.if_icmp .ge 31, 3) := by decide +kernel
theorem dX8_copy_161 : decode cX8_copy 161 = .ok (.aload_n 0, 1) := by decide +kernel
theorem dX8_copy_162 : decode cX8_copy 162 = .ok (.getfield 52, 3) := by decide +kernel
theorem dX8_copy_165 : decode cX8_copy 165 = .ok (.bipush 24, 2) := by decide +kernel
theorem dX8_copy_167 : decode cX8_copy 167 = .ok (.iload_n 3, 1) := by decide +kernel
theorem dX8_copy_168 : decode cX8_copy 168 = .ok (.imul, 1) := by decide +kernel
theorem dX8_copy_169 : decode cX8_copy 169 = .ok (.iload 4, 2) := by decide +kernel
theorem dX8_copy_171 : decode cX8_copy 171 = .ok (.iadd, 1) := by decide +kernel
theorem dX8_copy_172 : decode cX8_copy 172 = .ok (.iload 6, 2) := by decide +kernel
theorem dX8_copy_174 : decode cX8_copy 174 = .ok (.iadd, 1) := by decide +kernel
theorem dX8_copy_175 : decode cX8_copy 175 = .ok (.aload_n 0, 1) := by decide +kernel
theorem dX8_copy_176 : decode cX8_copy 176 = .ok (.getfield 61, 3) := by decide +kernel
theorem dX8_copy_179 : decode cX8_copy 179 = .ok (.iload 6, 2) := by decide +kernel
theorem dX8_copy_181 : decode cX8_copy 181 = .ok (.iaload, 1) := by decide +kernel
theorem dX8_copy_182 : decode cX8_copy 182 = .ok (.iastore, 1) := by decide +kernel
theorem dX8_copy_183 : decode cX8_copy 183 = .ok (.iinc 6 1, 3) := by decide +kernel
theorem dX8_copy_186 : decode cX8_copy 186 = .ok (.goto (-32), 3) := by decide +kernel
theorem dX8_copy_189 : decode cX8_copy 189 = .ok (.iload 5, 2) := by decide +kernel
theorem dX8_copy_191 : decode cX8_copy 191 = .ok (.ireturn, 1) := by decide +kernel
