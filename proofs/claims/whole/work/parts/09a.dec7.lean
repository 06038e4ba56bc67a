theorem dX7_init_0 : decode cX7_init 0 = .ok (.aload_n 0, 1) := by decide +kernel
theorem dX7_init_1 : decode cX7_init 1 = .ok (.invokespecial 1, 3) := by decide +kernel
theorem dX7_init_4 : decode cX7_init 4 = .ok (.aload_n 0, 1) := by decide +kernel
theorem dX7_init_5 : decode cX7_init 5 = .ok (.new 7, 3) := by decide +kernel
theorem dX7_init_8 : decode cX7_init 8 = .ok (.dup, 1) := by decide +kernel
theorem dX7_init_9 : decode cX7_init 9 = .ok (.invokespecial 9, 3) := by decide +kernel
theorem dX7_init_12 : decode cX7_init 12 = .ok (.putfield 10, 3) := by decide +kernel
theorem dX7_init_15 : decode cX7_init 15 = .ok (.aload_n 0, 1) := by decide +kernel
theorem dX7_init_16 : decode cX7_init 16 = .ok (.new 16, 3) := by decide +kernel
theorem dX7_init_19 : decode cX7_init 19 = .ok (.dup, 1) := by decide +kernel
theorem dX7_init_20 : decode cX7_init 20 = .ok (.invokespecial 18, 3) := by decide +kernel
theorem dX7_init_23 : decode cX7_init 23 = .ok (.putfield 19, 3) := by decide +kernel
theorem dX7_init_26 : decode cX7_init 26 = .ok (.aload_n 0, 1) := by decide +kernel
theorem dX7_init_27 : decode cX7_init 27 = .ok (.iconst 0, 1) := by decide +kernel
theorem dX7_init_28 : decode cX7_init 28 = .ok (.putfield 23, 3) := by decide +kernel
theorem dX7_init_31 : decode cX7_init 31 = .ok (.aload_n 0, 1) := by decide +kernel
theorem dX7_init_32 : decode cX7_init 32 = .ok (.new 7, 3) := by decide +kernel
theorem dX7_init_35 : decode cX7_init 35 = .ok (.dup, 1) := by decide +kernel
theorem dX7_init_36 : decode cX7_init 36 = .ok (.invokespecial 9, 3) := by decide +kernel
theorem dX7_init_39 : decode cX7_init 39 = .ok (.putfield 27, 3) := by decide +kernel
theorem dX7_init_42 : decode cX7_init 42 = .ok (.aload_n 0, 1) := by decide +kernel
theorem dX7_init_43 : decode cX7_init 43 = .ok (.new 16, 3) := by decide +kernel
theorem dX7_init_46 : decode cX7_init 46 = .ok (.dup, 1) := by decide +kernel
theorem dX7_init_47 : decode cX7_init 47 = .ok (.invokespecial 18, 3) := by decide +kernel
theorem dX7_init_50 : decode cX7_init 50 = .ok (.putfield 30, 3) := by decide +kernel
theorem dX7_init_53 : decode cX7_init 53 = .ok (.aload_n 0, 1) := by decide +kernel
theorem dX7_init_54 : decode cX7_init 54 = .ok (.iconst 0, 1) := by decide +kernel
theorem dX7_init_55 : decode cX7_init 55 = .ok (.putfield 33, 3) := by decide +kernel
theorem dX7_init_58 : decode cX7_init 58 = .ok (.aload_n 0, 1) := by decide +kernel
theorem dX7_init_59 : decode cX7_init 59 = .ok (.iconst 0, 1) := by decide +kernel
theorem dX7_init_60 : decode cX7_init 60 = .ok (.putfield 36, 3) := by decide +kernel
theorem dX7_init_63 : decode cX7_init 63 = .ok (.aload_n 0, 1) := by decide +kernel
theorem dX7_init_64 : decode cX7_init 64 = .ok (.new 40, 3) := by decide +kernel
theorem dX7_init_67 : decode cX7_init 67 = .ok (.dup, 1) := by decide +kernel
theorem dX7_init_68 : decode cX7_init 68 = .ok (.invokespecial 42, 3) := by decide +kernel
theorem dX7_init_71 : decode cX7_init 71 = .ok (.putfield 43, 3) := by decide +kernel
theorem dX7_init_74 : decode cX7_init 74 = .ok (.aload_n 0, 1) := by decide +kernel
theorem dX7_init_75 : decode cX7_init 75 = .ok (.new 7, 3) := by decide +kernel
theorem dX7_init_78 : decode cX7_init 78 = .ok (.dup, 1) := by decide +kernel
theorem dX7_init_79 : decode cX7_init 79 = .ok (.invokespecial 9, 3) := by decide +kernel
theorem dX7_init_82 : decode cX7_init 82 = .ok (.putfield 47, 3) := by decide +kernel
theorem dX7_init_85 : decode cX7_init 85 = .ok (.aload_n 0, 1) := by decide +kernel
theorem dX7_init_86 : decode cX7_init 86 = .ok (.new 50, 3) := by decide +kernel
theorem dX7_init_89 : decode cX7_init 89 = .ok (.dup, 1) := by decide +kernel
theorem dX7_init_90 : decode cX7_init 90 = .ok (.invokespecial 52, 3) := by decide +kernel
theorem dX7_init_93 : decode cX7_init 93 = .ok (.putfield 53, 3) := by decide +kernel
theorem dX7_init_96 : decode cX7_init 96 = .ok (.aload_n 0, 1) := by decide +kernel
theorem dX7_init_97 : decode cX7_init 97 = .ok (.new 57, 3) := by decide +kernel
theorem dX7_init_100 : decode cX7_init 100 = .ok (.dup, 1) := by decide +kernel
theorem dX7_init_101 : decode cX7_init 101 = .ok (.invokespecial 59, 3) := by decide +kernel
theorem dX7_init_104 : decode cX7_init 104 = .ok (.putfield 60, 3) := by decide +kernel
theorem dX7_init_107 : decode cX7_init 107 = .ok (.aload_n 0, 1) := by decide +kernel
theorem dX7_init_108 : decode cX7_init 108 = .ok (.new 64, 3) := by decide +kernel
theorem dX7_init_111 : decode cX7_init 111 = .ok (.dup, 1) := by decide +kernel
theorem dX7_init_112 : decode cX7_init 112 = .ok (.invokespecial 66, 3) := by decide +kernel
theorem dX7_init_115 : decode cX7_init 115 = .ok (.putfield 67, 3) := by decide +kernel
theorem dX7_init_118 : decode cX7_init 118 = .ok (.aload_n 0, 1) := by decide +kernel
theorem dX7_init_119 : decode cX7_init 119 = .ok (.iconst 4, 1) := by decide +kernel
theorem dX7_init_120 : decode cX7_init 120 = .ok (.anewarray 71, 3) := by decide +kernel
theorem dX7_init_123 : decode cX7_init 123 = .ok (.putfield 73, 3) := by decide +kernel
theorem dX7_init_126 : decode cX7_init 126 = .ok (.iconst 0, 1) := by decide +kernel
theorem dX7_init_127 : decode cX7_init 127 = .ok (.istore_n 1, 1) := by decide +kernel
theorem dX7_init_128 : decode cX7_init 128 = .ok (.iload_n 1, 1) := by decide +kernel
theorem dX7_init_129 : decode cX7_init 129 = .ok (.iconst 4, 1) := by decide +kernel
theorem dX7_init_130 : decode cX7_init 130 = .ok (.if_icmp .ge 22, 3) := by decide +kernel
theorem dX7_init_133 : decode cX7_init 133 = .ok (.aload_n 0, 1) := by decide +kernel
theorem dX7_init_134 : decode cX7_init 134 = .ok (.getfield 73, 3) := by decide +kernel
theorem dX7_init_137 : decode cX7_init 137 = .ok (.iload_n 1, 1) := by decide +kernel
theorem dX7_init_138 : decode cX7_init 138 = .ok (.new 71, 3) := by decide +kernel
theorem dX7_init_141 : decode cX7_init 141 = .ok (.dup, 1) := by decide +kernel
theorem dX7_init_142 : decode cX7_init 142 = .ok (.invokespecial 77, 3) := by decide +kernel
theorem dX7_init_145 : decode cX7_init 145 = .ok (.aastore, 1) := by decide +kernel
theorem dX7_init_146 : decode cX7_init 146 = .ok (.iinc 1 1, 3) := by decide +kernel
theorem dX7_init_149 : decode cX7_init 149 = .ok (.goto (-21), 3) := by decide +kernel
theorem dX7_init_152 : decode cX7_init 152 = .ok (.return_, 1) := by decide +kernel
theorem dX7_door_0 : decode cX7_door 0 = .ok (.iload_n 1, 1) := by decide +kernel
theorem dX7_door_1 : decode cX7_door 1 = .ok (.invokestatic 78, 3) := by decide +kernel
theorem dX7_door_4 : decode cX7_door 4 = .ok (.ifCond .eq 28, 3) := by decide +kernel
theorem dX7_door_7 : decode cX7_door 7 = .ok (.iload_n 2, 1) := by decide +kernel
theorem dX7_door_8 : decode cX7_door 8 = .ok (.invokestatic 78, 3) := by decide +kernel
theorem dX7_door_11 : decode cX7_door 11 = .ok (.ifCond .eq 21, 3) := by decide +kernel
theorem dX7_door_14 : decode cX7_door 14 = .ok (.iload_n 1, 1) := by decide +kernel
theorem dX7_door_15 : decode cX7_door 15 = .ok (.iload_n 2, 1) := by decide +kernel
theorem dX7_door_16 : decode cX7_door 16 = .ok (.invokestatic 82, 3) := by decide +kernel
theorem dX7_door_19 : decode cX7_door 19 = .ok (.ifCond .eq 13, 3) := by decide +kernel
theorem dX7_door_22 : decode cX7_door 22 = .ok (.iload_n 3, 1) := by decide +kernel
theorem dX7_door_23 : decode cX7_door 23 = .ok (.ifCond .lt 9, 3) := by decide +kernel
theorem dX7_door_26 : decode cX7_door 26 = .ok (.iload_n 3, 1) := by decide +kernel
theorem dX7_door_27 : decode cX7_door 27 = .ok (.bipush 8, 2) := by decide +kernel
theorem dX7_door_29 : decode cX7_door 29 = .ok (.if_icmp .le 5, 3) := by decide +kernel
theorem dX7_door_32 : decode cX7_door 32 = .ok (.iconst (-1), 1) := by decide +kernel
theorem dX7_door_33 : decode cX7_door 33 = .ok (.ireturn, 1) := by decide +kernel
theorem dX7_door_34 : decode cX7_door 34 = .ok (.aload_n 0, 1) := by decide +kernel
theorem dX7_door_35 : decode cX7_door 35 = .ok (.getfield 10, 3) := by decide +kernel
theorem dX7_door_38 : decode cX7_door 38 = .ok (.iload_n 1, 1) := by decide +kernel
theorem dX7_door_39 : decode cX7_door 39 = .ok (.iload_n 2, 1) := by decide +kernel
theorem dX7_door_40 : decode cX7_door 40 = .ok (.iload_n 3, 1) := by decide +kernel
theorem dX7_door_41 : decode cX7_door 41 = .ok (.invokevirtual 86, 3) := by decide +kernel
theorem dX7_door_44 : decode cX7_door 44 = .ok (.ireturn, 1) := by decide +kernel
theorem dX7_key_0 : decode cX7_key 0 = .ok (.iload_n 1, 1) := by decide +kernel
theorem dX7_key_1 : decode cX7_key 1 = .ok (.invokestatic 90, 3) := by decide +kernel
theorem dX7_key_4 : decode cX7_key 4 = .ok (.ifCond .eq 12, 3) := by decide +kernel
theorem dX7_key_7 : decode cX7_key 7 = .ok (.iload_n 2, 1) := by decide +kernel
theorem dX7_key_8 : decode cX7_key 8 = .ok (.ifCond .lt 8, 3) := by decide +kernel
theorem dX7_key_11 : decode cX7_key 11 = .ok (.iload_n 2, 1) := by decide +kernel
theorem dX7_key_12 : decode cX7_key 12 = .ok (.iconst 1, 1) := by decide +kernel
theorem dX7_key_13 : decode cX7_key 13 = .ok (.if_icmp .le 5, 3) := by decide +kernel
theorem dX7_key_16 : decode cX7_key 16 = .ok (.iconst (-1), 1) := by decide +kernel
theorem dX7_key_17 : decode cX7_key 17 = .ok (.ireturn, 1) := by decide +kernel
theorem dX7_key_18 : decode cX7_key 18 = .ok (.aload_n 0, 1) := by decide +kernel
theorem dX7_key_19 : decode cX7_key 19 = .ok (.getfield 19, 3) := by decide +kernel
theorem dX7_key_22 : decode cX7_key 22 = .ok (.iload_n 1, 1) := by decide +kernel
theorem dX7_key_23 : decode cX7_key 23 = .ok (.iload_n 2, 1) := by decide +kernel
theorem dX7_key_24 : decode cX7_key 24 = .ok (.invokevirtual 93, 3) := by decide +kernel
theorem dX7_key_27 : decode cX7_key 27 = .ok (.ireturn, 1) := by decide +kernel
theorem dX7_told_0 : decode cX7_told 0 = .ok (.aload_n 0, 1) := by decide +kernel
theorem dX7_told_1 : decode cX7_told 1 = .ok (.getfield 19, 3) := by decide +kernel
theorem dX7_told_4 : decode cX7_told 4 = .ok (.iload_n 1, 1) := by decide +kernel
theorem dX7_told_5 : decode cX7_told 5 = .ok (.invokevirtual 96, 3) := by decide +kernel
theorem dX7_told_8 : decode cX7_told 8 = .ok (.ifCond .ne 5, 3) := by decide +kernel
theorem dX7_told_11 : decode cX7_told 11 = .ok (.iconst (-1), 1) := by decide +kernel
theorem dX7_told_12 : decode cX7_told 12 = .ok (.ireturn, 1) := by decide +kernel
theorem dX7_told_13 : decode cX7_told 13 = .ok (.iload_n 2, 1) := by decide +kernel
theorem dX7_told_14 : decode cX7_told 14 = .ok (.tableswitch 84 0 4 #[34, 44, 54, 64, 74], 34) := by decide +kernel
theorem dX7_told_48 : decode cX7_told 48 = .ok (.aload_n 0, 1) := by decide +kernel
theorem dX7_told_49 : decode cX7_told 49 = .ok (.getfield 19, 3) := by decide +kernel
theorem dX7_told_52 : decode cX7_told 52 = .ok (.getfield 99, 3) := by decide +kernel
theorem dX7_told_55 : decode cX7_told 55 = .ok (.iload_n 1, 1) := by decide +kernel
theorem dX7_told_56 : decode cX7_told 56 = .ok (.iaload, 1) := by decide +kernel
theorem dX7_told_57 : decode cX7_told 57 = .ok (.ireturn, 1) := by decide +kernel
theorem dX7_told_58 : decode cX7_told 58 = .ok (.aload_n 0, 1) := by decide +kernel
theorem dX7_told_59 : decode cX7_told 59 = .ok (.getfield 19, 3) := by decide +kernel
theorem dX7_told_62 : decode cX7_told 62 = .ok (.getfield 103, 3) := by decide +kernel
theorem dX7_told_65 : decode cX7_told 65 = .ok (.iload_n 1, 1) := by decide +kernel
theorem dX7_told_66 : decode cX7_told 66 = .ok (.iaload, 1) := by decide +kernel
theorem dX7_told_67 : decode cX7_told 67 = .ok (.ireturn, 1) := by decide +kernel
theorem dX7_told_68 : decode cX7_told 68 = .ok (.aload_n 0, 1) := by decide +kernel
theorem dX7_told_69 : decode cX7_told 69 = .ok (.getfield 19, 3) := by decide +kernel
theorem dX7_told_72 : decode cX7_told 72 = .ok (.getfield 106, 3) := by decide +kernel
theorem dX7_told_75 : decode cX7_told 75 = .ok (.iload_n 1, 1) := by decide +kernel
theorem dX7_told_76 : decode cX7_told 76 = .ok (.iaload, 1) := by decide +kernel
theorem dX7_told_77 : decode cX7_told 77 = .ok (.ireturn, 1) := by decide +kernel
theorem dX7_told_78 : decode cX7_told 78 = .ok (.aload_n 0, 1) := by decide +kernel
theorem dX7_told_79 : decode cX7_told 79 = .ok (.getfield 19, 3) := by decide +kernel
theorem dX7_told_82 : decode cX7_told 82 = .ok (.getfield 109, 3) := by decide +kernel
theorem dX7_told_85 : decode cX7_told 85 = .ok (.iload_n 1, 1) := by decide +kernel
theorem dX7_told_86 : decode cX7_told 86 = .ok (.iaload, 1) := by decide +kernel
theorem dX7_told_87 : decode cX7_told 87 = .ok (.ireturn, 1) := by decide +kernel
theorem dX7_told_88 : decode cX7_told 88 = .ok (.aload_n 0, 1) := by decide +kernel
theorem dX7_told_89 : decode cX7_told 89 = .ok (.getfield 19, 3) := by decide +kernel
theorem dX7_told_92 : decode cX7_told 92 = .ok (.getfield 112, 3) := by decide +kernel
theorem dX7_told_95 : decode cX7_told 95 = .ok (.iload_n 1, 1) := by decide +kernel
theorem dX7_told_96 : decode cX7_told 96 = .ok (.iaload, 1) := by decide +kernel
theorem dX7_told_97 : decode cX7_told 97 = .ok (.ireturn, 1) := by decide +kernel
theorem dX7_told_98 : decode cX7_told 98 = .ok (.iconst (-1), 1) := by decide +kernel
theorem dX7_told_99 : decode cX7_told 99 = .ok (.ireturn, 1) := by decide +kernel
theorem dX7_of_0 : decode cX7_of 0 = .ok (.aload_n 0, 1) := by decide +kernel
theorem dX7_of_1 : decode cX7_of 1 = .ok (.getfield 10, 3) := by decide +kernel
theorem dX7_of_4 : decode cX7_of 4 = .ok (.iload_n 1, 1) := by decide +kernel
theorem dX7_of_5 : decode cX7_of 5 = .ok (.invokevirtual 115, 3) := by decide +kernel
theorem dX7_of_8 : decode cX7_of 8 = .ok (.ifCond .ne 5, 3) := by decide +kernel
theorem dX7_of_11 : decode cX7_of 11 = .ok (.iconst (-1), 1) := by decide +kernel
theorem dX7_of_12 : decode cX7_of 12 = .ok (.ireturn, 1) := by decide +kernel
theorem dX7_of_13 : decode cX7_of 13 = .ok (.iload_n 2, 1) := by decide +kernel
theorem dX7_of_14 : decode cX7_of 14 = .ok (.tableswitch 56 0 2 #[26, 36, 46], 26) := by decide +kernel
theorem dX7_of_40 : decode cX7_of 40 = .ok (.aload_n 0, 1) := by decide +kernel
theorem dX7_of_41 : decode cX7_of 41 = .ok (.getfield 10, 3) := by decide +kernel
theorem dX7_of_44 : decode cX7_of 44 = .ok (.getfield 116, 3) := by decide +kernel
theorem dX7_of_47 : decode cX7_of 47 = .ok (.iload_n 1, 1) := by decide +kernel
theorem dX7_of_48 : decode cX7_of 48 = .ok (.iaload, 1) := by decide +kernel
theorem dX7_of_49 : decode cX7_of 49 = .ok (.ireturn, 1) := by decide +kernel
theorem dX7_of_50 : decode cX7_of 50 = .ok (.aload_n 0, 1) := by decide +kernel
theorem dX7_of_51 : decode cX7_of 51 = .ok (.getfield 10, 3) := by decide +kernel
theorem dX7_of_54 : decode cX7_of 54 = .ok (.getfield 119, 3) := by decide +kernel
theorem dX7_of_57 : decode cX7_of 57 = .ok (.iload_n 1, 1) := by decide +kernel
theorem dX7_of_58 : decode cX7_of 58 = .ok (.iaload, 1) := by decide +kernel
theorem dX7_of_59 : decode cX7_of 59 = .ok (.ireturn, 1) := by decide +kernel
theorem dX7_of_60 : decode cX7_of 60 = .ok (.aload_n 0, 1) := by decide +kernel
theorem dX7_of_61 : decode cX7_of 61 = .ok (.getfield 10, 3) := by decide +kernel
theorem dX7_of_64 : decode cX7_of 64 = .ok (.getfield 122, 3) := by decide +kernel
theorem dX7_of_67 : decode cX7_of 67 = .ok (.iload_n 1, 1) := by decide +kernel
theorem dX7_of_68 : decode cX7_of 68 = .ok (.iaload, 1) := by decide +kernel
theorem dX7_of_69 : decode cX7_of 69 = .ok (.ireturn, 1) := by decide +kernel
theorem dX7_of_70 : decode cX7_of 70 = .ok (.iconst (-1), 1) := by decide +kernel
theorem dX7_of_71 : decode cX7_of 71 = .ok (.ireturn, 1) := by decide +kernel
theorem dX7_type_0 : decode cX7_type 0 = .ok (.iload_n 3, 1) := by decide +kernel
theorem dX7_type_1 : decode cX7_type 1 = .ok (.iconst 1, 1) := by decide +kernel
theorem dX7_type_2 : decode cX7_type 2 = .ok (.if_icmp .lt 9, 3) := by decide +kernel
theorem dX7_type_5 : decode cX7_type 5 = .ok (.iload_n 3, 1) := by decide +kernel
theorem dX7_type_6 : decode cX7_type 6 = .ok (.bipush 8, 2) := by decide +kernel
theorem dX7_type_8 : decode cX7_type 8 = .ok (.if_icmp .le 5, 3) := by decide +kernel
theorem dX7_type_11 : decode cX7_type 11 = .ok (.iconst (-1), 1) := by decide +kernel
theorem dX7_type_12 : decode cX7_type 12 = .ok (.ireturn, 1) := by decide +kernel
theorem dX7_type_13 : decode cX7_type 13 = .ok (.iconst 0, 1) := by decide +kernel
theorem dX7_type_14 : decode cX7_type 14 = .ok (.istore 4, 2) := by decide +kernel
theorem dX7_type_16 : decode cX7_type 16 = .ok (.iload 4, 2) := by decide +kernel
theorem dX7_type_18 : decode cX7_type 18 = .ok (.iload_n 3, 1) := by decide +kernel
theorem dX7_type_19 : decode cX7_type 19 = .ok (.if_icmp .ge 33, 3) := by decide +kernel
theorem dX7_type_22 : decode cX7_type 22 = .ok (.lload_n 1, 1) := by decide +kernel
theorem dX7_type_23 : decode cX7_type 23 = .ok (.iload 4, 2) := by decide +kernel
theorem dX7_type_25 : decode cX7_type 25 = .ok (.invokestatic 125, 3) := by decide +kernel
theorem dX7_type_28 : decode cX7_type 28 = .ok (.istore 5, 2) := by decide +kernel
theorem dX7_type_30 : decode cX7_type 30 = .ok (.iload 5, 2) := by decide +kernel
theorem dX7_type_32 : decode cX7_type 32 = .ok (.bipush 32, 2) := by decide +kernel
theorem dX7_type_34 : decode cX7_type 34 = .ok (.if_icmp .lt 10, 3) := by decide +kernel
theorem dX7_type_37 : decode cX7_type 37 = .ok (.iload 5, 2) := by decide +kernel
theorem dX7_type_39 : decode cX7_type 39 = .ok (.bipush 126, 2) := by decide +kernel
theorem dX7_type_41 : decode cX7_type 41 = .ok (.if_icmp .le 5, 3) := by decide +kernel
theorem dX7_type_44 : decode cX7_type 44 = .ok (.iconst (-1), 1) := by decide +kernel
theorem dX7_type_45 : decode cX7_type 45 = .ok (.ireturn, 1) := by decide +kernel
theorem dX7_type_46 : decode cX7_type 46 = .ok (.iinc 4 1, 3) := by decide +kernel
theorem dX7_type_49 : decode cX7_type 49 = .ok (.goto (-33), 3) := by decide +kernel
theorem dX7_type_52 : decode cX7_type 52 = .ok (.iload_n 3, 1) := by decide +kernel
theorem dX7_type_53 : decode cX7_type 53 = .ok (.sipush 160, 3) := by decide +kernel
theorem dX7_type_56 : decode cX7_type 56 = .ok (.aload_n 0, 1) := by decide +kernel
theorem dX7_type_57 : decode cX7_type 57 = .ok (.getfield 43, 3) := by decide +kernel
theorem dX7_type_60 : decode cX7_type 60 = .ok (.getfield 129, 3) := by decide +kernel
theorem dX7_type_63 : decode cX7_type 63 = .ok (.isub, 1) := by decide +kernel
theorem dX7_type_64 : decode cX7_type 64 = .ok (.if_icmp .le 6, 3) := by decide +kernel
theorem dX7_type_67 : decode cX7_type 67 = .ok (.bipush (-3), 2) := by decide +kernel
theorem dX7_type_69 : decode cX7_type 69 = .ok (.ireturn, 1) := by decide +kernel
theorem dX7_type_70 : decode cX7_type 70 = .ok (.iload_n 3, 1) := by decide +kernel
theorem dX7_type_71 : decode cX7_type 71 = .ok (.iconst 1, 1) := by decide +kernel
theorem dX7_type_72 : decode cX7_type 72 = .ok (.isub, 1) := by decide +kernel
theorem dX7_type_73 : decode cX7_type 73 = .ok (.istore 4, 2) := by decide +kernel
theorem dX7_type_75 : decode cX7_type 75 = .ok (.iload 4, 2) := by decide +kernel
theorem dX7_type_77 : decode cX7_type 77 = .ok (.ifCond .lt 22, 3) := by decide +kernel
theorem dX7_type_80 : decode cX7_type 80 = .ok (.aload_n 0, 1) := by decide +kernel
theorem dX7_type_81 : decode cX7_type 81 = .ok (.getfield 43, 3) := by decide +kernel
theorem dX7_type_84 : decode cX7_type 84 = .ok (.lload_n 1, 1) := by decide +kernel
theorem dX7_type_85 : decode cX7_type 85 = .ok (.iload 4, 2) := by decide +kernel
theorem dX7_type_87 : decode cX7_type 87 = .ok (.invokestatic 125, 3) := by decide +kernel
theorem dX7_type_90 : decode cX7_type 90 = .ok (.invokevirtual 132, 3) := by decide +kernel
theorem dX7_type_93 : decode cX7_type 93 = .ok (.iinc 4 (-1), 3) := by decide +kernel
theorem dX7_type_96 : decode cX7_type 96 = .ok (.goto (-21), 3) := by decide +kernel
theorem dX7_type_99 : decode cX7_type 99 = .ok (.aload_n 0, 1) := by decide +kernel
theorem dX7_type_100 : decode cX7_type 100 = .ok (.getfield 43, 3) := by decide +kernel
theorem dX7_type_103 : decode cX7_type 103 = .ok (.getfield 129, 3) := by decide +kernel
theorem dX7_type_106 : decode cX7_type 106 = .ok (.ireturn, 1) := by decide +kernel
theorem dX7_house_0 : decode cX7_house 0 = .ok (.aload_n 0, 1) := by decide +kernel
theorem dX7_house_1 : decode cX7_house 1 = .ok (.invokevirtual 135, 3) := by decide +kernel
theorem dX7_house_4 : decode cX7_house 4 = .ok (.istore_n 1, 1) := by decide +kernel
theorem dX7_house_5 : decode cX7_house 5 = .ok (.aload_n 0, 1) := by decide +kernel
theorem dX7_house_6 : decode cX7_house 6 = .ok (.getfield 43, 3) := by decide +kernel
theorem dX7_house_9 : decode cX7_house 9 = .ok (.invokevirtual 139, 3) := by decide +kernel
theorem dX7_house_12 : decode cX7_house 12 = .ok (.iload_n 1, 1) := by decide +kernel
theorem dX7_house_13 : decode cX7_house 13 = .ok (.ireturn, 1) := by decide +kernel
theorem dX7_week_0 : decode cX7_week 0 = .ok (.aload_n 0, 1) := by decide +kernel
theorem dX7_week_1 : decode cX7_week 1 = .ok (.iconst 0, 1) := by decide +kernel
theorem dX7_week_2 : decode cX7_week 2 = .ok (.invokevirtual 142, 3) := by decide +kernel
theorem dX7_week_5 : decode cX7_week 5 = .ok (.istore_n 1, 1) := by decide +kernel
theorem dX7_week_6 : decode cX7_week 6 = .ok (.iload_n 1, 1) := by decide +kernel
theorem dX7_week_7 : decode cX7_week 7 = .ok (.ifCond .lt 9, 3) := by decide +kernel
theorem dX7_week_10 : decode cX7_week 10 = .ok (.aload_n 0, 1) := by decide +kernel
theorem dX7_week_11 : decode cX7_week 11 = .ok (.iconst 1, 1) := by decide +kernel
theorem dX7_week_12 : decode cX7_week 12 = .ok (.invokevirtual 142, 3) := by decide +kernel
theorem dX7_week_15 : decode cX7_week 15 = .ok (.istore_n 1, 1) := by decide +kernel
theorem dX7_week_16 : decode cX7_week 16 = .ok (.aload_n 0, 1) := by decide +kernel
theorem dX7_week_17 : decode cX7_week 17 = .ok (.getfield 43, 3) := by decide +kernel
theorem dX7_week_20 : decode cX7_week 20 = .ok (.invokevirtual 139, 3) := by decide +kernel
theorem dX7_week_23 : decode cX7_week 23 = .ok (.iload_n 1, 1) := by decide +kernel
theorem dX7_week_24 : decode cX7_week 24 = .ok (.ireturn, 1) := by decide +kernel
theorem dX7_count_0 : decode cX7_count 0 = .ok (.iload_n 1, 1) := by decide +kernel
theorem dX7_count_1 : decode cX7_count 1 = .ok (.tableswitch 90 0 5 #[39, 47, 55, 63, 68, 80], 39) := by decide +kernel
theorem dX7_count_40 : decode cX7_count 40 = .ok (.aload_n 0, 1) := by decide +kernel
theorem dX7_count_41 : decode cX7_count 41 = .ok (.getfield 10, 3) := by decide +kernel
theorem dX7_count_44 : decode cX7_count 44 = .ok (.getfield 146, 3) := by decide +kernel
theorem dX7_count_47 : decode cX7_count 47 = .ok (.ireturn, 1) := by decide +kernel
theorem dX7_count_48 : decode cX7_count 48 = .ok (.aload_n 0, 1) := by decide +kernel
theorem dX7_count_49 : decode cX7_count 49 = .ok (.getfield 19, 3) := by decide +kernel
theorem dX7_count_52 : decode cX7_count 52 = .ok (.getfield 149, 3) := by decide +kernel
theorem dX7_count_55 : decode cX7_count 55 = .ok (.ireturn, 1) := by decide +kernel
theorem dX7_count_56 : decode cX7_count 56 = .ok (.aload_n 0, 1) := by decide +kernel
theorem dX7_count_57 : decode cX7_count 57 = .ok (.getfield 19, 3) := by decide +kernel
theorem dX7_count_60 : decode cX7_count 60 = .ok (.invokevirtual 150, 3) := by decide +kernel
theorem dX7_count_63 : decode cX7_count 63 = .ok (.ireturn, 1) := by decide +kernel
theorem dX7_count_64 : decode cX7_count 64 = .ok (.aload_n 0, 1) := by decide +kernel
theorem dX7_count_65 : decode cX7_count 65 = .ok (.getfield 23, 3) := by decide +kernel
theorem dX7_count_68 : decode cX7_count 68 = .ok (.ireturn, 1) := by decide +kernel
theorem dX7_count_69 : decode cX7_count 69 = .ok (.aload_n 0, 1) := by decide +kernel
theorem dX7_count_70 : decode cX7_count 70 = .ok (.getfield 19, 3) := by decide +kernel
theorem dX7_count_73 : decode cX7_count 73 = .ok (.aload_n 0, 1) := by decide +kernel
theorem dX7_count_74 : decode cX7_count 74 = .ok (.getfield 23, 3) := by decide +kernel
theorem dX7_count_77 : decode cX7_count 77 = .ok (.invokevirtual 153, 3) := by decide +kernel
theorem dX7_count_80 : decode cX7_count 80 = .ok (.ireturn, 1) := by decide +kernel
theorem dX7_count_81 : decode cX7_count 81 = .ok (.aload_n 0, 1) := by decide +kernel
theorem dX7_count_82 : decode cX7_count 82 = .ok (.getfield 10, 3) := by decide +kernel
theorem dX7_count_85 : decode cX7_count 85 = .ok (.bipush 10, 2) := by decide +kernel
theorem dX7_count_87 : decode cX7_count 87 = .ok (.invokevirtual 157, 3) := by decide +kernel
theorem dX7_count_90 : decode cX7_count 90 = .ok (.ireturn, 1) := by decide +kernel
theorem dX7_count_91 : decode cX7_count 91 = .ok (.iconst (-1), 1) := by decide +kernel
theorem dX7_count_92 : decode cX7_count 92 = .ok (.ireturn, 1) := by decide +kernel
theorem dX7_visit_0 : decode cX7_visit 0 = .ok (.iload_n 1, 1) := by decide +kernel
theorem dX7_visit_1 : decode cX7_visit 1 = .ok (.invokestatic 160, 3) := by decide +kernel
theorem dX7_visit_4 : decode cX7_visit 4 = .ok (.ifCond .eq 17, 3) := by decide +kernel
theorem dX7_visit_7 : decode cX7_visit 7 = .ok (.iload_n 2, 1) := by decide +kernel
theorem dX7_visit_8 : decode cX7_visit 8 = .ok (.invokestatic 78, 3) := by decide +kernel
theorem dX7_visit_11 : decode cX7_visit 11 = .ok (.ifCond .eq 10, 3) := by decide +kernel
theorem dX7_visit_14 : decode cX7_visit 14 = .ok (.iload_n 3, 1) := by decide +kernel
theorem dX7_visit_15 : decode cX7_visit 15 = .ok (.invokestatic 163, 3) := by decide +kernel
theorem dX7_visit_18 : decode cX7_visit 18 = .ok (.ifCond .ne 5, 3) := by decide +kernel
theorem dX7_visit_21 : decode cX7_visit 21 = .ok (.iconst (-1), 1) := by decide +kernel
theorem dX7_visit_22 : decode cX7_visit 22 = .ok (.ireturn, 1) := by decide +kernel
theorem dX7_visit_23 : decode cX7_visit 23 = .ok (.aload_n 0, 1) := by decide +kernel
theorem dX7_visit_24 : decode cX7_visit 24 = .ok (.getfield 19, 3) := by decide +kernel
theorem dX7_visit_27 : decode cX7_visit 27 = .ok (.iload_n 1, 1) := by decide +kernel
theorem dX7_visit_28 : decode cX7_visit 28 = .ok (.iconst 0, 1) := by decide +kernel
theorem dX7_visit_29 : decode cX7_visit 29 = .ok (.invokevirtual 166, 3) := by decide +kernel
theorem dX7_visit_32 : decode cX7_visit 32 = .ok (.istore 4, 2) := by decide +kernel
theorem dX7_visit_34 : decode cX7_visit 34 = .ok (.aload_n 0, 1) := by decide +kernel
theorem dX7_visit_35 : decode cX7_visit 35 = .ok (.getfield 60, 3) := by decide +kernel
theorem dX7_visit_38 : decode cX7_visit 38 = .ok (.aload_n 0, 1) := by decide +kernel
theorem dX7_visit_39 : decode cX7_visit 39 = .ok (.getfield 10, 3) := by decide +kernel
theorem dX7_visit_42 : decode cX7_visit 42 = .ok (.iload_n 2, 1) := by decide +kernel
theorem dX7_visit_43 : decode cX7_visit 43 = .ok (.iload 4, 2) := by decide +kernel
theorem dX7_visit_45 : decode cX7_visit 45 = .ok (.invokevirtual 170, 3) := by decide +kernel
theorem dX7_visit_48 : decode cX7_visit 48 = .ok (.aload_n 0, 1) := by decide +kernel
theorem dX7_visit_49 : decode cX7_visit 49 = .ok (.getfield 60, 3) := by decide +kernel
theorem dX7_visit_52 : decode cX7_visit 52 = .ok (.getfield 174, 3) := by decide +kernel
theorem dX7_visit_55 : decode cX7_visit 55 = .ok (.iconst 0, 1) := by decide +kernel
theorem dX7_visit_56 : decode cX7_visit 56 = .ok (.iaload, 1) := by decide +kernel
theorem dX7_visit_57 : decode cX7_visit 57 = .ok (.istore 5, 2) := by decide +kernel
theorem dX7_visit_59 : decode cX7_visit 59 = .ok (.iload 5, 2) := by decide +kernel
theorem dX7_visit_61 : decode cX7_visit 61 = .ok (.iconst (-1), 1) := by decide +kernel
theorem dX7_visit_62 : decode cX7_visit 62 = .ok (.if_icmp .ne 6, 3) := by decide +kernel
theorem dX7_visit_65 : decode cX7_visit 65 = .ok (.bipush (-2), 2) := by decide +kernel
theorem dX7_visit_67 : decode cX7_visit 67 = .ok (.ireturn, 1) := by decide +kernel
theorem dX7_visit_68 : decode cX7_visit 68 = .ok (.aload_n 0, 1) := by decide +kernel
theorem dX7_visit_69 : decode cX7_visit 69 = .ok (.getfield 19, 3) := by decide +kernel
theorem dX7_visit_72 : decode cX7_visit 72 = .ok (.aload_n 0, 1) := by decide +kernel
theorem dX7_visit_73 : decode cX7_visit 73 = .ok (.getfield 60, 3) := by decide +kernel
theorem dX7_visit_76 : decode cX7_visit 76 = .ok (.aload_n 0, 1) := by decide +kernel
theorem dX7_visit_77 : decode cX7_visit 77 = .ok (.getfield 10, 3) := by decide +kernel
theorem dX7_visit_80 : decode cX7_visit 80 = .ok (.iload 4, 2) := by decide +kernel
theorem dX7_visit_82 : decode cX7_visit 82 = .ok (.invokevirtual 177, 3) := by decide +kernel
theorem dX7_visit_85 : decode cX7_visit 85 = .ok (.iload_n 3, 1) := by decide +kernel
theorem dX7_visit_86 : decode cX7_visit 86 = .ok (.aload_n 0, 1) := by decide +kernel
theorem dX7_visit_87 : decode cX7_visit 87 = .ok (.getfield 23, 3) := by decide +kernel
theorem dX7_visit_90 : decode cX7_visit 90 = .ok (.invokevirtual 181, 3) := by decide +kernel
theorem dX7_visit_93 : decode cX7_visit 93 = .ok (.iconst 2, 1) := by decide +kernel
theorem dX7_visit_94 : decode cX7_visit 94 = .ok (.iload 5, 2) := by decide +kernel
theorem dX7_visit_96 : decode cX7_visit 96 = .ok (.imul, 1) := by decide +kernel
theorem dX7_visit_97 : decode cX7_visit 97 = .ok (.iload_n 3, 1) := by decide +kernel
theorem dX7_visit_98 : decode cX7_visit 98 = .ok (.iadd, 1) := by decide +kernel
theorem dX7_visit_99 : decode cX7_visit 99 = .ok (.ireturn, 1) := by decide +kernel
theorem dX7_wash_0 : decode cX7_wash 0 = .ok (.iload_n 1, 1) := by decide +kernel
theorem dX7_wash_1 : decode cX7_wash 1 = .ok (.invokestatic 160, 3) := by decide +kernel
theorem dX7_wash_4 : decode cX7_wash 4 = .ok (.ifCond .eq 14, 3) := by decide +kernel
theorem dX7_wash_7 : decode cX7_wash 7 = .ok (.aload_n 0, 1) := by decide +kernel
theorem dX7_wash_8 : decode cX7_wash 8 = .ok (.getfield 19, 3) := by decide +kernel
theorem dX7_wash_11 : decode cX7_wash 11 = .ok (.iload_n 2, 1) := by decide +kernel
theorem dX7_wash_12 : decode cX7_wash 12 = .ok (.invokevirtual 96, 3) := by decide +kernel
theorem dX7_wash_15 : decode cX7_wash 15 = .ok (.ifCond .ne 5, 3) := by decide +kernel
theorem dX7_wash_18 : decode cX7_wash 18 = .ok (.iconst (-1), 1) := by decide +kernel
theorem dX7_wash_19 : decode cX7_wash 19 = .ok (.ireturn, 1) := by decide +kernel
theorem dX7_wash_20 : decode cX7_wash 20 = .ok (.aload_n 0, 1) := by decide +kernel
theorem dX7_wash_21 : decode cX7_wash 21 = .ok (.getfield 19, 3) := by decide +kernel
theorem dX7_wash_24 : decode cX7_wash 24 = .ok (.getfield 106, 3) := by decide +kernel
theorem dX7_wash_27 : decode cX7_wash 27 = .ok (.iload_n 2, 1) := by decide +kernel
theorem dX7_wash_28 : decode cX7_wash 28 = .ok (.iaload, 1) := by decide +kernel
theorem dX7_wash_29 : decode cX7_wash 29 = .ok (.iload_n 1, 1) := by decide +kernel
theorem dX7_wash_30 : decode cX7_wash 30 = .ok (.if_icmp .ne 16, 3) := by decide +kernel
theorem dX7_wash_33 : decode cX7_wash 33 = .ok (.aload_n 0, 1) := by decide +kernel
theorem dX7_wash_34 : decode cX7_wash 34 = .ok (.getfield 19, 3) := by decide +kernel
theorem dX7_wash_37 : decode cX7_wash 37 = .ok (.getfield 99, 3) := by decide +kernel
theorem dX7_wash_40 : decode cX7_wash 40 = .ok (.iload_n 2, 1) := by decide +kernel
theorem dX7_wash_41 : decode cX7_wash 41 = .ok (.iaload, 1) := by decide +kernel
theorem dX7_wash_42 : decode cX7_wash 42 = .ok (.iconst 3, 1) := by decide +kernel
theorem dX7_wash_43 : decode cX7_wash 43 = .ok (.if_icmp .eq 6, 3) := by decide +kernel
theorem dX7_wash_46 : decode cX7_wash 46 = .ok (.bipush (-2), 2) := by decide +kernel
theorem dX7_wash_48 : decode cX7_wash 48 = .ok (.ireturn, 1) := by decide +kernel
theorem dX7_wash_49 : decode cX7_wash 49 = .ok (.aload_n 0, 1) := by decide +kernel
theorem dX7_wash_50 : decode cX7_wash 50 = .ok (.getfield 19, 3) := by decide +kernel
theorem dX7_wash_53 : decode cX7_wash 53 = .ok (.iload_n 2, 1) := by decide +kernel
theorem dX7_wash_54 : decode cX7_wash 54 = .ok (.invokevirtual 185, 3) := by decide +kernel
theorem dX7_wash_57 : decode cX7_wash 57 = .ok (.aload_n 0, 1) := by decide +kernel
theorem dX7_wash_58 : decode cX7_wash 58 = .ok (.getfield 19, 3) := by decide +kernel
theorem dX7_wash_61 : decode cX7_wash 61 = .ok (.getfield 109, 3) := by decide +kernel
theorem dX7_wash_64 : decode cX7_wash 64 = .ok (.iload_n 2, 1) := by decide +kernel
theorem dX7_wash_65 : decode cX7_wash 65 = .ok (.iaload, 1) := by decide +kernel
theorem dX7_wash_66 : decode cX7_wash 66 = .ok (.ireturn, 1) := by decide +kernel
theorem dX7_change_0 : decode cX7_change 0 = .ok (.aload_n 0, 1) := by decide +kernel
theorem dX7_change_1 : decode cX7_change 1 = .ok (.getfield 19, 3) := by decide +kernel
theorem dX7_change_4 : decode cX7_change 4 = .ok (.iload_n 1, 1) := by decide +kernel
theorem dX7_change_5 : decode cX7_change 5 = .ok (.invokevirtual 96, 3) := by decide +kernel
theorem dX7_change_8 : decode cX7_change 8 = .ok (.ifCond .eq 12, 3) := by decide +kernel
theorem dX7_change_11 : decode cX7_change 11 = .ok (.iload_n 2, 1) := by decide +kernel
theorem dX7_change_12 : decode cX7_change 12 = .ok (.ifCond .lt 8, 3) := by decide +kernel
theorem dX7_change_15 : decode cX7_change 15 = .ok (.iload_n 2, 1) := by decide +kernel
theorem dX7_change_16 : decode cX7_change 16 = .ok (.iconst 4, 1) := by decide +kernel
theorem dX7_change_17 : decode cX7_change 17 = .ok (.if_icmp .le 5, 3) := by decide +kernel
theorem dX7_change_20 : decode cX7_change 20 = .ok (.iconst (-1), 1) := by decide +kernel
theorem dX7_change_21 : decode cX7_change 21 = .ok (.ireturn, 1) := by decide +kernel
theorem dX7_change_22 : decode cX7_change 22 = .ok (.aload_n 0, 1) := by decide +kernel
theorem dX7_change_23 : decode cX7_change 23 = .ok (.getfield 19, 3) := by decide +kernel
theorem dX7_change_26 : decode cX7_change 26 = .ok (.getfield 106, 3) := by decide +kernel
theorem dX7_change_29 : decode cX7_change 29 = .ok (.iload_n 1, 1) := by decide +kernel
theorem dX7_change_30 : decode cX7_change 30 = .ok (.iaload, 1) := by decide +kernel
theorem dX7_change_31 : decode cX7_change 31 = .ok (.istore_n 3, 1) := by decide +kernel
theorem dX7_change_32 : decode cX7_change 32 = .ok (.iload_n 3, 1) := by decide +kernel
theorem dX7_change_33 : decode cX7_change 33 = .ok (.iload_n 2, 1) := by decide +kernel
theorem dX7_change_34 : decode cX7_change 34 = .ok (.if_icmp .ne 6, 3) := by decide +kernel
theorem dX7_change_37 : decode cX7_change 37 = .ok (.bipush (-2), 2) := by decide +kernel
theorem dX7_change_39 : decode cX7_change 39 = .ok (.ireturn, 1) := by decide +kernel
theorem dX7_change_40 : decode cX7_change 40 = .ok (.aload_n 0, 1) := by decide +kernel
theorem dX7_change_41 : decode cX7_change 41 = .ok (.getfield 19, 3) := by decide +kernel
theorem dX7_change_44 : decode cX7_change 44 = .ok (.getfield 106, 3) := by decide +kernel
theorem dX7_change_47 : decode cX7_change 47 = .ok (.iload_n 1, 1) := by decide +kernel
theorem dX7_change_48 : decode cX7_change 48 = .ok (.iload_n 2, 1) := by decide +kernel
theorem dX7_change_49 : decode cX7_change 49 = .ok (.iastore, 1) := by decide +kernel
theorem dX7_change_50 : decode cX7_change 50 = .ok (.iload_n 3, 1) := by decide +kernel
theorem dX7_change_51 : decode cX7_change 51 = .ok (.ireturn, 1) := by decide +kernel
theorem dX7_next_0 : decode cX7_next 0 = .ok (.aload_n 0, 1) := by decide +kernel
theorem dX7_next_1 : decode cX7_next 1 = .ok (.getfield 23, 3) := by decide +kernel
theorem dX7_next_4 : decode cX7_next 4 = .ok (.sipush 999, 3) := by decide +kernel
theorem dX7_next_7 : decode cX7_next 7 = .ok (.if_icmp .lt 6, 3) := by decide +kernel
theorem dX7_next_10 : decode cX7_next 10 = .ok (.bipush (-3), 2) := by decide +kernel
theorem dX7_next_12 : decode cX7_next 12 = .ok (.ireturn, 1) := by decide +kernel
theorem dX7_next_13 : decode cX7_next 13 = .ok (.aload_n 0, 1) := by decide +kernel
theorem dX7_next_14 : decode cX7_next 14 = .ok (.dup, 1) := by decide +kernel
theorem dX7_next_15 : decode cX7_next 15 = .ok (.getfield 23, 3) := by decide +kernel
theorem dX7_next_18 : decode cX7_next 18 = .ok (.iconst 1, 1) := by decide +kernel
theorem dX7_next_19 : decode cX7_next 19 = .ok (.iadd, 1) := by decide +kernel
theorem dX7_next_20 : decode cX7_next 20 = .ok (.putfield 23, 3) := by decide +kernel
theorem dX7_next_23 : decode cX7_next 23 = .ok (.aload_n 0, 1) := by decide +kernel
theorem dX7_next_24 : decode cX7_next 24 = .ok (.getfield 23, 3) := by decide +kernel
theorem dX7_next_27 : decode cX7_next 27 = .ok (.ireturn, 1) := by decide +kernel
theorem dX7_shown_0 : decode cX7_shown 0 = .ok (.aload_n 0, 1) := by decide +kernel
theorem dX7_shown_1 : decode cX7_shown 1 = .ok (.getfield 19, 3) := by decide +kernel
theorem dX7_shown_4 : decode cX7_shown 4 = .ok (.iload_n 1, 1) := by decide +kernel
theorem dX7_shown_5 : decode cX7_shown 5 = .ok (.invokevirtual 96, 3) := by decide +kernel
theorem dX7_shown_8 : decode cX7_shown 8 = .ok (.ifCond .eq 11, 3) := by decide +kernel
theorem dX7_shown_11 : decode cX7_shown 11 = .ok (.aload_n 0, 1) := by decide +kernel
theorem dX7_shown_12 : decode cX7_shown 12 = .ok (.iload_n 2, 1) := by decide +kernel
theorem dX7_shown_13 : decode cX7_shown 13 = .ok (.invokevirtual 188, 3) := by decide +kernel
theorem dX7_shown_16 : decode cX7_shown 16 = .ok (.ifCond .ne 5, 3) := by decide +kernel
theorem dX7_shown_19 : decode cX7_shown 19 = .ok (.iconst (-1), 1) := by decide +kernel
theorem dX7_shown_20 : decode cX7_shown 20 = .ok (.ireturn, 1) := by decide +kernel
theorem dX7_shown_21 : decode cX7_shown 21 = .ok (.aload_n 0, 1) := by decide +kernel
theorem dX7_shown_22 : decode cX7_shown 22 = .ok (.getfield 19, 3) := by decide +kernel
theorem dX7_shown_25 : decode cX7_shown 25 = .ok (.iload_n 1, 1) := by decide +kernel
theorem dX7_shown_26 : decode cX7_shown 26 = .ok (.iload_n 2, 1) := by decide +kernel
theorem dX7_shown_27 : decode cX7_shown 27 = .ok (.invokevirtual 191, 3) := by decide +kernel
theorem dX7_shown_30 : decode cX7_shown 30 = .ok (.ireturn, 1) := by decide +kernel
theorem dX7_seen_0 : decode cX7_seen 0 = .ok (.iload_n 1, 1) := by decide +kernel
theorem dX7_seen_1 : decode cX7_seen 1 = .ok (.invokestatic 160, 3) := by decide +kernel
theorem dX7_seen_4 : decode cX7_seen 4 = .ok (.ifCond .eq 19, 3) := by decide +kernel
theorem dX7_seen_7 : decode cX7_seen 7 = .ok (.iload_n 2, 1) := by decide +kernel
theorem dX7_seen_8 : decode cX7_seen 8 = .ok (.invokestatic 78, 3) := by decide +kernel
theorem dX7_seen_11 : decode cX7_seen 11 = .ok (.ifCond .eq 12, 3) := by decide +kernel
theorem dX7_seen_14 : decode cX7_seen 14 = .ok (.iload_n 3, 1) := by decide +kernel
theorem dX7_seen_15 : decode cX7_seen 15 = .ok (.ifCond .lt 8, 3) := by decide +kernel
theorem dX7_seen_18 : decode cX7_seen 18 = .ok (.iload_n 3, 1) := by decide +kernel
theorem dX7_seen_19 : decode cX7_seen 19 = .ok (.iconst 1, 1) := by decide +kernel
theorem dX7_seen_20 : decode cX7_seen 20 = .ok (.if_icmp .le 5, 3) := by decide +kernel
theorem dX7_seen_23 : decode cX7_seen 23 = .ok (.iconst (-1), 1) := by decide +kernel
theorem dX7_seen_24 : decode cX7_seen 24 = .ok (.ireturn, 1) := by decide +kernel
theorem dX7_seen_25 : decode cX7_seen 25 = .ok (.aload_n 0, 1) := by decide +kernel
theorem dX7_seen_26 : decode cX7_seen 26 = .ok (.getfield 60, 3) := by decide +kernel
theorem dX7_seen_29 : decode cX7_seen 29 = .ok (.aload_n 0, 1) := by decide +kernel
theorem dX7_seen_30 : decode cX7_seen 30 = .ok (.getfield 10, 3) := by decide +kernel
theorem dX7_seen_33 : decode cX7_seen 33 = .ok (.iconst 0, 1) := by decide +kernel
theorem dX7_seen_34 : decode cX7_seen 34 = .ok (.aload_n 0, 1) := by decide +kernel
theorem dX7_seen_35 : decode cX7_seen 35 = .ok (.getfield 19, 3) := by decide +kernel
theorem dX7_seen_38 : decode cX7_seen 38 = .ok (.iload_n 1, 1) := by decide +kernel
theorem dX7_seen_39 : decode cX7_seen 39 = .ok (.iload_n 3, 1) := by decide +kernel
theorem dX7_seen_40 : decode cX7_seen 40 = .ok (.iconst 1, 1) := by decide +kernel
theorem dX7_seen_41 : decode cX7_seen 41 = .ok (.if_icmp .ne 7, 3) := by decide +kernel
theorem dX7_seen_44 : decode cX7_seen 44 = .ok (.iconst 1, 1) := by decide +kernel
theorem dX7_seen_45 : decode cX7_seen 45 = .ok (.goto 4, 3) := by decide +kernel
theorem dX7_seen_48 : decode cX7_seen 48 = .ok (.iconst 0, 1) := by decide +kernel
theorem dX7_seen_49 : decode cX7_seen 49 = .ok (.invokevirtual 166, 3) := by decide +kernel
theorem dX7_seen_52 : decode cX7_seen 52 = .ok (.invokevirtual 170, 3) := by decide +kernel
theorem dX7_seen_55 : decode cX7_seen 55 = .ok (.aload_n 0, 1) := by decide +kernel
theorem dX7_seen_56 : decode cX7_seen 56 = .ok (.getfield 60, 3) := by decide +kernel
theorem dX7_seen_59 : decode cX7_seen 59 = .ok (.getfield 174, 3) := by decide +kernel
theorem dX7_seen_62 : decode cX7_seen 62 = .ok (.iload_n 2, 1) := by decide +kernel
theorem dX7_seen_63 : decode cX7_seen 63 = .ok (.iaload, 1) := by decide +kernel
theorem dX7_seen_64 : decode cX7_seen 64 = .ok (.istore 4, 2) := by decide +kernel
theorem dX7_seen_66 : decode cX7_seen 66 = .ok (.iload 4, 2) := by decide +kernel
theorem dX7_seen_68 : decode cX7_seen 68 = .ok (.iconst (-1), 1) := by decide +kernel
theorem dX7_seen_69 : decode cX7_seen 69 = .ok (.if_icmp .ne 8, 3) := by decide +kernel
theorem dX7_seen_72 : decode cX7_seen 72 = .ok (.bipush (-4), 2) := by decide +kernel
theorem dX7_seen_74 : decode cX7_seen 74 = .ok (.goto 7, 3) := by decide +kernel
theorem dX7_seen_77 : decode cX7_seen 77 = .ok (.iconst 2, 1) := by decide +kernel
theorem dX7_seen_78 : decode cX7_seen 78 = .ok (.iload 4, 2) := by decide +kernel
theorem dX7_seen_80 : decode cX7_seen 80 = .ok (.imul, 1) := by decide +kernel
theorem dX7_seen_81 : decode cX7_seen 81 = .ok (.ireturn, 1) := by decide +kernel
theorem dX7_reach_0 : decode cX7_reach 0 = .ok (.iload_n 1, 1) := by decide +kernel
theorem dX7_reach_1 : decode cX7_reach 1 = .ok (.ifCond .lt 16, 3) := by decide +kernel
theorem dX7_reach_4 : decode cX7_reach 4 = .ok (.iload_n 1, 1) := by decide +kernel
theorem dX7_reach_5 : decode cX7_reach 5 = .ok (.iconst 1, 1) := by decide +kernel
theorem dX7_reach_6 : decode cX7_reach 6 = .ok (.aload_n 0, 1) := by decide +kernel
theorem dX7_reach_7 : decode cX7_reach 7 = .ok (.getfield 19, 3) := by decide +kernel
theorem dX7_reach_10 : decode cX7_reach 10 = .ok (.getfield 149, 3) := by decide +kernel
theorem dX7_reach_13 : decode cX7_reach 13 = .ok (.ishl, 1) := by decide +kernel
theorem dX7_reach_14 : decode cX7_reach 14 = .ok (.if_icmp .lt 5, 3) := by decide +kernel
theorem dX7_reach_17 : decode cX7_reach 17 = .ok (.iconst (-1), 1) := by decide +kernel
theorem dX7_reach_18 : decode cX7_reach 18 = .ok (.ireturn, 1) := by decide +kernel
theorem dX7_reach_19 : decode cX7_reach 19 = .ok (.aload_n 0, 1) := by decide +kernel
theorem dX7_reach_20 : decode cX7_reach 20 = .ok (.getfield 60, 3) := by decide +kernel
theorem dX7_reach_23 : decode cX7_reach 23 = .ok (.aload_n 0, 1) := by decide +kernel
theorem dX7_reach_24 : decode cX7_reach 24 = .ok (.getfield 10, 3) := by decide +kernel
theorem dX7_reach_27 : decode cX7_reach 27 = .ok (.iconst 0, 1) := by decide +kernel
theorem dX7_reach_28 : decode cX7_reach 28 = .ok (.iload_n 1, 1) := by decide +kernel
theorem dX7_reach_29 : decode cX7_reach 29 = .ok (.invokevirtual 170, 3) := by decide +kernel
theorem dX7_reach_32 : decode cX7_reach 32 = .ok (.iconst 0, 1) := by decide +kernel
theorem dX7_reach_33 : decode cX7_reach 33 = .ok (.istore_n 2, 1) := by decide +kernel
theorem dX7_reach_34 : decode cX7_reach 34 = .ok (.iconst 0, 1) := by decide +kernel
theorem dX7_reach_35 : decode cX7_reach 35 = .ok (.istore_n 3, 1) := by decide +kernel
theorem dX7_reach_36 : decode cX7_reach 36 = .ok (.iload_n 3, 1) := by decide +kernel
theorem dX7_reach_37 : decode cX7_reach 37 = .ok (.bipush 11, 2) := by decide +kernel
theorem dX7_reach_39 : decode cX7_reach 39 = .ok (.if_icmp .ge 28, 3) := by decide +kernel
theorem dX7_reach_42 : decode cX7_reach 42 = .ok (.aload_n 0, 1) := by decide +kernel
theorem dX7_reach_43 : decode cX7_reach 43 = .ok (.getfield 60, 3) := by decide +kernel
theorem dX7_reach_46 : decode cX7_reach 46 = .ok (.getfield 174, 3) := by decide +kernel
theorem dX7_reach_49 : decode cX7_reach 49 = .ok (.iload_n 3, 1) := by decide +kernel
theorem dX7_reach_50 : decode cX7_reach 50 = .ok (.iaload, 1) := by decide +kernel
theorem dX7_reach_51 : decode cX7_reach 51 = .ok (.iconst (-1), 1) := by decide +kernel
theorem dX7_reach_52 : decode cX7_reach 52 = .ok (.if_icmp .eq 9, 3) := by decide +kernel
theorem dX7_reach_55 : decode cX7_reach 55 = .ok (.iload_n 2, 1) := by decide +kernel
theorem dX7_reach_56 : decode cX7_reach 56 = .ok (.iconst 1, 1) := by decide +kernel
theorem dX7_reach_57 : decode cX7_reach 57 = .ok (.iload_n 3, 1) := by decide +kernel
theorem dX7_reach_58 : decode cX7_reach 58 = .ok (.ishl, 1) := by decide +kernel
theorem dX7_reach_59 : decode cX7_reach 59 = .ok (.ior, 1) := by decide +kernel
theorem dX7_reach_60 : decode cX7_reach 60 = .ok (.istore_n 2, 1) := by decide +kernel
theorem dX7_reach_61 : decode cX7_reach 61 = .ok (.iinc 3 1, 3) := by decide +kernel
theorem dX7_reach_64 : decode cX7_reach 64 = .ok (.goto (-28), 3) := by decide +kernel
theorem dX7_reach_67 : decode cX7_reach 67 = .ok (.iload_n 2, 1) := by decide +kernel
theorem dX7_reach_68 : decode cX7_reach 68 = .ok (.ireturn, 1) := by decide +kernel
theorem dX7_fits_0 : decode cX7_fits 0 = .ok (.iload_n 1, 1) := by decide +kernel
theorem dX7_fits_1 : decode cX7_fits 1 = .ok (.iconst (-1), 1) := by decide +kernel
theorem dX7_fits_2 : decode cX7_fits 2 = .ok (.if_icmp .lt 20, 3) := by decide +kernel
theorem dX7_fits_5 : decode cX7_fits 5 = .ok (.iload_n 1, 1) := by decide +kernel
theorem dX7_fits_6 : decode cX7_fits 6 = .ok (.bipush 16, 2) := by decide +kernel
theorem dX7_fits_8 : decode cX7_fits 8 = .ok (.if_icmp .gt 14, 3) := by decide +kernel
theorem dX7_fits_11 : decode cX7_fits 11 = .ok (.iload_n 2, 1) := by decide +kernel
theorem dX7_fits_12 : decode cX7_fits 12 = .ok (.iconst (-1), 1) := by decide +kernel
theorem dX7_fits_13 : decode cX7_fits 13 = .ok (.if_icmp .lt 9, 3) := by decide +kernel
theorem dX7_fits_16 : decode cX7_fits 16 = .ok (.iload_n 2, 1) := by decide +kernel
theorem dX7_fits_17 : decode cX7_fits 17 = .ok (.bipush 8, 2) := by decide +kernel
theorem dX7_fits_19 : decode cX7_fits 19 = .ok (.if_icmp .le 5, 3) := by decide +kernel
theorem dX7_fits_22 : decode cX7_fits 22 = .ok (.iconst (-1), 1) := by decide +kernel
theorem dX7_fits_23 : decode cX7_fits 23 = .ok (.ireturn, 1) := by decide +kernel
theorem dX7_fits_24 : decode cX7_fits 24 = .ok (.iload_n 3, 1) := by decide +kernel
theorem dX7_fits_25 : decode cX7_fits 25 = .ok (.iconst (-1), 1) := by decide +kernel
theorem dX7_fits_26 : decode cX7_fits 26 = .ok (.if_icmp .lt 13, 3) := by decide +kernel
theorem dX7_fits_29 : decode cX7_fits 29 = .ok (.iload_n 3, 1) := by decide +kernel
theorem dX7_fits_30 : decode cX7_fits 30 = .ok (.ifCond .eq 9, 3) := by decide +kernel
theorem dX7_fits_33 : decode cX7_fits 33 = .ok (.iload_n 3, 1) := by decide +kernel
theorem dX7_fits_34 : decode cX7_fits 34 = .ok (.bipush 11, 2) := by decide +kernel
theorem dX7_fits_36 : decode cX7_fits 36 = .ok (.if_icmp .lt 5, 3) := by decide +kernel
theorem dX7_fits_39 : decode cX7_fits 39 = .ok (.iconst (-1), 1) := by decide +kernel
theorem dX7_fits_40 : decode cX7_fits 40 = .ok (.ireturn, 1) := by decide +kernel
theorem dX7_fits_41 : decode cX7_fits 41 = .ok (.aload_n 0, 1) := by decide +kernel
theorem dX7_fits_42 : decode cX7_fits 42 = .ok (.getfield 60, 3) := by decide +kernel
theorem dX7_fits_45 : decode cX7_fits 45 = .ok (.aload_n 0, 1) := by decide +kernel
theorem dX7_fits_46 : decode cX7_fits 46 = .ok (.getfield 10, 3) := by decide +kernel
theorem dX7_fits_49 : decode cX7_fits 49 = .ok (.iconst 0, 1) := by decide +kernel
theorem dX7_fits_50 : decode cX7_fits 50 = .ok (.sipush 255, 3) := by decide +kernel
theorem dX7_fits_53 : decode cX7_fits 53 = .ok (.invokevirtual 170, 3) := by decide +kernel
theorem dX7_fits_56 : decode cX7_fits 56 = .ok (.iconst 0, 1) := by decide +kernel
theorem dX7_fits_57 : decode cX7_fits 57 = .ok (.istore 4, 2) := by decide +kernel
theorem dX7_fits_59 : decode cX7_fits 59 = .ok (.iconst 1, 1) := by decide +kernel
theorem dX7_fits_60 : decode cX7_fits 60 = .ok (.istore 5, 2) := by decide +kernel
theorem dX7_fits_62 : decode cX7_fits 62 = .ok (.iload 5, 2) := by decide +kernel
theorem dX7_fits_64 : decode cX7_fits 64 = .ok (.bipush 9, 2) := by decide +kernel
theorem dX7_fits_66 : decode cX7_fits 66 = .ok (.if_icmp .gt 109, 3) := by decide +kernel
theorem dX7_fits_69 : decode cX7_fits 69 = .ok (.iload_n 1, 1) := by decide +kernel
theorem dX7_fits_70 : decode cX7_fits 70 = .ok (.iconst (-1), 1) := by decide +kernel
theorem dX7_fits_71 : decode cX7_fits 71 = .ok (.if_icmp .eq 16, 3) := by decide +kernel
theorem dX7_fits_74 : decode cX7_fits 74 = .ok (.aload_n 0, 1) := by decide +kernel
theorem dX7_fits_75 : decode cX7_fits 75 = .ok (.getfield 10, 3) := by decide +kernel
theorem dX7_fits_78 : decode cX7_fits 78 = .ok (.iload 5, 2) := by decide +kernel
theorem dX7_fits_80 : decode cX7_fits 80 = .ok (.invokevirtual 157, 3) := by decide +kernel
theorem dX7_fits_83 : decode cX7_fits 83 = .ok (.iload_n 1, 1) := by decide +kernel
theorem dX7_fits_84 : decode cX7_fits 84 = .ok (.if_icmp .ne 7, 3) := by decide +kernel
theorem dX7_fits_87 : decode cX7_fits 87 = .ok (.iconst 1, 1) := by decide +kernel
theorem dX7_fits_88 : decode cX7_fits 88 = .ok (.goto 4, 3) := by decide +kernel
theorem dX7_fits_91 : decode cX7_fits 91 = .ok (.iconst 0, 1) := by decide +kernel
theorem dX7_fits_92 : decode cX7_fits 92 = .ok (.istore 6, 2) := by decide +kernel
theorem dX7_fits_94 : decode cX7_fits 94 = .ok (.iload_n 2, 1) := by decide +kernel
theorem dX7_fits_95 : decode cX7_fits 95 = .ok (.iconst (-1), 1) := by decide +kernel
theorem dX7_fits_96 : decode cX7_fits 96 = .ok (.if_icmp .eq 16, 3) := by decide +kernel
theorem dX7_fits_99 : decode cX7_fits 99 = .ok (.aload_n 0, 1) := by decide +kernel
theorem dX7_fits_100 : decode cX7_fits 100 = .ok (.getfield 10, 3) := by decide +kernel
theorem dX7_fits_103 : decode cX7_fits 103 = .ok (.iload 5, 2) := by decide +kernel
theorem dX7_fits_105 : decode cX7_fits 105 = .ok (.iload_n 2, 1) := by decide +kernel
theorem dX7_fits_106 : decode cX7_fits 106 = .ok (.invokevirtual 194, 3) := by decide +kernel
theorem dX7_fits_109 : decode cX7_fits 109 = .ok (.ifCond .eq 7, 3) := by decide +kernel
theorem dX7_fits_112 : decode cX7_fits 112 = .ok (.iconst 1, 1) := by decide +kernel
theorem dX7_fits_113 : decode cX7_fits 113 = .ok (.goto 4, 3) := by decide +kernel
theorem dX7_fits_116 : decode cX7_fits 116 = .ok (.iconst 0, 1) := by decide +kernel
theorem dX7_fits_117 : decode cX7_fits 117 = .ok (.istore 7, 2) := by decide +kernel
theorem dX7_fits_119 : decode cX7_fits 119 = .ok (.iload_n 3, 1) := by decide +kernel
theorem dX7_fits_120 : decode cX7_fits 120 = .ok (.iconst (-1), 1) := by decide +kernel
theorem dX7_fits_121 : decode cX7_fits 121 = .ok (.if_icmp .eq 17, 3) := by decide +kernel
theorem dX7_fits_124 : decode cX7_fits 124 = .ok (.aload_n 0, 1) := by decide +kernel
theorem dX7_fits_125 : decode cX7_fits 125 = .ok (.getfield 60, 3) := by decide +kernel
theorem dX7_fits_128 : decode cX7_fits 128 = .ok (.getfield 174, 3) := by decide +kernel
theorem dX7_fits_131 : decode cX7_fits 131 = .ok (.iload 5, 2) := by decide +kernel
theorem dX7_fits_133 : decode cX7_fits 133 = .ok (.iaload, 1) := by decide +kernel
theorem dX7_fits_134 : decode cX7_fits 134 = .ok (.iload_n 3, 1) := by decide +kernel
theorem dX7_fits_135 : decode cX7_fits 135 = .ok (.if_icmp .ne 7, 3) := by decide +kernel
theorem dX7_fits_138 : decode cX7_fits 138 = .ok (.iconst 1, 1) := by decide +kernel
theorem dX7_fits_139 : decode cX7_fits 139 = .ok (.goto 4, 3) := by decide +kernel
theorem dX7_fits_142 : decode cX7_fits 142 = .ok (.iconst 0, 1) := by decide +kernel
theorem dX7_fits_143 : decode cX7_fits 143 = .ok (.istore 8, 2) := by decide +kernel
theorem dX7_fits_145 : decode cX7_fits 145 = .ok (.iload 6, 2) := by decide +kernel
theorem dX7_fits_147 : decode cX7_fits 147 = .ok (.ifCond .eq 22, 3) := by decide +kernel
theorem dX7_fits_150 : decode cX7_fits 150 = .ok (.iload 7, 2) := by decide +kernel
theorem dX7_fits_152 : decode cX7_fits 152 = .ok (.ifCond .eq 17, 3) := by decide +kernel
theorem dX7_fits_155 : decode cX7_fits 155 = .ok (.iload 8, 2) := by decide +kernel
theorem dX7_fits_157 : decode cX7_fits 157 = .ok (.ifCond .eq 12, 3) := by decide +kernel
theorem dX7_fits_160 : decode cX7_fits 160 = .ok (.iload 4, 2) := by decide +kernel
theorem dX7_fits_162 : decode cX7_fits 162 = .ok (.iconst 1, 1) := by decide +kernel
theorem dX7_fits_163 : decode cX7_fits 163 = .ok (.iload 5, 2) := by decide +kernel
theorem dX7_fits_165 : decode cX7_fits 165 = .ok (.ishl, 1) := by decide +kernel
theorem dX7_fits_166 : decode cX7_fits 166 = .ok (.ior, 1) := by decide +kernel
theorem dX7_fits_167 : decode cX7_fits 167 = .ok (.istore 4, 2) := by decide +kernel
theorem dX7_fits_169 : decode cX7_fits 169 = .ok (.iinc 5 1, 3) := by decide +kernel
theorem dX7_fits_172 : decode cX7_fits 172 = .ok (.goto (-110), 3) := by decide +kernel
theorem dX7_fits_175 : decode cX7_fits 175 = .ok (.iload 4, 2) := by decide +kernel
theorem dX7_fits_177 : decode cX7_fits 177 = .ok (.ireturn, 1) := by decide +kernel
theorem dX7_been_0 : decode cX7_been 0 = .ok (.iload_n 1, 1) := by decide +kernel
theorem dX7_been_1 : decode cX7_been 1 = .ok (.invokestatic 90, 3) := by decide +kernel
theorem dX7_been_4 : decode cX7_been 4 = .ok (.ifCond .eq 23, 3) := by decide +kernel
theorem dX7_been_7 : decode cX7_been 7 = .ok (.iload_n 2, 1) := by decide +kernel
theorem dX7_been_8 : decode cX7_been 8 = .ok (.ifCond .lt 19, 3) := by decide +kernel
theorem dX7_been_11 : decode cX7_been 11 = .ok (.iload_n 2, 1) := by decide +kernel
theorem dX7_been_12 : decode cX7_been 12 = .ok (.bipush 30, 2) := by decide +kernel
theorem dX7_been_14 : decode cX7_been 14 = .ok (.if_icmp .gt 13, 3) := by decide +kernel
theorem dX7_been_17 : decode cX7_been 17 = .ok (.iload_n 3, 1) := by decide +kernel
theorem dX7_been_18 : decode cX7_been 18 = .ok (.ifCond .lt 9, 3) := by decide +kernel
theorem dX7_been_21 : decode cX7_been 21 = .ok (.iload_n 3, 1) := by decide +kernel
theorem dX7_been_22 : decode cX7_been 22 = .ok (.bipush 99, 2) := by decide +kernel
theorem dX7_been_24 : decode cX7_been 24 = .ok (.if_icmp .le 5, 3) := by decide +kernel
theorem dX7_been_27 : decode cX7_been 27 = .ok (.iconst (-1), 1) := by decide +kernel
theorem dX7_been_28 : decode cX7_been 28 = .ok (.ireturn, 1) := by decide +kernel
theorem dX7_been_29 : decode cX7_been 29 = .ok (.iload_n 2, 1) := by decide +kernel
theorem dX7_been_30 : decode cX7_been 30 = .ok (.ifCond .ne 7, 3) := by decide +kernel
theorem dX7_been_33 : decode cX7_been 33 = .ok (.iconst 1, 1) := by decide +kernel
theorem dX7_been_34 : decode cX7_been 34 = .ok (.goto 4, 3) := by decide +kernel
theorem dX7_been_37 : decode cX7_been 37 = .ok (.iconst 0, 1) := by decide +kernel
theorem dX7_been_38 : decode cX7_been 38 = .ok (.istore 4, 2) := by decide +kernel
theorem dX7_been_40 : decode cX7_been 40 = .ok (.iconst 1, 1) := by decide +kernel
theorem dX7_been_41 : decode cX7_been 41 = .ok (.istore 5, 2) := by decide +kernel
theorem dX7_been_43 : decode cX7_been 43 = .ok (.iload 5, 2) := by decide +kernel
theorem dX7_been_45 : decode cX7_been 45 = .ok (.bipush 30, 2) := by decide +kernel
theorem dX7_been_47 : decode cX7_been 47 = .ok (.if_icmp .gt 41, 3) := by decide +kernel
theorem dX7_been_50 : decode cX7_been 50 = .ok (.iconst 0, 1) := by decide +kernel
theorem dX7_been_51 : decode cX7_been 51 = .ok (.istore 6, 2) := by decide +kernel
theorem dX7_been_53 : decode cX7_been 53 = .ok (.iload 6, 2) := by decide +kernel
theorem dX7_been_55 : decode cX7_been 55 = .ok (.iload_n 3, 1) := by decide +kernel
theorem dX7_been_56 : decode cX7_been 56 = .ok (.if_icmp .gt 26, 3) := by decide +kernel
theorem dX7_been_59 : decode cX7_been 59 = .ok (.iload_n 1, 1) := by decide +kernel
theorem dX7_been_60 : decode cX7_been 60 = .ok (.iload 5, 2) := by decide +kernel
theorem dX7_been_62 : decode cX7_been 62 = .ok (.iload_n 3, 1) := by decide +kernel
theorem dX7_been_63 : decode cX7_been 63 = .ok (.iload 6, 2) := by decide +kernel
theorem dX7_been_65 : decode cX7_been 65 = .ok (.isub, 1) := by decide +kernel
theorem dX7_been_66 : decode cX7_been 66 = .ok (.invokestatic 197, 3) := by decide +kernel
theorem dX7_been_69 : decode cX7_been 69 = .ok (.iload_n 2, 1) := by decide +kernel
theorem dX7_been_70 : decode cX7_been 70 = .ok (.if_icmp .ne 6, 3) := by decide +kernel
theorem dX7_been_73 : decode cX7_been 73 = .ok (.iinc 4 1, 3) := by decide +kernel
theorem dX7_been_76 : decode cX7_been 76 = .ok (.iinc 6 1, 3) := by decide +kernel
theorem dX7_been_79 : decode cX7_been 79 = .ok (.goto (-26), 3) := by decide +kernel
theorem dX7_been_82 : decode cX7_been 82 = .ok (.iinc 5 1, 3) := by decide +kernel
theorem dX7_been_85 : decode cX7_been 85 = .ok (.goto (-42), 3) := by decide +kernel
theorem dX7_been_88 : decode cX7_been 88 = .ok (.iload 4, 2) := by decide +kernel
theorem dX7_been_90 : decode cX7_been 90 = .ok (.ireturn, 1) := by decide +kernel
theorem dX7_look_0 : decode cX7_look 0 = .ok (.iload_n 1, 1) := by decide +kernel
theorem dX7_look_1 : decode cX7_look 1 = .ok (.invokestatic 90, 3) := by decide +kernel
theorem dX7_look_4 : decode cX7_look 4 = .ok (.ifCond .eq 19, 3) := by decide +kernel
theorem dX7_look_7 : decode cX7_look 7 = .ok (.iload_n 2, 1) := by decide +kernel
theorem dX7_look_8 : decode cX7_look 8 = .ok (.invokestatic 163, 3) := by decide +kernel
theorem dX7_look_11 : decode cX7_look 11 = .ok (.ifCond .eq 12, 3) := by decide +kernel
theorem dX7_look_14 : decode cX7_look 14 = .ok (.iload_n 3, 1) := by decide +kernel
theorem dX7_look_15 : decode cX7_look 15 = .ok (.ifCond .lt 8, 3) := by decide +kernel
theorem dX7_look_18 : decode cX7_look 18 = .ok (.iload_n 3, 1) := by decide +kernel
theorem dX7_look_19 : decode cX7_look 19 = .ok (.iconst 1, 1) := by decide +kernel
theorem dX7_look_20 : decode cX7_look 20 = .ok (.if_icmp .le 5, 3) := by decide +kernel
theorem dX7_look_23 : decode cX7_look 23 = .ok (.iconst (-1), 1) := by decide +kernel
theorem dX7_look_24 : decode cX7_look 24 = .ok (.ireturn, 1) := by decide +kernel
theorem dX7_look_25 : decode cX7_look 25 = .ok (.iconst 0, 1) := by decide +kernel
theorem dX7_look_26 : decode cX7_look 26 = .ok (.istore 4, 2) := by decide +kernel
theorem dX7_look_28 : decode cX7_look 28 = .ok (.bipush (-4), 2) := by decide +kernel
theorem dX7_look_30 : decode cX7_look 30 = .ok (.istore 5, 2) := by decide +kernel
theorem dX7_look_32 : decode cX7_look 32 = .ok (.iconst 0, 1) := by decide +kernel
theorem dX7_look_33 : decode cX7_look 33 = .ok (.istore 6, 2) := by decide +kernel
theorem dX7_look_35 : decode cX7_look 35 = .ok (.iload 6, 2) := by decide +kernel
theorem dX7_look_37 : decode cX7_look 37 = .ok (.bipush 6, 2) := by decide +kernel
theorem dX7_look_39 : decode cX7_look 39 = .ok (.if_icmp .gt 62, 3) := by decide +kernel
theorem dX7_look_42 : decode cX7_look 42 = .ok (.iconst 0, 1) := by decide +kernel
theorem dX7_look_43 : decode cX7_look 43 = .ok (.istore 7, 2) := by decide +kernel
theorem dX7_look_45 : decode cX7_look 45 = .ok (.iload 7, 2) := by decide +kernel
theorem dX7_look_47 : decode cX7_look 47 = .ok (.bipush 6, 2) := by decide +kernel
theorem dX7_look_49 : decode cX7_look 49 = .ok (.if_icmp .gt 46, 3) := by decide +kernel
theorem dX7_look_52 : decode cX7_look 52 = .ok (.iload_n 1, 1) := by decide +kernel
theorem dX7_look_53 : decode cX7_look 53 = .ok (.iload_n 2, 1) := by decide +kernel
theorem dX7_look_54 : decode cX7_look 54 = .ok (.iload 6, 2) := by decide +kernel
theorem dX7_look_56 : decode cX7_look 56 = .ok (.iload 7, 2) := by decide +kernel
theorem dX7_look_58 : decode cX7_look 58 = .ok (.invokestatic 200, 3) := by decide +kernel
theorem dX7_look_61 : decode cX7_look 61 = .ok (.ifCond .eq 28, 3) := by decide +kernel
theorem dX7_look_64 : decode cX7_look 64 = .ok (.iinc 4 1, 3) := by decide +kernel
theorem dX7_look_67 : decode cX7_look 67 = .ok (.iload 5, 2) := by decide +kernel
theorem dX7_look_69 : decode cX7_look 69 = .ok (.bipush (-4), 2) := by decide +kernel
theorem dX7_look_71 : decode cX7_look 71 = .ok (.if_icmp .ne 14, 3) := by decide +kernel
theorem dX7_look_74 : decode cX7_look 74 = .ok (.bipush 10, 2) := by decide +kernel
theorem dX7_look_76 : decode cX7_look 76 = .ok (.iload 6, 2) := by decide +kernel
theorem dX7_look_78 : decode cX7_look 78 = .ok (.imul, 1) := by decide +kernel
theorem dX7_look_79 : decode cX7_look 79 = .ok (.iload 7, 2) := by decide +kernel
theorem dX7_look_81 : decode cX7_look 81 = .ok (.iadd, 1) := by decide +kernel
theorem dX7_look_82 : decode cX7_look 82 = .ok (.goto 5, 3) := by decide +kernel
theorem dX7_look_85 : decode cX7_look 85 = .ok (.iload 5, 2) := by decide +kernel
theorem dX7_look_87 : decode cX7_look 87 = .ok (.istore 5, 2) := by decide +kernel
theorem dX7_look_89 : decode cX7_look 89 = .ok (.iinc 7 1, 3) := by decide +kernel
theorem dX7_look_92 : decode cX7_look 92 = .ok (.goto (-47), 3) := by decide +kernel
theorem dX7_look_95 : decode cX7_look 95 = .ok (.iinc 6 1, 3) := by decide +kernel
theorem dX7_look_98 : decode cX7_look 98 = .ok (.goto (-63), 3) := by decide +kernel
theorem dX7_look_101 : decode cX7_look 101 = .ok (.iload_n 3, 1) := by decide +kernel
theorem dX7_look_102 : decode cX7_look 102 = .ok (.ifCond .ne 8, 3) := by decide +kernel
theorem dX7_look_105 : decode cX7_look 105 = .ok (.iload 4, 2) := by decide +kernel
theorem dX7_look_107 : decode cX7_look 107 = .ok (.goto 5, 3) := by decide +kernel
theorem dX7_look_110 : decode cX7_look 110 = .ok (.iload 5, 2) := by decide +kernel
theorem dX7_look_112 : decode cX7_look 112 = .ok (.ireturn, 1) := by decide +kernel
theorem dX7_image_0 : decode cX7_image 0 = .ok (.aload_n 0, 1) := by decide +kernel
theorem dX7_image_1 : decode cX7_image 1 = .ok (.getfield 27, 3) := by decide +kernel
theorem dX7_image_4 : decode cX7_image 4 = .ok (.aload_n 0, 1) := by decide +kernel
theorem dX7_image_5 : decode cX7_image 5 = .ok (.getfield 10, 3) := by decide +kernel
theorem dX7_image_8 : decode cX7_image 8 = .ok (.invokevirtual 204, 3) := by decide +kernel
theorem dX7_image_11 : decode cX7_image 11 = .ok (.aload_n 0, 1) := by decide +kernel
theorem dX7_image_12 : decode cX7_image 12 = .ok (.getfield 30, 3) := by decide +kernel
theorem dX7_image_15 : decode cX7_image 15 = .ok (.aload_n 0, 1) := by decide +kernel
theorem dX7_image_16 : decode cX7_image 16 = .ok (.getfield 19, 3) := by decide +kernel
theorem dX7_image_19 : decode cX7_image 19 = .ok (.invokevirtual 208, 3) := by decide +kernel
theorem dX7_image_22 : decode cX7_image 22 = .ok (.aload_n 0, 1) := by decide +kernel
theorem dX7_image_23 : decode cX7_image 23 = .ok (.aload_n 0, 1) := by decide +kernel
theorem dX7_image_24 : decode cX7_image 24 = .ok (.getfield 23, 3) := by decide +kernel
theorem dX7_image_27 : decode cX7_image 27 = .ok (.putfield 33, 3) := by decide +kernel
theorem dX7_image_30 : decode cX7_image 30 = .ok (.aload_n 0, 1) := by decide +kernel
theorem dX7_image_31 : decode cX7_image 31 = .ok (.iconst 1, 1) := by decide +kernel
theorem dX7_image_32 : decode cX7_image 32 = .ok (.putfield 36, 3) := by decide +kernel
theorem dX7_image_35 : decode cX7_image 35 = .ok (.iconst 1, 1) := by decide +kernel
theorem dX7_image_36 : decode cX7_image 36 = .ok (.ireturn, 1) := by decide +kernel
theorem dX7_restore_0 : decode cX7_restore 0 = .ok (.aload_n 0, 1) := by decide +kernel
theorem dX7_restore_1 : decode cX7_restore 1 = .ok (.getfield 36, 3) := by decide +kernel
theorem dX7_restore_4 : decode cX7_restore 4 = .ok (.ifCond .ne 6, 3) := by decide +kernel
theorem dX7_restore_7 : decode cX7_restore 7 = .ok (.bipush (-4), 2) := by decide +kernel
theorem dX7_restore_9 : decode cX7_restore 9 = .ok (.ireturn, 1) := by decide +kernel
theorem dX7_restore_10 : decode cX7_restore 10 = .ok (.aload_n 0, 1) := by decide +kernel
theorem dX7_restore_11 : decode cX7_restore 11 = .ok (.getfield 10, 3) := by decide +kernel
theorem dX7_restore_14 : decode cX7_restore 14 = .ok (.aload_n 0, 1) := by decide +kernel
theorem dX7_restore_15 : decode cX7_restore 15 = .ok (.getfield 27, 3) := by decide +kernel
theorem dX7_restore_18 : decode cX7_restore 18 = .ok (.invokevirtual 204, 3) := by decide +kernel
theorem dX7_restore_21 : decode cX7_restore 21 = .ok (.aload_n 0, 1) := by decide +kernel
theorem dX7_restore_22 : decode cX7_restore 22 = .ok (.getfield 19, 3) := by decide +kernel
theorem dX7_restore_25 : decode cX7_restore 25 = .ok (.aload_n 0, 1) := by decide +kernel
theorem dX7_restore_26 : decode cX7_restore 26 = .ok (.getfield 30, 3) := by decide +kernel
theorem dX7_restore_29 : decode cX7_restore 29 = .ok (.invokevirtual 208, 3) := by decide +kernel
theorem dX7_restore_32 : decode cX7_restore 32 = .ok (.aload_n 0, 1) := by decide +kernel
theorem dX7_restore_33 : decode cX7_restore 33 = .ok (.aload_n 0, 1) := by decide +kernel
theorem dX7_restore_34 : decode cX7_restore 34 = .ok (.getfield 33, 3) := by decide +kernel
theorem dX7_restore_37 : decode cX7_restore 37 = .ok (.putfield 23, 3) := by decide +kernel
theorem dX7_restore_40 : decode cX7_restore 40 = .ok (.iconst 1, 1) := by decide +kernel
theorem dX7_restore_41 : decode cX7_restore 41 = .ok (.ireturn, 1) := by decide +kernel
theorem dX7_asked_0 : decode cX7_asked 0 = .ok (.iload 4, 2) := by decide +kernel
theorem dX7_asked_2 : decode cX7_asked 2 = .ok (.iconst 1, 1) := by decide +kernel
theorem dX7_asked_3 : decode cX7_asked 3 = .ok (.if_icmp .lt 23, 3) := by decide +kernel
theorem dX7_asked_6 : decode cX7_asked 6 = .ok (.iload 4, 2) := by decide +kernel
theorem dX7_asked_8 : decode cX7_asked 8 = .ok (.bipush 6, 2) := by decide +kernel
theorem dX7_asked_10 : decode cX7_asked 10 = .ok (.if_icmp .gt 16, 3) := by decide +kernel
theorem dX7_asked_13 : decode cX7_asked 13 = .ok (.iload 5, 2) := by decide +kernel
theorem dX7_asked_15 : decode cX7_asked 15 = .ok (.iconst (-1), 1) := by decide +kernel
theorem dX7_asked_16 : decode cX7_asked 16 = .ok (.if_icmp .lt 10, 3) := by decide +kernel
theorem dX7_asked_19 : decode cX7_asked 19 = .ok (.iload 5, 2) := by decide +kernel
theorem dX7_asked_21 : decode cX7_asked 21 = .ok (.iload 4, 2) := by decide +kernel
theorem dX7_asked_23 : decode cX7_asked 23 = .ok (.if_icmp .lt 5, 3) := by decide +kernel
theorem dX7_asked_26 : decode cX7_asked 26 = .ok (.iconst (-1), 1) := by decide +kernel
theorem dX7_asked_27 : decode cX7_asked 27 = .ok (.ireturn, 1) := by decide +kernel
theorem dX7_asked_28 : decode cX7_asked 28 = .ok (.aload_n 0, 1) := by decide +kernel
theorem dX7_asked_29 : decode cX7_asked 29 = .ok (.iload_n 1, 1) := by decide +kernel
theorem dX7_asked_30 : decode cX7_asked 30 = .ok (.iload_n 2, 1) := by decide +kernel
theorem dX7_asked_31 : decode cX7_asked 31 = .ok (.invokevirtual 211, 3) := by decide +kernel
theorem dX7_asked_34 : decode cX7_asked 34 = .ok (.istore 6, 2) := by decide +kernel
theorem dX7_asked_36 : decode cX7_asked 36 = .ok (.iload 6, 2) := by decide +kernel
theorem dX7_asked_38 : decode cX7_asked 38 = .ok (.ifCond .eq 6, 3) := by decide +kernel
theorem dX7_asked_41 : decode cX7_asked 41 = .ok (.iload 6, 2) := by decide +kernel
theorem dX7_asked_43 : decode cX7_asked 43 = .ok (.ireturn, 1) := by decide +kernel
theorem dX7_asked_44 : decode cX7_asked 44 = .ok (.aload_n 0, 1) := by decide +kernel
theorem dX7_asked_45 : decode cX7_asked 45 = .ok (.getfield 73, 3) := by decide +kernel
theorem dX7_asked_48 : decode cX7_asked 48 = .ok (.iload_n 1, 1) := by decide +kernel
theorem dX7_asked_49 : decode cX7_asked 49 = .ok (.aaload, 1) := by decide +kernel
theorem dX7_asked_50 : decode cX7_asked 50 = .ok (.iload_n 3, 1) := by decide +kernel
theorem dX7_asked_51 : decode cX7_asked 51 = .ok (.iconst 2, 1) := by decide +kernel
theorem dX7_asked_52 : decode cX7_asked 52 = .ok (.iload 4, 2) := by decide +kernel
theorem dX7_asked_54 : decode cX7_asked 54 = .ok (.imul, 1) := by decide +kernel
theorem dX7_asked_55 : decode cX7_asked 55 = .ok (.invokevirtual 214, 3) := by decide +kernel
theorem dX7_asked_58 : decode cX7_asked 58 = .ok (.ifCond .ne 6, 3) := by decide +kernel
theorem dX7_asked_61 : decode cX7_asked 61 = .ok (.bipush (-13), 2) := by decide +kernel
theorem dX7_asked_63 : decode cX7_asked 63 = .ok (.ireturn, 1) := by decide +kernel
theorem dX7_asked_64 : decode cX7_asked 64 = .ok (.aload_n 0, 1) := by decide +kernel
theorem dX7_asked_65 : decode cX7_asked 65 = .ok (.aload_n 0, 1) := by decide +kernel
theorem dX7_asked_66 : decode cX7_asked 66 = .ok (.getfield 73, 3) := by decide +kernel
theorem dX7_asked_69 : decode cX7_asked 69 = .ok (.iload_n 1, 1) := by decide +kernel
theorem dX7_asked_70 : decode cX7_asked 70 = .ok (.aaload, 1) := by decide +kernel
theorem dX7_asked_71 : decode cX7_asked 71 = .ok (.iload_n 3, 1) := by decide +kernel
theorem dX7_asked_72 : decode cX7_asked 72 = .ok (.iload 4, 2) := by decide +kernel
theorem dX7_asked_74 : decode cX7_asked 74 = .ok (.invokevirtual 217, 3) := by decide +kernel
theorem dX7_asked_77 : decode cX7_asked 77 = .ok (.ifCond .ne 6, 3) := by decide +kernel
theorem dX7_asked_80 : decode cX7_asked 80 = .ok (.bipush (-2), 2) := by decide +kernel
theorem dX7_asked_82 : decode cX7_asked 82 = .ok (.ireturn, 1) := by decide +kernel
theorem dX7_asked_83 : decode cX7_asked 83 = .ok (.aload_n 0, 1) := by decide +kernel
theorem dX7_asked_84 : decode cX7_asked 84 = .ok (.getfield 67, 3) := by decide +kernel
theorem dX7_asked_87 : decode cX7_asked 87 = .ok (.iconst 0, 1) := by decide +kernel
theorem dX7_asked_88 : decode cX7_asked 88 = .ok (.iconst 0, 1) := by decide +kernel
theorem dX7_asked_89 : decode cX7_asked 89 = .ok (.invokestatic 221, 3) := by decide +kernel
theorem dX7_asked_92 : decode cX7_asked 92 = .ok (.aload_n 0, 1) := by decide +kernel
theorem dX7_asked_93 : decode cX7_asked 93 = .ok (.getfield 67, 3) := by decide +kernel
theorem dX7_asked_96 : decode cX7_asked 96 = .ok (.getfield 225, 3) := by decide +kernel
theorem dX7_asked_99 : decode cX7_asked 99 = .ok (.iconst (-1), 1) := by decide +kernel
theorem dX7_asked_100 : decode cX7_asked 100 = .ok (.if_icmp .ne 6, 3) := by decide +kernel
theorem dX7_asked_103 : decode cX7_asked 103 = .ok (.bipush (-4), 2) := by decide +kernel
theorem dX7_asked_105 : decode cX7_asked 105 = .ok (.ireturn, 1) := by decide +kernel
theorem dX7_asked_106 : decode cX7_asked 106 = .ok (.iload 5, 2) := by decide +kernel
theorem dX7_asked_108 : decode cX7_asked 108 = .ok (.ifCond .ge 13, 3) := by decide +kernel
theorem dX7_asked_111 : decode cX7_asked 111 = .ok (.aload_n 0, 1) := by decide +kernel
theorem dX7_asked_112 : decode cX7_asked 112 = .ok (.getfield 67, 3) := by decide +kernel
theorem dX7_asked_115 : decode cX7_asked 115 = .ok (.getfield 225, 3) := by decide +kernel
theorem dX7_asked_118 : decode cX7_asked 118 = .ok (.goto 13, 3) := by decide +kernel
theorem dX7_asked_121 : decode cX7_asked 121 = .ok (.aload_n 0, 1) := by decide +kernel
theorem dX7_asked_122 : decode cX7_asked 122 = .ok (.getfield 67, 3) := by decide +kernel
theorem dX7_asked_125 : decode cX7_asked 125 = .ok (.getfield 228, 3) := by decide +kernel
theorem dX7_asked_128 : decode cX7_asked 128 = .ok (.iload 5, 2) := by decide +kernel
theorem dX7_asked_130 : decode cX7_asked 130 = .ok (.iaload, 1) := by decide +kernel
theorem dX7_asked_131 : decode cX7_asked 131 = .ok (.ireturn, 1) := by decide +kernel
theorem dX7_film_0 : decode cX7_film 0 = .ok (.aload_n 0, 1) := by decide +kernel
theorem dX7_film_1 : decode cX7_film 1 = .ok (.iload_n 1, 1) := by decide +kernel
theorem dX7_film_2 : decode cX7_film 2 = .ok (.iload_n 2, 1) := by decide +kernel
theorem dX7_film_3 : decode cX7_film 3 = .ok (.invokevirtual 211, 3) := by decide +kernel
theorem dX7_film_6 : decode cX7_film 6 = .ok (.istore 4, 2) := by decide +kernel
theorem dX7_film_8 : decode cX7_film 8 = .ok (.iload 4, 2) := by decide +kernel
theorem dX7_film_10 : decode cX7_film 10 = .ok (.ifCond .eq 6, 3) := by decide +kernel
theorem dX7_film_13 : decode cX7_film 13 = .ok (.iload 4, 2) := by decide +kernel
theorem dX7_film_15 : decode cX7_film 15 = .ok (.ireturn, 1) := by decide +kernel
theorem dX7_film_16 : decode cX7_film 16 = .ok (.aload_n 0, 1) := by decide +kernel
theorem dX7_film_17 : decode cX7_film 17 = .ok (.getfield 73, 3) := by decide +kernel
theorem dX7_film_20 : decode cX7_film 20 = .ok (.iload_n 1, 1) := by decide +kernel
theorem dX7_film_21 : decode cX7_film 21 = .ok (.aaload, 1) := by decide +kernel
theorem dX7_film_22 : decode cX7_film 22 = .ok (.iload_n 3, 1) := by decide +kernel
theorem dX7_film_23 : decode cX7_film 23 = .ok (.aload_n 0, 1) := by decide +kernel
theorem dX7_film_24 : decode cX7_film 24 = .ok (.getfield 19, 3) := by decide +kernel
theorem dX7_film_27 : decode cX7_film 27 = .ok (.getfield 149, 3) := by decide +kernel
theorem dX7_film_30 : decode cX7_film 30 = .ok (.invokevirtual 214, 3) := by decide +kernel
theorem dX7_film_33 : decode cX7_film 33 = .ok (.ifCond .ne 6, 3) := by decide +kernel
theorem dX7_film_36 : decode cX7_film 36 = .ok (.bipush (-13), 2) := by decide +kernel
theorem dX7_film_38 : decode cX7_film 38 = .ok (.ireturn, 1) := by decide +kernel
theorem dX7_film_39 : decode cX7_film 39 = .ok (.iconst 0, 1) := by decide +kernel
theorem dX7_film_40 : decode cX7_film 40 = .ok (.istore 5, 2) := by decide +kernel
theorem dX7_film_42 : decode cX7_film 42 = .ok (.iload 5, 2) := by decide +kernel
theorem dX7_film_44 : decode cX7_film 44 = .ok (.aload_n 0, 1) := by decide +kernel
theorem dX7_film_45 : decode cX7_film 45 = .ok (.getfield 19, 3) := by decide +kernel
theorem dX7_film_48 : decode cX7_film 48 = .ok (.getfield 149, 3) := by decide +kernel
theorem dX7_film_51 : decode cX7_film 51 = .ok (.if_icmp .ge 32, 3) := by decide +kernel
theorem dX7_film_54 : decode cX7_film 54 = .ok (.aload_n 0, 1) := by decide +kernel
theorem dX7_film_55 : decode cX7_film 55 = .ok (.getfield 73, 3) := by decide +kernel
theorem dX7_film_58 : decode cX7_film 58 = .ok (.iload_n 1, 1) := by decide +kernel
theorem dX7_film_59 : decode cX7_film 59 = .ok (.aaload, 1) := by decide +kernel
theorem dX7_film_60 : decode cX7_film 60 = .ok (.iload_n 3, 1) := by decide +kernel
theorem dX7_film_61 : decode cX7_film 61 = .ok (.iload 5, 2) := by decide +kernel
theorem dX7_film_63 : decode cX7_film 63 = .ok (.iadd, 1) := by decide +kernel
theorem dX7_film_64 : decode cX7_film 64 = .ok (.aload_n 0, 1) := by decide +kernel
theorem dX7_film_65 : decode cX7_film 65 = .ok (.getfield 19, 3) := by decide +kernel
theorem dX7_film_68 : decode cX7_film 68 = .ok (.getfield 109, 3) := by decide +kernel
theorem dX7_film_71 : decode cX7_film 71 = .ok (.iload 5, 2) := by decide +kernel
theorem dX7_film_73 : decode cX7_film 73 = .ok (.iaload, 1) := by decide +kernel
theorem dX7_film_74 : decode cX7_film 74 = .ok (.invokevirtual 231, 3) := by decide +kernel
theorem dX7_film_77 : decode cX7_film 77 = .ok (.iinc 5 1, 3) := by decide +kernel
theorem dX7_film_80 : decode cX7_film 80 = .ok (.goto (-38), 3) := by decide +kernel
theorem dX7_film_83 : decode cX7_film 83 = .ok (.aload_n 0, 1) := by decide +kernel
theorem dX7_film_84 : decode cX7_film 84 = .ok (.getfield 19, 3) := by decide +kernel
theorem dX7_film_87 : decode cX7_film 87 = .ok (.getfield 149, 3) := by decide +kernel
theorem dX7_film_90 : decode cX7_film 90 = .ok (.ireturn, 1) := by decide +kernel
theorem dX7_sheet_0 : decode cX7_sheet 0 = .ok (.iload_n 1, 1) := by decide +kernel
theorem dX7_sheet_1 : decode cX7_sheet 1 = .ok (.invokestatic 235, 3) := by decide +kernel
theorem dX7_sheet_4 : decode cX7_sheet 4 = .ok (.ifCond .eq 16, 3) := by decide +kernel
theorem dX7_sheet_7 : decode cX7_sheet 7 = .ok (.iload_n 2, 1) := by decide +kernel
theorem dX7_sheet_8 : decode cX7_sheet 8 = .ok (.invokestatic 238, 3) := by decide +kernel
theorem dX7_sheet_11 : decode cX7_sheet 11 = .ok (.ifCond .eq 9, 3) := by decide +kernel
theorem dX7_sheet_14 : decode cX7_sheet 14 = .ok (.iload_n 3, 1) := by decide +kernel
theorem dX7_sheet_15 : decode cX7_sheet 15 = .ok (.bipush 24, 2) := by decide +kernel
theorem dX7_sheet_17 : decode cX7_sheet 17 = .ok (.if_icmp .le 5, 3) := by decide +kernel
theorem dX7_sheet_20 : decode cX7_sheet 20 = .ok (.iconst (-1), 1) := by decide +kernel
theorem dX7_sheet_21 : decode cX7_sheet 21 = .ok (.ireturn, 1) := by decide +kernel
theorem dX7_sheet_22 : decode cX7_sheet 22 = .ok (.iload_n 3, 1) := by decide +kernel
theorem dX7_sheet_23 : decode cX7_sheet 23 = .ok (.ifCond .ge 6, 3) := by decide +kernel
theorem dX7_sheet_26 : decode cX7_sheet 26 = .ok (.bipush (-14), 2) := by decide +kernel
theorem dX7_sheet_28 : decode cX7_sheet 28 = .ok (.ireturn, 1) := by decide +kernel
theorem dX7_sheet_29 : decode cX7_sheet 29 = .ok (.aload_n 0, 1) := by decide +kernel
theorem dX7_sheet_30 : decode cX7_sheet 30 = .ok (.getfield 73, 3) := by decide +kernel
theorem dX7_sheet_33 : decode cX7_sheet 33 = .ok (.iload_n 1, 1) := by decide +kernel
theorem dX7_sheet_34 : decode cX7_sheet 34 = .ok (.aaload, 1) := by decide +kernel
theorem dX7_sheet_35 : decode cX7_sheet 35 = .ok (.iload_n 2, 1) := by decide +kernel
theorem dX7_sheet_36 : decode cX7_sheet 36 = .ok (.iload_n 3, 1) := by decide +kernel
theorem dX7_sheet_37 : decode cX7_sheet 37 = .ok (.invokevirtual 241, 3) := by decide +kernel
theorem dX7_sheet_40 : decode cX7_sheet 40 = .ok (.iload_n 3, 1) := by decide +kernel
theorem dX7_sheet_41 : decode cX7_sheet 41 = .ok (.ireturn, 1) := by decide +kernel
theorem dX7_drop_0 : decode cX7_drop 0 = .ok (.iload_n 1, 1) := by decide +kernel
theorem dX7_drop_1 : decode cX7_drop 1 = .ok (.invokestatic 235, 3) := by decide +kernel
theorem dX7_drop_4 : decode cX7_drop 4 = .ok (.ifCond .ne 5, 3) := by decide +kernel
theorem dX7_drop_7 : decode cX7_drop 7 = .ok (.iconst (-1), 1) := by decide +kernel
theorem dX7_drop_8 : decode cX7_drop 8 = .ok (.ireturn, 1) := by decide +kernel
theorem dX7_drop_9 : decode cX7_drop 9 = .ok (.aload_n 0, 1) := by decide +kernel
theorem dX7_drop_10 : decode cX7_drop 10 = .ok (.getfield 73, 3) := by decide +kernel
theorem dX7_drop_13 : decode cX7_drop 13 = .ok (.iload_n 1, 1) := by decide +kernel
theorem dX7_drop_14 : decode cX7_drop 14 = .ok (.aaload, 1) := by decide +kernel
theorem dX7_drop_15 : decode cX7_drop 15 = .ok (.getfield 244, 3) := by decide +kernel
theorem dX7_drop_18 : decode cX7_drop 18 = .ok (.istore_n 2, 1) := by decide +kernel
theorem dX7_drop_19 : decode cX7_drop 19 = .ok (.iload_n 2, 1) := by decide +kernel
theorem dX7_drop_20 : decode cX7_drop 20 = .ok (.iconst (-1), 1) := by decide +kernel
theorem dX7_drop_21 : decode cX7_drop 21 = .ok (.if_icmp .ne 6, 3) := by decide +kernel
theorem dX7_drop_24 : decode cX7_drop 24 = .ok (.bipush (-11), 2) := by decide +kernel
theorem dX7_drop_26 : decode cX7_drop 26 = .ok (.ireturn, 1) := by decide +kernel
theorem dX7_drop_27 : decode cX7_drop 27 = .ok (.aload_n 0, 1) := by decide +kernel
theorem dX7_drop_28 : decode cX7_drop 28 = .ok (.getfield 73, 3) := by decide +kernel
theorem dX7_drop_31 : decode cX7_drop 31 = .ok (.iload_n 1, 1) := by decide +kernel
theorem dX7_drop_32 : decode cX7_drop 32 = .ok (.aaload, 1) := by decide +kernel
theorem dX7_drop_33 : decode cX7_drop 33 = .ok (.iconst (-1), 1) := by decide +kernel
theorem dX7_drop_34 : decode cX7_drop 34 = .ok (.putfield 244, 3) := by decide +kernel
theorem dX7_drop_37 : decode cX7_drop 37 = .ok (.iload_n 2, 1) := by decide +kernel
theorem dX7_drop_38 : decode cX7_drop 38 = .ok (.ireturn, 1) := by decide +kernel
theorem dX7_item_0 : decode cX7_item 0 = .ok (.aload_n 0, 1) := by decide +kernel
theorem dX7_item_1 : decode cX7_item 1 = .ok (.iload_n 1, 1) := by decide +kernel
theorem dX7_item_2 : decode cX7_item 2 = .ok (.iload_n 2, 1) := by decide +kernel
theorem dX7_item_3 : decode cX7_item 3 = .ok (.invokevirtual 211, 3) := by decide +kernel
theorem dX7_item_6 : decode cX7_item 6 = .ok (.istore 5, 2) := by decide +kernel
theorem dX7_item_8 : decode cX7_item 8 = .ok (.iload 5, 2) := by decide +kernel
theorem dX7_item_10 : decode cX7_item 10 = .ok (.ifCond .eq 6, 3) := by decide +kernel
theorem dX7_item_13 : decode cX7_item 13 = .ok (.iload 5, 2) := by decide +kernel
theorem dX7_item_15 : decode cX7_item 15 = .ok (.ireturn, 1) := by decide +kernel
theorem dX7_item_16 : decode cX7_item 16 = .ok (.aload_n 0, 1) := by decide +kernel
theorem dX7_item_17 : decode cX7_item 17 = .ok (.getfield 73, 3) := by decide +kernel
theorem dX7_item_20 : decode cX7_item 20 = .ok (.iload_n 1, 1) := by decide +kernel
theorem dX7_item_21 : decode cX7_item 21 = .ok (.aaload, 1) := by decide +kernel
theorem dX7_item_22 : decode cX7_item 22 = .ok (.iload_n 3, 1) := by decide +kernel
theorem dX7_item_23 : decode cX7_item 23 = .ok (.iconst 1, 1) := by decide +kernel
theorem dX7_item_24 : decode cX7_item 24 = .ok (.invokevirtual 214, 3) := by decide +kernel
theorem dX7_item_27 : decode cX7_item 27 = .ok (.ifCond .ne 6, 3) := by decide +kernel
theorem dX7_item_30 : decode cX7_item 30 = .ok (.bipush (-13), 2) := by decide +kernel
theorem dX7_item_32 : decode cX7_item 32 = .ok (.ireturn, 1) := by decide +kernel
theorem dX7_item_33 : decode cX7_item 33 = .ok (.aload_n 0, 1) := by decide +kernel
theorem dX7_item_34 : decode cX7_item 34 = .ok (.getfield 73, 3) := by decide +kernel
theorem dX7_item_37 : decode cX7_item 37 = .ok (.iload_n 1, 1) := by decide +kernel
theorem dX7_item_38 : decode cX7_item 38 = .ok (.aaload, 1) := by decide +kernel
theorem dX7_item_39 : decode cX7_item 39 = .ok (.iload_n 3, 1) := by decide +kernel
theorem dX7_item_40 : decode cX7_item 40 = .ok (.iload 4, 2) := by decide +kernel
theorem dX7_item_42 : decode cX7_item 42 = .ok (.invokevirtual 231, 3) := by decide +kernel
theorem dX7_item_45 : decode cX7_item 45 = .ok (.iconst 1, 1) := by decide +kernel
theorem dX7_item_46 : decode cX7_item 46 = .ok (.ireturn, 1) := by decide +kernel
theorem dX7_copy_0 : decode cX7_copy 0 = .ok (.iload_n 1, 1) := by decide +kernel
theorem dX7_copy_1 : decode cX7_copy 1 = .ok (.invokestatic 235, 3) := by decide +kernel
theorem dX7_copy_4 : decode cX7_copy 4 = .ok (.ifCond .eq 10, 3) := by decide +kernel
theorem dX7_copy_7 : decode cX7_copy 7 = .ok (.iload_n 3, 1) := by decide +kernel
theorem dX7_copy_8 : decode cX7_copy 8 = .ok (.invokestatic 235, 3) := by decide +kernel
theorem dX7_copy_11 : decode cX7_copy 11 = .ok (.ifCond .ne 5, 3) := by decide +kernel
theorem dX7_copy_14 : decode cX7_copy 14 = .ok (.iconst (-1), 1) := by decide +kernel
theorem dX7_copy_15 : decode cX7_copy 15 = .ok (.ireturn, 1) := by decide +kernel
theorem dX7_copy_16 : decode cX7_copy 16 = .ok (.aload_n 0, 1) := by decide +kernel
theorem dX7_copy_17 : decode cX7_copy 17 = .ok (.getfield 73, 3) := by decide +kernel
theorem dX7_copy_20 : decode cX7_copy 20 = .ok (.iload_n 1, 1) := by decide +kernel
theorem dX7_copy_21 : decode cX7_copy 21 = .ok (.aaload, 1) := by decide +kernel
theorem dX7_copy_22 : decode cX7_copy 22 = .ok (.astore 6, 2) := by decide +kernel
theorem dX7_copy_24 : decode cX7_copy 24 = .ok (.aload_n 0, 1) := by decide +kernel
theorem dX7_copy_25 : decode cX7_copy 25 = .ok (.getfield 73, 3) := by decide +kernel
theorem dX7_copy_28 : decode cX7_copy 28 = .ok (.iload_n 3, 1) := by decide +kernel
theorem dX7_copy_29 : decode cX7_copy 29 = .ok (.aaload, 1) := by decide +kernel
theorem dX7_copy_30 : decode cX7_copy 30 = .ok (.astore 7, 2) := by decide +kernel
theorem dX7_copy_32 : decode cX7_copy 32 = .ok (.aload 6, 2) := by decide +kernel
theorem dX7_copy_34 : decode cX7_copy 34 = .ok (.getfield 244, 3) := by decide +kernel
theorem dX7_copy_37 : decode cX7_copy 37 = .ok (.iconst (-1), 1) := by decide +kernel
theorem dX7_copy_38 : decode cX7_copy 38 = .ok (.if_icmp .eq 12, 3) := by decide +kernel
theorem dX7_copy_41 : decode cX7_copy 41 = .ok (.aload 7, 2) := by decide +kernel
theorem dX7_copy_43 : decode cX7_copy 43 = .ok (.getfield 244, 3) := by decide +kernel
theorem dX7_copy_46 : decode cX7_copy 46 = .ok (.iconst (-1), 1) := by decide +kernel
theorem dX7_copy_47 : decode cX7_copy 47 = .ok (.if_icmp .ne 6, 3) := by decide +kernel
theorem dX7_copy_50 : decode cX7_copy 50 = .ok (.bipush (-11), 2) := by decide +kernel
theorem dX7_copy_52 : decode cX7_copy 52 = .ok (.ireturn, 1) := by decide +kernel
theorem dX7_copy_53 : decode cX7_copy 53 = .ok (.aload 6, 2) := by decide +kernel
theorem dX7_copy_55 : decode cX7_copy 55 = .ok (.getfield 245, 3) := by decide +kernel
theorem dX7_copy_58 : decode cX7_copy 58 = .ok (.aload 7, 2) := by decide +kernel
theorem dX7_copy_60 : decode cX7_copy 60 = .ok (.getfield 245, 3) := by decide +kernel
theorem dX7_copy_63 : decode cX7_copy 63 = .ok (.if_icmp .eq 6, 3) := by decide +kernel
theorem dX7_copy_66 : decode cX7_copy 66 = .ok (.bipush (-12), 2) := by decide +kernel
theorem dX7_copy_68 : decode cX7_copy 68 = .ok (.ireturn, 1) := by decide +kernel
theorem dX7_copy_69 : decode cX7_copy 69 = .ok (.aload 6, 2) := by decide +kernel
theorem dX7_copy_71 : decode cX7_copy 71 = .ok (.iload_n 2, 1) := by decide +kernel
theorem dX7_copy_72 : decode cX7_copy 72 = .ok (.iload 5, 2) := by decide +kernel
theorem dX7_copy_74 : decode cX7_copy 74 = .ok (.invokevirtual 214, 3) := by decide +kernel
theorem dX7_copy_77 : decode cX7_copy 77 = .ok (.ifCond .eq 15, 3) := by decide +kernel
theorem dX7_copy_80 : decode cX7_copy 80 = .ok (.aload 7, 2) := by decide +kernel
theorem dX7_copy_82 : decode cX7_copy 82 = .ok (.iload 4, 2) := by decide +kernel
theorem dX7_copy_84 : decode cX7_copy 84 = .ok (.iload 5, 2) := by decide +kernel
theorem dX7_copy_86 : decode cX7_copy 86 = .ok (.invokevirtual 214, 3) := by decide +kernel
theorem dX7_copy_89 : decode cX7_copy 89 = .ok (.ifCond .ne 6, 3) := by decide +kernel
theorem dX7_copy_92 : decode cX7_copy 92 = .ok (.bipush (-13), 2) := by decide +kernel
theorem dX7_copy_94 : decode cX7_copy 94 = .ok (.ireturn, 1) := by decide +kernel
theorem dX7_copy_95 : decode cX7_copy 95 = .ok (.aload 6, 2) := by decide +kernel
theorem dX7_copy_97 : decode cX7_copy 97 = .ok (.getfield 248, 3) := by decide +kernel
theorem dX7_copy_100 : decode cX7_copy 100 = .ok (.iload_n 2, 1) := by decide +kernel
theorem dX7_copy_101 : decode cX7_copy 101 = .ok (.aload 7, 2) := by decide +kernel
theorem dX7_copy_103 : decode cX7_copy 103 = .ok (.getfield 248, 3) := by decide +kernel
theorem dX7_copy_106 : decode cX7_copy 106 = .ok (.iload 4, 2) := by decide +kernel
theorem dX7_copy_108 : decode cX7_copy 108 = .ok (.iload 5, 2) := by decide +kernel
theorem dX7_copy_110 : decode cX7_copy 110 = .ok (.invokestatic 251, 3) := by decide +kernel
theorem dX7_copy_113 : decode cX7_copy 113 = .ok (.iload 5, 2) := by decide +kernel
theorem dX7_copy_115 : decode cX7_copy 115 = .ok (.ireturn, 1) := by decide +kernel
theorem dX7_isPlace_0 : decode cX7_isPlace 0 = .ok (.iload_n 0, 1) := by decide +kernel
theorem dX7_isPlace_1 : decode cX7_isPlace 1 = .ok (.ifCond .lt 13, 3) := by decide +kernel
theorem dX7_isPlace_4 : decode cX7_isPlace 4 = .ok (.iload_n 0, 1) := by decide +kernel
theorem dX7_isPlace_5 : decode cX7_isPlace 5 = .ok (.bipush 10, 2) := by decide +kernel
theorem dX7_isPlace_7 : decode cX7_isPlace 7 = .ok (.if_icmp .gt 7, 3) := by decide +kernel
theorem dX7_isPlace_10 : decode cX7_isPlace 10 = .ok (.iconst 1, 1) := by decide +kernel
theorem dX7_isPlace_11 : decode cX7_isPlace 11 = .ok (.goto 4, 3) := by decide +kernel
theorem dX7_isPlace_14 : decode cX7_isPlace 14 = .ok (.iconst 0, 1) := by decide +kernel
theorem dX7_isPlace_15 : decode cX7_isPlace 15 = .ok (.ireturn, 1) := by decide +kernel
theorem dX7_mayHaveDoor_0 : decode cX7_mayHaveDoor 0 = .ok (.iload_n 0, 1) := by decide +kernel
theorem dX7_mayHaveDoor_1 : decode cX7_mayHaveDoor 1 = .ok (.iload_n 1, 1) := by decide +kernel
theorem dX7_mayHaveDoor_2 : decode cX7_mayHaveDoor 2 = .ok (.if_icmp .eq 18, 3) := by decide +kernel
theorem dX7_mayHaveDoor_5 : decode cX7_mayHaveDoor 5 = .ok (.iload_n 0, 1) := by decide +kernel
theorem dX7_mayHaveDoor_6 : decode cX7_mayHaveDoor 6 = .ok (.iload_n 1, 1) := by decide +kernel
theorem dX7_mayHaveDoor_7 : decode cX7_mayHaveDoor 7 = .ok (.isub, 1) := by decide +kernel
theorem dX7_mayHaveDoor_8 : decode cX7_mayHaveDoor 8 = .ok (.invokestatic 257, 3) := by decide +kernel
theorem dX7_mayHaveDoor_11 : decode cX7_mayHaveDoor 11 = .ok (.bipush 10, 2) := by decide +kernel
theorem dX7_mayHaveDoor_13 : decode cX7_mayHaveDoor 13 = .ok (.if_icmp .eq 7, 3) := by decide +kernel
theorem dX7_mayHaveDoor_16 : decode cX7_mayHaveDoor 16 = .ok (.iconst 1, 1) := by decide +kernel
theorem dX7_mayHaveDoor_17 : decode cX7_mayHaveDoor 17 = .ok (.goto 4, 3) := by decide +kernel
theorem dX7_mayHaveDoor_20 : decode cX7_mayHaveDoor 20 = .ok (.iconst 0, 1) := by decide +kernel
theorem dX7_mayHaveDoor_21 : decode cX7_mayHaveDoor 21 = .ok (.ireturn, 1) := by decide +kernel
theorem dX7_isKind_0 : decode cX7_isKind 0 = .ok (.iload_n 0, 1) := by decide +kernel
theorem dX7_isKind_1 : decode cX7_isKind 1 = .ok (.ifCond .lt 12, 3) := by decide +kernel
theorem dX7_isKind_4 : decode cX7_isKind 4 = .ok (.iload_n 0, 1) := by decide +kernel
theorem dX7_isKind_5 : decode cX7_isKind 5 = .ok (.iconst 4, 1) := by decide +kernel
theorem dX7_isKind_6 : decode cX7_isKind 6 = .ok (.if_icmp .ge 7, 3) := by decide +kernel
theorem dX7_isKind_9 : decode cX7_isKind 9 = .ok (.iconst 1, 1) := by decide +kernel
theorem dX7_isKind_10 : decode cX7_isKind 10 = .ok (.goto 4, 3) := by decide +kernel
theorem dX7_isKind_13 : decode cX7_isKind 13 = .ok (.iconst 0, 1) := by decide +kernel
theorem dX7_isKind_14 : decode cX7_isKind 14 = .ok (.ireturn, 1) := by decide +kernel
theorem dX7_isSister_0 : decode cX7_isSister 0 = .ok (.iload_n 0, 1) := by decide +kernel
theorem dX7_isSister_1 : decode cX7_isSister 1 = .ok (.ifCond .lt 12, 3) := by decide +kernel
theorem dX7_isSister_4 : decode cX7_isSister 4 = .ok (.iload_n 0, 1) := by decide +kernel
theorem dX7_isSister_5 : decode cX7_isSister 5 = .ok (.iconst 4, 1) := by decide +kernel
theorem dX7_isSister_6 : decode cX7_isSister 6 = .ok (.if_icmp .ge 7, 3) := by decide +kernel
theorem dX7_isSister_9 : decode cX7_isSister 9 = .ok (.iconst 1, 1) := by decide +kernel
theorem dX7_isSister_10 : decode cX7_isSister 10 = .ok (.goto 4, 3) := by decide +kernel
theorem dX7_isSister_13 : decode cX7_isSister 13 = .ok (.iconst 0, 1) := by decide +kernel
theorem dX7_isSister_14 : decode cX7_isSister 14 = .ok (.ireturn, 1) := by decide +kernel
theorem dX7_isStay_0 : decode cX7_isStay 0 = .ok (.iload_n 0, 1) := by decide +kernel
theorem dX7_isStay_1 : decode cX7_isStay 1 = .ok (.ifCond .lt 13, 3) := by decide +kernel
theorem dX7_isStay_4 : decode cX7_isStay 4 = .ok (.iload_n 0, 1) := by decide +kernel
theorem dX7_isStay_5 : decode cX7_isStay 5 = .ok (.bipush 30, 2) := by decide +kernel
theorem dX7_isStay_7 : decode cX7_isStay 7 = .ok (.if_icmp .gt 7, 3) := by decide +kernel
theorem dX7_isStay_10 : decode cX7_isStay 10 = .ok (.iconst 1, 1) := by decide +kernel
theorem dX7_isStay_11 : decode cX7_isStay 11 = .ok (.goto 4, 3) := by decide +kernel
theorem dX7_isStay_14 : decode cX7_isStay 14 = .ok (.iconst 0, 1) := by decide +kernel
theorem dX7_isStay_15 : decode cX7_isStay 15 = .ok (.ireturn, 1) := by decide +kernel
theorem dX7_isDayAhead_0 : decode cX7_isDayAhead 0 = .ok (.iload_n 1, 1) := by decide +kernel
theorem dX7_isDayAhead_1 : decode cX7_isDayAhead 1 = .ok (.aload_n 0, 1) := by decide +kernel
theorem dX7_isDayAhead_2 : decode cX7_isDayAhead 2 = .ok (.getfield 23, 3) := by decide +kernel
theorem dX7_isDayAhead_5 : decode cX7_isDayAhead 5 = .ok (.if_icmp .lt 14, 3) := by decide +kernel
theorem dX7_isDayAhead_8 : decode cX7_isDayAhead 8 = .ok (.iload_n 1, 1) := by decide +kernel
theorem dX7_isDayAhead_9 : decode cX7_isDayAhead 9 = .ok (.sipush 999, 3) := by decide +kernel
theorem dX7_isDayAhead_12 : decode cX7_isDayAhead 12 = .ok (.if_icmp .gt 7, 3) := by decide +kernel
theorem dX7_isDayAhead_15 : decode cX7_isDayAhead 15 = .ok (.iconst 1, 1) := by decide +kernel
theorem dX7_isDayAhead_16 : decode cX7_isDayAhead 16 = .ok (.goto 4, 3) := by decide +kernel
theorem dX7_isDayAhead_19 : decode cX7_isDayAhead 19 = .ok (.iconst 0, 1) := by decide +kernel
theorem dX7_isDayAhead_20 : decode cX7_isDayAhead 20 = .ok (.ireturn, 1) := by decide +kernel
theorem dX7_isSheet_0 : decode cX7_isSheet 0 = .ok (.iload_n 0, 1) := by decide +kernel
theorem dX7_isSheet_1 : decode cX7_isSheet 1 = .ok (.ifCond .lt 12, 3) := by decide +kernel
theorem dX7_isSheet_4 : decode cX7_isSheet 4 = .ok (.iload_n 0, 1) := by decide +kernel
theorem dX7_isSheet_5 : decode cX7_isSheet 5 = .ok (.iconst 4, 1) := by decide +kernel
theorem dX7_isSheet_6 : decode cX7_isSheet 6 = .ok (.if_icmp .ge 7, 3) := by decide +kernel
theorem dX7_isSheet_9 : decode cX7_isSheet 9 = .ok (.iconst 1, 1) := by decide +kernel
theorem dX7_isSheet_10 : decode cX7_isSheet 10 = .ok (.goto 4, 3) := by decide +kernel
theorem dX7_isSheet_13 : decode cX7_isSheet 13 = .ok (.iconst 0, 1) := by decide +kernel
theorem dX7_isSheet_14 : decode cX7_isSheet 14 = .ok (.ireturn, 1) := by decide +kernel
theorem dX7_isLane_0 : decode cX7_isLane 0 = .ok (.iload_n 0, 1) := by decide +kernel
theorem dX7_isLane_1 : decode cX7_isLane 1 = .ok (.ifCond .lt 12, 3) := by decide +kernel
theorem dX7_isLane_4 : decode cX7_isLane 4 = .ok (.iload_n 0, 1) := by decide +kernel
theorem dX7_isLane_5 : decode cX7_isLane 5 = .ok (.iconst 3, 1) := by decide +kernel
theorem dX7_isLane_6 : decode cX7_isLane 6 = .ok (.if_icmp .ge 7, 3) := by decide +kernel
theorem dX7_isLane_9 : decode cX7_isLane 9 = .ok (.iconst 1, 1) := by decide +kernel
theorem dX7_isLane_10 : decode cX7_isLane 10 = .ok (.goto 4, 3) := by decide +kernel
theorem dX7_isLane_13 : decode cX7_isLane 13 = .ok (.iconst 0, 1) := by decide +kernel
theorem dX7_isLane_14 : decode cX7_isLane 14 = .ok (.ireturn, 1) := by decide +kernel
theorem dX7_byteOf_0 : decode cX7_byteOf 0 = .ok (.lload_n 0, 1) := by decide +kernel
theorem dX7_byteOf_1 : decode cX7_byteOf 1 = .ok (.bipush 8, 2) := by decide +kernel
theorem dX7_byteOf_3 : decode cX7_byteOf 3 = .ok (.iload_n 2, 1) := by decide +kernel
theorem dX7_byteOf_4 : decode cX7_byteOf 4 = .ok (.imul, 1) := by decide +kernel
theorem dX7_byteOf_5 : decode cX7_byteOf 5 = .ok (.lshr, 1) := by decide +kernel
theorem dX7_byteOf_6 : decode cX7_byteOf 6 = .ok (.l2i, 1) := by decide +kernel
theorem dX7_byteOf_7 : decode cX7_byteOf 7 = .ok (.sipush 255, 3) := by decide +kernel
theorem dX7_byteOf_10 : decode cX7_byteOf 10 = .ok (.iand, 1) := by decide +kernel
theorem dX7_byteOf_11 : decode cX7_byteOf 11 = .ok (.ireturn, 1) := by decide +kernel
theorem dX7_refusalOf_0 : decode cX7_refusalOf 0 = .ok (.iload_n 1, 1) := by decide +kernel
theorem dX7_refusalOf_1 : decode cX7_refusalOf 1 = .ok (.invokestatic 235, 3) := by decide +kernel
theorem dX7_refusalOf_4 : decode cX7_refusalOf 4 = .ok (.ifCond .eq 10, 3) := by decide +kernel
theorem dX7_refusalOf_7 : decode cX7_refusalOf 7 = .ok (.iload_n 2, 1) := by decide +kernel
theorem dX7_refusalOf_8 : decode cX7_refusalOf 8 = .ok (.invokestatic 238, 3) := by decide +kernel
theorem dX7_refusalOf_11 : decode cX7_refusalOf 11 = .ok (.ifCond .ne 5, 3) := by decide +kernel
theorem dX7_refusalOf_14 : decode cX7_refusalOf 14 = .ok (.iconst (-1), 1) := by decide +kernel
theorem dX7_refusalOf_15 : decode cX7_refusalOf 15 = .ok (.ireturn, 1) := by decide +kernel
theorem dX7_refusalOf_16 : decode cX7_refusalOf 16 = .ok (.aload_n 0, 1) := by decide +kernel
theorem dX7_refusalOf_17 : decode cX7_refusalOf 17 = .ok (.getfield 73, 3) := by decide +kernel
theorem dX7_refusalOf_20 : decode cX7_refusalOf 20 = .ok (.iload_n 1, 1) := by decide +kernel
theorem dX7_refusalOf_21 : decode cX7_refusalOf 21 = .ok (.aaload, 1) := by decide +kernel
theorem dX7_refusalOf_22 : decode cX7_refusalOf 22 = .ok (.getfield 244, 3) := by decide +kernel
theorem dX7_refusalOf_25 : decode cX7_refusalOf 25 = .ok (.iconst (-1), 1) := by decide +kernel
theorem dX7_refusalOf_26 : decode cX7_refusalOf 26 = .ok (.if_icmp .ne 6, 3) := by decide +kernel
theorem dX7_refusalOf_29 : decode cX7_refusalOf 29 = .ok (.bipush (-11), 2) := by decide +kernel
theorem dX7_refusalOf_31 : decode cX7_refusalOf 31 = .ok (.ireturn, 1) := by decide +kernel
theorem dX7_refusalOf_32 : decode cX7_refusalOf 32 = .ok (.aload_n 0, 1) := by decide +kernel
theorem dX7_refusalOf_33 : decode cX7_refusalOf 33 = .ok (.getfield 73, 3) := by decide +kernel
theorem dX7_refusalOf_36 : decode cX7_refusalOf 36 = .ok (.iload_n 1, 1) := by decide +kernel
theorem dX7_refusalOf_37 : decode cX7_refusalOf 37 = .ok (.aaload, 1) := by decide +kernel
theorem dX7_refusalOf_38 : decode cX7_refusalOf 38 = .ok (.getfield 245, 3) := by decide +kernel
theorem dX7_refusalOf_41 : decode cX7_refusalOf 41 = .ok (.iload_n 2, 1) := by decide +kernel
theorem dX7_refusalOf_42 : decode cX7_refusalOf 42 = .ok (.if_icmp .ne 7, 3) := by decide +kernel
theorem dX7_refusalOf_45 : decode cX7_refusalOf 45 = .ok (.iconst 0, 1) := by decide +kernel
theorem dX7_refusalOf_46 : decode cX7_refusalOf 46 = .ok (.goto 5, 3) := by decide +kernel
theorem dX7_refusalOf_49 : decode cX7_refusalOf 49 = .ok (.bipush (-12), 2) := by decide +kernel
theorem dX7_refusalOf_51 : decode cX7_refusalOf 51 = .ok (.ireturn, 1) := by decide +kernel
theorem dX7_readHouse_0 : decode cX7_readHouse 0 = .ok (.aload_n 0, 1) := by decide +kernel
theorem dX7_readHouse_1 : decode cX7_readHouse 1 = .ok (.getfield 43, 3) := by decide +kernel
theorem dX7_readHouse_4 : decode cX7_readHouse 4 = .ok (.iconst 0, 1) := by decide +kernel
theorem dX7_readHouse_5 : decode cX7_readHouse 5 = .ok (.putfield 262, 3) := by decide +kernel
theorem dX7_readHouse_8 : decode cX7_readHouse 8 = .ok (.aload_n 0, 1) := by decide +kernel
theorem dX7_readHouse_9 : decode cX7_readHouse 9 = .ok (.getfield 47, 3) := by decide +kernel
theorem dX7_readHouse_12 : decode cX7_readHouse 12 = .ok (.iconst 0, 1) := by decide +kernel
theorem dX7_readHouse_13 : decode cX7_readHouse 13 = .ok (.putfield 146, 3) := by decide +kernel
theorem dX7_readHouse_16 : decode cX7_readHouse 16 = .ok (.iconst 1, 1) := by decide +kernel
theorem dX7_readHouse_17 : decode cX7_readHouse 17 = .ok (.istore_n 1, 1) := by decide +kernel
theorem dX7_readHouse_18 : decode cX7_readHouse 18 = .ok (.iconst 1, 1) := by decide +kernel
theorem dX7_readHouse_19 : decode cX7_readHouse 19 = .ok (.istore_n 2, 1) := by decide +kernel
theorem dX7_readHouse_20 : decode cX7_readHouse 20 = .ok (.iload_n 1, 1) := by decide +kernel
theorem dX7_readHouse_21 : decode cX7_readHouse 21 = .ok (.ifCond .eq 54, 3) := by decide +kernel
theorem dX7_readHouse_24 : decode cX7_readHouse 24 = .ok (.iload_n 2, 1) := by decide +kernel
theorem dX7_readHouse_25 : decode cX7_readHouse 25 = .ok (.bipush 16, 2) := by decide +kernel
theorem dX7_readHouse_27 : decode cX7_readHouse 27 = .ok (.if_icmp .gt 48, 3) := by decide +kernel
theorem dX7_readHouse_30 : decode cX7_readHouse 30 = .ok (.aload_n 0, 1) := by decide +kernel
theorem dX7_readHouse_31 : decode cX7_readHouse 31 = .ok (.invokevirtual 264, 3) := by decide +kernel
theorem dX7_readHouse_34 : decode cX7_readHouse 34 = .ok (.ifCond .ne 11, 3) := by decide +kernel
theorem dX7_readHouse_37 : decode cX7_readHouse 37 = .ok (.aload_n 0, 1) := by decide +kernel
theorem dX7_readHouse_38 : decode cX7_readHouse 38 = .ok (.getfield 43, 3) := by decide +kernel
theorem dX7_readHouse_41 : decode cX7_readHouse 41 = .ok (.invokevirtual 268, 3) := by decide +kernel
theorem dX7_readHouse_44 : decode cX7_readHouse 44 = .ok (.ireturn, 1) := by decide +kernel
theorem dX7_readHouse_45 : decode cX7_readHouse 45 = .ok (.iload_n 2, 1) := by decide +kernel
theorem dX7_readHouse_46 : decode cX7_readHouse 46 = .ok (.bipush 16, 2) := by decide +kernel
theorem dX7_readHouse_48 : decode cX7_readHouse 48 = .ok (.if_icmp .ge 19, 3) := by decide +kernel
theorem dX7_readHouse_51 : decode cX7_readHouse 51 = .ok (.aload_n 0, 1) := by decide +kernel
theorem dX7_readHouse_52 : decode cX7_readHouse 52 = .ok (.getfield 43, 3) := by decide +kernel
theorem dX7_readHouse_55 : decode cX7_readHouse 55 = .ok (.bipush 44, 2) := by decide +kernel
theorem dX7_readHouse_57 : decode cX7_readHouse 57 = .ok (.invokevirtual 271, 3) := by decide +kernel
theorem dX7_readHouse_60 : decode cX7_readHouse 60 = .ok (.ifCond .eq 7, 3) := by decide +kernel
theorem dX7_readHouse_63 : decode cX7_readHouse 63 = .ok (.iconst 1, 1) := by decide +kernel
theorem dX7_readHouse_64 : decode cX7_readHouse 64 = .ok (.goto 4, 3) := by decide +kernel
theorem dX7_readHouse_67 : decode cX7_readHouse 67 = .ok (.iconst 0, 1) := by decide +kernel
theorem dX7_readHouse_68 : decode cX7_readHouse 68 = .ok (.istore_n 1, 1) := by decide +kernel
theorem dX7_readHouse_69 : decode cX7_readHouse 69 = .ok (.iinc 2 1, 3) := by decide +kernel
theorem dX7_readHouse_72 : decode cX7_readHouse 72 = .ok (.goto (-52), 3) := by decide +kernel
theorem dX7_readHouse_75 : decode cX7_readHouse 75 = .ok (.aload_n 0, 1) := by decide +kernel
theorem dX7_readHouse_76 : decode cX7_readHouse 76 = .ok (.getfield 43, 3) := by decide +kernel
theorem dX7_readHouse_79 : decode cX7_readHouse 79 = .ok (.invokevirtual 274, 3) := by decide +kernel
theorem dX7_readHouse_82 : decode cX7_readHouse 82 = .ok (.iconst (-1), 1) := by decide +kernel
theorem dX7_readHouse_83 : decode cX7_readHouse 83 = .ok (.if_icmp .eq 11, 3) := by decide +kernel
theorem dX7_readHouse_86 : decode cX7_readHouse 86 = .ok (.aload_n 0, 1) := by decide +kernel
theorem dX7_readHouse_87 : decode cX7_readHouse 87 = .ok (.getfield 43, 3) := by decide +kernel
theorem dX7_readHouse_90 : decode cX7_readHouse 90 = .ok (.invokevirtual 268, 3) := by decide +kernel
theorem dX7_readHouse_93 : decode cX7_readHouse 93 = .ok (.ireturn, 1) := by decide +kernel
theorem dX7_readHouse_94 : decode cX7_readHouse 94 = .ok (.aload_n 0, 1) := by decide +kernel
theorem dX7_readHouse_95 : decode cX7_readHouse 95 = .ok (.getfield 10, 3) := by decide +kernel
theorem dX7_readHouse_98 : decode cX7_readHouse 98 = .ok (.aload_n 0, 1) := by decide +kernel
theorem dX7_readHouse_99 : decode cX7_readHouse 99 = .ok (.getfield 47, 3) := by decide +kernel
theorem dX7_readHouse_102 : decode cX7_readHouse 102 = .ok (.invokevirtual 204, 3) := by decide +kernel
theorem dX7_readHouse_105 : decode cX7_readHouse 105 = .ok (.aload_n 0, 1) := by decide +kernel
theorem dX7_readHouse_106 : decode cX7_readHouse 106 = .ok (.getfield 10, 3) := by decide +kernel
theorem dX7_readHouse_109 : decode cX7_readHouse 109 = .ok (.getfield 146, 3) := by decide +kernel
theorem dX7_readHouse_112 : decode cX7_readHouse 112 = .ok (.ireturn, 1) := by decide +kernel
theorem dX7_readDoor_0 : decode cX7_readDoor 0 = .ok (.aload_n 0, 1) := by decide +kernel
theorem dX7_readDoor_1 : decode cX7_readDoor 1 = .ok (.getfield 43, 3) := by decide +kernel
theorem dX7_readDoor_4 : decode cX7_readDoor 4 = .ok (.invokevirtual 277, 3) := by decide +kernel
theorem dX7_readDoor_7 : decode cX7_readDoor 7 = .ok (.istore_n 1, 1) := by decide +kernel
theorem dX7_readDoor_8 : decode cX7_readDoor 8 = .ok (.iload_n 1, 1) := by decide +kernel
theorem dX7_readDoor_9 : decode cX7_readDoor 9 = .ok (.iconst (-1), 1) := by decide +kernel
theorem dX7_readDoor_10 : decode cX7_readDoor 10 = .ok (.if_icmp .ne 5, 3) := by decide +kernel
theorem dX7_readDoor_13 : decode cX7_readDoor 13 = .ok (.iconst 0, 1) := by decide +kernel
theorem dX7_readDoor_14 : decode cX7_readDoor 14 = .ok (.ireturn, 1) := by decide +kernel
theorem dX7_readDoor_15 : decode cX7_readDoor 15 = .ok (.aload_n 0, 1) := by decide +kernel
theorem dX7_readDoor_16 : decode cX7_readDoor 16 = .ok (.getfield 43, 3) := by decide +kernel
theorem dX7_readDoor_19 : decode cX7_readDoor 19 = .ok (.dup, 1) := by decide +kernel
theorem dX7_readDoor_20 : decode cX7_readDoor 20 = .ok (.getfield 262, 3) := by decide +kernel
theorem dX7_readDoor_23 : decode cX7_readDoor 23 = .ok (.iconst 1, 1) := by decide +kernel
theorem dX7_readDoor_24 : decode cX7_readDoor 24 = .ok (.iadd, 1) := by decide +kernel
theorem dX7_readDoor_25 : decode cX7_readDoor 25 = .ok (.putfield 262, 3) := by decide +kernel
theorem dX7_readDoor_28 : decode cX7_readDoor 28 = .ok (.aload_n 0, 1) := by decide +kernel
theorem dX7_readDoor_29 : decode cX7_readDoor 29 = .ok (.getfield 43, 3) := by decide +kernel
theorem dX7_readDoor_32 : decode cX7_readDoor 32 = .ok (.bipush 45, 2) := by decide +kernel
theorem dX7_readDoor_34 : decode cX7_readDoor 34 = .ok (.invokevirtual 271, 3) := by decide +kernel
theorem dX7_readDoor_37 : decode cX7_readDoor 37 = .ok (.ifCond .ne 5, 3) := by decide +kernel
theorem dX7_readDoor_40 : decode cX7_readDoor 40 = .ok (.iconst 0, 1) := by decide +kernel
theorem dX7_readDoor_41 : decode cX7_readDoor 41 = .ok (.ireturn, 1) := by decide +kernel
theorem dX7_readDoor_42 : decode cX7_readDoor 42 = .ok (.aload_n 0, 1) := by decide +kernel
theorem dX7_readDoor_43 : decode cX7_readDoor 43 = .ok (.getfield 43, 3) := by decide +kernel
theorem dX7_readDoor_46 : decode cX7_readDoor 46 = .ok (.invokevirtual 277, 3) := by decide +kernel
theorem dX7_readDoor_49 : decode cX7_readDoor 49 = .ok (.istore_n 2, 1) := by decide +kernel
theorem dX7_readDoor_50 : decode cX7_readDoor 50 = .ok (.iload_n 2, 1) := by decide +kernel
theorem dX7_readDoor_51 : decode cX7_readDoor 51 = .ok (.iconst (-1), 1) := by decide +kernel
theorem dX7_readDoor_52 : decode cX7_readDoor 52 = .ok (.if_icmp .eq 11, 3) := by decide +kernel
theorem dX7_readDoor_55 : decode cX7_readDoor 55 = .ok (.iload_n 1, 1) := by decide +kernel
theorem dX7_readDoor_56 : decode cX7_readDoor 56 = .ok (.iload_n 2, 1) := by decide +kernel
theorem dX7_readDoor_57 : decode cX7_readDoor 57 = .ok (.invokestatic 82, 3) := by decide +kernel
theorem dX7_readDoor_60 : decode cX7_readDoor 60 = .ok (.ifCond .ne 5, 3) := by decide +kernel
theorem dX7_readDoor_63 : decode cX7_readDoor 63 = .ok (.iconst 0, 1) := by decide +kernel
theorem dX7_readDoor_64 : decode cX7_readDoor 64 = .ok (.ireturn, 1) := by decide +kernel
theorem dX7_readDoor_65 : decode cX7_readDoor 65 = .ok (.aload_n 0, 1) := by decide +kernel
theorem dX7_readDoor_66 : decode cX7_readDoor 66 = .ok (.getfield 43, 3) := by decide +kernel
theorem dX7_readDoor_69 : decode cX7_readDoor 69 = .ok (.dup, 1) := by decide +kernel
theorem dX7_readDoor_70 : decode cX7_readDoor 70 = .ok (.getfield 262, 3) := by decide +kernel
theorem dX7_readDoor_73 : decode cX7_readDoor 73 = .ok (.iconst 1, 1) := by decide +kernel
theorem dX7_readDoor_74 : decode cX7_readDoor 74 = .ok (.iadd, 1) := by decide +kernel
theorem dX7_readDoor_75 : decode cX7_readDoor 75 = .ok (.putfield 262, 3) := by decide +kernel
theorem dX7_readDoor_78 : decode cX7_readDoor 78 = .ok (.bipush 8, 2) := by decide +kernel
theorem dX7_readDoor_80 : decode cX7_readDoor 80 = .ok (.istore_n 3, 1) := by decide +kernel
theorem dX7_readDoor_81 : decode cX7_readDoor 81 = .ok (.aload_n 0, 1) := by decide +kernel
theorem dX7_readDoor_82 : decode cX7_readDoor 82 = .ok (.getfield 43, 3) := by decide +kernel
theorem dX7_readDoor_85 : decode cX7_readDoor 85 = .ok (.bipush 108, 2) := by decide +kernel
theorem dX7_readDoor_87 : decode cX7_readDoor 87 = .ok (.invokevirtual 271, 3) := by decide +kernel
theorem dX7_readDoor_90 : decode cX7_readDoor 90 = .ok (.ifCond .eq 13, 3) := by decide +kernel
theorem dX7_readDoor_93 : decode cX7_readDoor 93 = .ok (.aload_n 0, 1) := by decide +kernel
theorem dX7_readDoor_94 : decode cX7_readDoor 94 = .ok (.getfield 43, 3) := by decide +kernel
theorem dX7_readDoor_97 : decode cX7_readDoor 97 = .ok (.bipush 8, 2) := by decide +kernel
theorem dX7_readDoor_99 : decode cX7_readDoor 99 = .ok (.invokevirtual 280, 3) := by decide +kernel
theorem dX7_readDoor_102 : decode cX7_readDoor 102 = .ok (.istore_n 3, 1) := by decide +kernel
theorem dX7_readDoor_103 : decode cX7_readDoor 103 = .ok (.iload_n 3, 1) := by decide +kernel
theorem dX7_readDoor_104 : decode cX7_readDoor 104 = .ok (.iconst (-1), 1) := by decide +kernel
theorem dX7_readDoor_105 : decode cX7_readDoor 105 = .ok (.if_icmp .eq 20, 3) := by decide +kernel
theorem dX7_readDoor_108 : decode cX7_readDoor 108 = .ok (.aload_n 0, 1) := by decide +kernel
theorem dX7_readDoor_109 : decode cX7_readDoor 109 = .ok (.getfield 47, 3) := by decide +kernel
theorem dX7_readDoor_112 : decode cX7_readDoor 112 = .ok (.iload_n 1, 1) := by decide +kernel
theorem dX7_readDoor_113 : decode cX7_readDoor 113 = .ok (.iload_n 2, 1) := by decide +kernel
theorem dX7_readDoor_114 : decode cX7_readDoor 114 = .ok (.iload_n 3, 1) := by decide +kernel
theorem dX7_readDoor_115 : decode cX7_readDoor 115 = .ok (.invokevirtual 86, 3) := by decide +kernel
theorem dX7_readDoor_118 : decode cX7_readDoor 118 = .ok (.ifCond .lt 7, 3) := by decide +kernel
theorem dX7_readDoor_121 : decode cX7_readDoor 121 = .ok (.iconst 1, 1) := by decide +kernel
theorem dX7_readDoor_122 : decode cX7_readDoor 122 = .ok (.goto 4, 3) := by decide +kernel
theorem dX7_readDoor_125 : decode cX7_readDoor 125 = .ok (.iconst 0, 1) := by decide +kernel
theorem dX7_readDoor_126 : decode cX7_readDoor 126 = .ok (.ireturn, 1) := by decide +kernel
theorem dX7_readWeek_0 : decode cX7_readWeek 0 = .ok (.aload_n 0, 1) := by decide +kernel
theorem dX7_readWeek_1 : decode cX7_readWeek 1 = .ok (.getfield 43, 3) := by decide +kernel
theorem dX7_readWeek_4 : decode cX7_readWeek 4 = .ok (.iconst 0, 1) := by decide +kernel
theorem dX7_readWeek_5 : decode cX7_readWeek 5 = .ok (.putfield 262, 3) := by decide +kernel
theorem dX7_readWeek_8 : decode cX7_readWeek 8 = .ok (.iconst 0, 1) := by decide +kernel
theorem dX7_readWeek_9 : decode cX7_readWeek 9 = .ok (.istore_n 2, 1) := by decide +kernel
theorem dX7_readWeek_10 : decode cX7_readWeek 10 = .ok (.iconst 1, 1) := by decide +kernel
theorem dX7_readWeek_11 : decode cX7_readWeek 11 = .ok (.istore_n 3, 1) := by decide +kernel
theorem dX7_readWeek_12 : decode cX7_readWeek 12 = .ok (.iconst 0, 1) := by decide +kernel
theorem dX7_readWeek_13 : decode cX7_readWeek 13 = .ok (.istore 4, 2) := by decide +kernel
theorem dX7_readWeek_15 : decode cX7_readWeek 15 = .ok (.iload_n 3, 1) := by decide +kernel
theorem dX7_readWeek_16 : decode cX7_readWeek 16 = .ok (.ifCond .eq 58, 3) := by decide +kernel
theorem dX7_readWeek_19 : decode cX7_readWeek 19 = .ok (.iload 4, 2) := by decide +kernel
theorem dX7_readWeek_21 : decode cX7_readWeek 21 = .ok (.sipush 160, 3) := by decide +kernel
theorem dX7_readWeek_24 : decode cX7_readWeek 24 = .ok (.if_icmp .ge 50, 3) := by decide +kernel
theorem dX7_readWeek_27 : decode cX7_readWeek 27 = .ok (.aload_n 0, 1) := by decide +kernel
theorem dX7_readWeek_28 : decode cX7_readWeek 28 = .ok (.invokevirtual 283, 3) := by decide +kernel
theorem dX7_readWeek_31 : decode cX7_readWeek 31 = .ok (.ifCond .ne 11, 3) := by decide +kernel
theorem dX7_readWeek_34 : decode cX7_readWeek 34 = .ok (.aload_n 0, 1) := by decide +kernel
theorem dX7_readWeek_35 : decode cX7_readWeek 35 = .ok (.getfield 43, 3) := by decide +kernel
theorem dX7_readWeek_38 : decode cX7_readWeek 38 = .ok (.invokevirtual 268, 3) := by decide +kernel
theorem dX7_readWeek_41 : decode cX7_readWeek 41 = .ok (.ireturn, 1) := by decide +kernel
theorem dX7_readWeek_42 : decode cX7_readWeek 42 = .ok (.iload_n 1, 1) := by decide +kernel
theorem dX7_readWeek_43 : decode cX7_readWeek 43 = .ok (.ifCond .eq 12, 3) := by decide +kernel
theorem dX7_readWeek_46 : decode cX7_readWeek 46 = .ok (.aload_n 0, 1) := by decide +kernel
theorem dX7_readWeek_47 : decode cX7_readWeek 47 = .ok (.invokevirtual 286, 3) := by decide +kernel
theorem dX7_readWeek_50 : decode cX7_readWeek 50 = .ok (.ifCond .ne 5, 3) := by decide +kernel
theorem dX7_readWeek_53 : decode cX7_readWeek 53 = .ok (.iload_n 2, 1) := by decide +kernel
theorem dX7_readWeek_54 : decode cX7_readWeek 54 = .ok (.ireturn, 1) := by decide +kernel
theorem dX7_readWeek_55 : decode cX7_readWeek 55 = .ok (.iinc 2 1, 3) := by decide +kernel
theorem dX7_readWeek_58 : decode cX7_readWeek 58 = .ok (.aload_n 0, 1) := by decide +kernel
theorem dX7_readWeek_59 : decode cX7_readWeek 59 = .ok (.getfield 43, 3) := by decide +kernel
theorem dX7_readWeek_62 : decode cX7_readWeek 62 = .ok (.bipush 59, 2) := by decide +kernel
theorem dX7_readWeek_64 : decode cX7_readWeek 64 = .ok (.invokevirtual 271, 3) := by decide +kernel
theorem dX7_readWeek_67 : decode cX7_readWeek 67 = .ok (.istore_n 3, 1) := by decide +kernel
theorem dX7_readWeek_68 : decode cX7_readWeek 68 = .ok (.iinc 4 1, 3) := by decide +kernel
theorem dX7_readWeek_71 : decode cX7_readWeek 71 = .ok (.goto (-56), 3) := by decide +kernel
theorem dX7_readWeek_74 : decode cX7_readWeek 74 = .ok (.aload_n 0, 1) := by decide +kernel
theorem dX7_readWeek_75 : decode cX7_readWeek 75 = .ok (.getfield 43, 3) := by decide +kernel
theorem dX7_readWeek_78 : decode cX7_readWeek 78 = .ok (.invokevirtual 274, 3) := by decide +kernel
theorem dX7_readWeek_81 : decode cX7_readWeek 81 = .ok (.iconst (-1), 1) := by decide +kernel
theorem dX7_readWeek_82 : decode cX7_readWeek 82 = .ok (.if_icmp .ne 7, 3) := by decide +kernel
theorem dX7_readWeek_85 : decode cX7_readWeek 85 = .ok (.iload_n 2, 1) := by decide +kernel
theorem dX7_readWeek_86 : decode cX7_readWeek 86 = .ok (.goto 10, 3) := by decide +kernel
theorem dX7_readWeek_89 : decode cX7_readWeek 89 = .ok (.aload_n 0, 1) := by decide +kernel
theorem dX7_readWeek_90 : decode cX7_readWeek 90 = .ok (.getfield 43, 3) := by decide +kernel
theorem dX7_readWeek_93 : decode cX7_readWeek 93 = .ok (.invokevirtual 268, 3) := by decide +kernel
theorem dX7_readWeek_96 : decode cX7_readWeek 96 = .ok (.ireturn, 1) := by decide +kernel
theorem dX7_readAct_0 : decode cX7_readAct 0 = .ok (.aload_n 0, 1) := by decide +kernel
theorem dX7_readAct_1 : decode cX7_readAct 1 = .ok (.getfield 53, 3) := by decide +kernel
theorem dX7_readAct_4 : decode cX7_readAct 4 = .ok (.aload_n 0, 1) := by decide +kernel
theorem dX7_readAct_5 : decode cX7_readAct 5 = .ok (.getfield 43, 3) := by decide +kernel
theorem dX7_readAct_8 : decode cX7_readAct 8 = .ok (.invokevirtual 274, 3) := by decide +kernel
theorem dX7_readAct_11 : decode cX7_readAct 11 = .ok (.putfield 289, 3) := by decide +kernel
theorem dX7_readAct_14 : decode cX7_readAct 14 = .ok (.aload_n 0, 1) := by decide +kernel
theorem dX7_readAct_15 : decode cX7_readAct 15 = .ok (.getfield 53, 3) := by decide +kernel
theorem dX7_readAct_18 : decode cX7_readAct 18 = .ok (.getfield 289, 3) := by decide +kernel
theorem dX7_readAct_21 : decode cX7_readAct 21 = .ok (.lookupswitch 250 #[(99, 142), (110, 235), (118, 43), (119, 61)], 43) := by decide +kernel
theorem dX7_readAct_64 : decode cX7_readAct 64 = .ok (.aload_n 0, 1) := by decide +kernel
theorem dX7_readAct_65 : decode cX7_readAct 65 = .ok (.getfield 43, 3) := by decide +kernel
theorem dX7_readAct_68 : decode cX7_readAct 68 = .ok (.dup, 1) := by decide +kernel
theorem dX7_readAct_69 : decode cX7_readAct 69 = .ok (.getfield 262, 3) := by decide +kernel
theorem dX7_readAct_72 : decode cX7_readAct 72 = .ok (.iconst 1, 1) := by decide +kernel
theorem dX7_readAct_73 : decode cX7_readAct 73 = .ok (.iadd, 1) := by decide +kernel
theorem dX7_readAct_74 : decode cX7_readAct 74 = .ok (.putfield 262, 3) := by decide +kernel
theorem dX7_readAct_77 : decode cX7_readAct 77 = .ok (.aload_n 0, 1) := by decide +kernel
theorem dX7_readAct_78 : decode cX7_readAct 78 = .ok (.invokevirtual 292, 3) := by decide +kernel
theorem dX7_readAct_81 : decode cX7_readAct 81 = .ok (.ireturn, 1) := by decide +kernel
theorem dX7_readAct_82 : decode cX7_readAct 82 = .ok (.aload_n 0, 1) := by decide +kernel
theorem dX7_readAct_83 : decode cX7_readAct 83 = .ok (.getfield 43, 3) := by decide +kernel
theorem dX7_readAct_86 : decode cX7_readAct 86 = .ok (.dup, 1) := by decide +kernel
theorem dX7_readAct_87 : decode cX7_readAct 87 = .ok (.getfield 262, 3) := by decide +kernel
theorem dX7_readAct_90 : decode cX7_readAct 90 = .ok (.iconst 1, 1) := by decide +kernel
theorem dX7_readAct_91 : decode cX7_readAct 91 = .ok (.iadd, 1) := by decide +kernel
theorem dX7_readAct_92 : decode cX7_readAct 92 = .ok (.putfield 262, 3) := by decide +kernel
theorem dX7_readAct_95 : decode cX7_readAct 95 = .ok (.aload_n 0, 1) := by decide +kernel
theorem dX7_readAct_96 : decode cX7_readAct 96 = .ok (.getfield 53, 3) := by decide +kernel
theorem dX7_readAct_99 : decode cX7_readAct 99 = .ok (.aload_n 0, 1) := by decide +kernel
theorem dX7_readAct_100 : decode cX7_readAct 100 = .ok (.getfield 43, 3) := by decide +kernel
theorem dX7_readAct_103 : decode cX7_readAct 103 = .ok (.iconst 4, 1) := by decide +kernel
theorem dX7_readAct_104 : decode cX7_readAct 104 = .ok (.invokevirtual 280, 3) := by decide +kernel
theorem dX7_readAct_107 : decode cX7_readAct 107 = .ok (.putfield 295, 3) := by decide +kernel
theorem dX7_readAct_110 : decode cX7_readAct 110 = .ok (.aload_n 0, 1) := by decide +kernel
theorem dX7_readAct_111 : decode cX7_readAct 111 = .ok (.getfield 53, 3) := by decide +kernel
theorem dX7_readAct_114 : decode cX7_readAct 114 = .ok (.aload_n 0, 1) := by decide +kernel
theorem dX7_readAct_115 : decode cX7_readAct 115 = .ok (.getfield 53, 3) := by decide +kernel
theorem dX7_readAct_118 : decode cX7_readAct 118 = .ok (.getfield 295, 3) := by decide +kernel
theorem dX7_readAct_121 : decode cX7_readAct 121 = .ok (.iconst (-1), 1) := by decide +kernel
theorem dX7_readAct_122 : decode cX7_readAct 122 = .ok (.if_icmp .ne 7, 3) := by decide +kernel
theorem dX7_readAct_125 : decode cX7_readAct 125 = .ok (.iconst (-1), 1) := by decide +kernel
theorem dX7_readAct_126 : decode cX7_readAct 126 = .ok (.goto 17, 3) := by decide +kernel
theorem dX7_readAct_129 : decode cX7_readAct 129 = .ok (.aload_n 0, 1) := by decide +kernel
theorem dX7_readAct_130 : decode cX7_readAct 130 = .ok (.getfield 43, 3) := by decide +kernel
theorem dX7_readAct_133 : decode cX7_readAct 133 = .ok (.aload_n 0, 1) := by decide +kernel
theorem dX7_readAct_134 : decode cX7_readAct 134 = .ok (.getfield 19, 3) := by decide +kernel
theorem dX7_readAct_137 : decode cX7_readAct 137 = .ok (.getfield 149, 3) := by decide +kernel
theorem dX7_readAct_140 : decode cX7_readAct 140 = .ok (.invokevirtual 280, 3) := by decide +kernel
theorem dX7_readAct_143 : decode cX7_readAct 143 = .ok (.putfield 298, 3) := by decide +kernel
theorem dX7_readAct_146 : decode cX7_readAct 146 = .ok (.aload_n 0, 1) := by decide +kernel
theorem dX7_readAct_147 : decode cX7_readAct 147 = .ok (.getfield 53, 3) := by decide +kernel
theorem dX7_readAct_150 : decode cX7_readAct 150 = .ok (.getfield 298, 3) := by decide +kernel
theorem dX7_readAct_153 : decode cX7_readAct 153 = .ok (.iconst (-1), 1) := by decide +kernel
theorem dX7_readAct_154 : decode cX7_readAct 154 = .ok (.if_icmp .eq 7, 3) := by decide +kernel
theorem dX7_readAct_157 : decode cX7_readAct 157 = .ok (.iconst 1, 1) := by decide +kernel
theorem dX7_readAct_158 : decode cX7_readAct 158 = .ok (.goto 4, 3) := by decide +kernel
theorem dX7_readAct_161 : decode cX7_readAct 161 = .ok (.iconst 0, 1) := by decide +kernel
theorem dX7_readAct_162 : decode cX7_readAct 162 = .ok (.ireturn, 1) := by decide +kernel
theorem dX7_readAct_163 : decode cX7_readAct 163 = .ok (.aload_n 0, 1) := by decide +kernel
theorem dX7_readAct_164 : decode cX7_readAct 164 = .ok (.getfield 43, 3) := by decide +kernel
theorem dX7_readAct_167 : decode cX7_readAct 167 = .ok (.dup, 1) := by decide +kernel
theorem dX7_readAct_168 : decode cX7_readAct 168 = .ok (.getfield 262, 3) := by decide +kernel
theorem dX7_readAct_171 : decode cX7_readAct 171 = .ok (.iconst 1, 1) := by decide +kernel
theorem dX7_readAct_172 : decode cX7_readAct 172 = .ok (.iadd, 1) := by decide +kernel
theorem dX7_readAct_173 : decode cX7_readAct 173 = .ok (.putfield 262, 3) := by decide +kernel
theorem dX7_readAct_176 : decode cX7_readAct 176 = .ok (.aload_n 0, 1) := by decide +kernel
theorem dX7_readAct_177 : decode cX7_readAct 177 = .ok (.getfield 53, 3) := by decide +kernel
theorem dX7_readAct_180 : decode cX7_readAct 180 = .ok (.aload_n 0, 1) := by decide +kernel
theorem dX7_readAct_181 : decode cX7_readAct 181 = .ok (.getfield 43, 3) := by decide +kernel
theorem dX7_readAct_184 : decode cX7_readAct 184 = .ok (.aload_n 0, 1) := by decide +kernel
theorem dX7_readAct_185 : decode cX7_readAct 185 = .ok (.getfield 19, 3) := by decide +kernel
theorem dX7_readAct_188 : decode cX7_readAct 188 = .ok (.getfield 149, 3) := by decide +kernel
theorem dX7_readAct_191 : decode cX7_readAct 191 = .ok (.invokevirtual 280, 3) := by decide +kernel
theorem dX7_readAct_194 : decode cX7_readAct 194 = .ok (.putfield 298, 3) := by decide +kernel
theorem dX7_readAct_197 : decode cX7_readAct 197 = .ok (.aload_n 0, 1) := by decide +kernel
theorem dX7_readAct_198 : decode cX7_readAct 198 = .ok (.getfield 53, 3) := by decide +kernel
theorem dX7_readAct_201 : decode cX7_readAct 201 = .ok (.aload_n 0, 1) := by decide +kernel
theorem dX7_readAct_202 : decode cX7_readAct 202 = .ok (.getfield 53, 3) := by decide +kernel
theorem dX7_readAct_205 : decode cX7_readAct 205 = .ok (.getfield 298, 3) := by decide +kernel
theorem dX7_readAct_208 : decode cX7_readAct 208 = .ok (.iconst (-1), 1) := by decide +kernel
theorem dX7_readAct_209 : decode cX7_readAct 209 = .ok (.if_icmp .eq 26, 3) := by decide +kernel
theorem dX7_readAct_212 : decode cX7_readAct 212 = .ok (.aload_n 0, 1) := by decide +kernel
theorem dX7_readAct_213 : decode cX7_readAct 213 = .ok (.getfield 43, 3) := by decide +kernel
theorem dX7_readAct_216 : decode cX7_readAct 216 = .ok (.bipush 62, 2) := by decide +kernel
theorem dX7_readAct_218 : decode cX7_readAct 218 = .ok (.invokevirtual 271, 3) := by decide +kernel
theorem dX7_readAct_221 : decode cX7_readAct 221 = .ok (.ifCond .eq 14, 3) := by decide +kernel
theorem dX7_readAct_224 : decode cX7_readAct 224 = .ok (.aload_n 0, 1) := by decide +kernel
theorem dX7_readAct_225 : decode cX7_readAct 225 = .ok (.getfield 43, 3) := by decide +kernel
theorem dX7_readAct_228 : decode cX7_readAct 228 = .ok (.iconst 5, 1) := by decide +kernel
theorem dX7_readAct_229 : decode cX7_readAct 229 = .ok (.invokevirtual 280, 3) := by decide +kernel
theorem dX7_readAct_232 : decode cX7_readAct 232 = .ok (.goto 4, 3) := by decide +kernel
theorem dX7_readAct_235 : decode cX7_readAct 235 = .ok (.iconst (-1), 1) := by decide +kernel
theorem dX7_readAct_236 : decode cX7_readAct 236 = .ok (.putfield 301, 3) := by decide +kernel
theorem dX7_readAct_239 : decode cX7_readAct 239 = .ok (.aload_n 0, 1) := by decide +kernel
theorem dX7_readAct_240 : decode cX7_readAct 240 = .ok (.getfield 53, 3) := by decide +kernel
theorem dX7_readAct_243 : decode cX7_readAct 243 = .ok (.getfield 301, 3) := by decide +kernel
theorem dX7_readAct_246 : decode cX7_readAct 246 = .ok (.iconst (-1), 1) := by decide +kernel
theorem dX7_readAct_247 : decode cX7_readAct 247 = .ok (.if_icmp .eq 7, 3) := by decide +kernel
theorem dX7_readAct_250 : decode cX7_readAct 250 = .ok (.iconst 1, 1) := by decide +kernel
theorem dX7_readAct_251 : decode cX7_readAct 251 = .ok (.goto 4, 3) := by decide +kernel
theorem dX7_readAct_254 : decode cX7_readAct 254 = .ok (.iconst 0, 1) := by decide +kernel
theorem dX7_readAct_255 : decode cX7_readAct 255 = .ok (.ireturn, 1) := by decide +kernel
theorem dX7_readAct_256 : decode cX7_readAct 256 = .ok (.aload_n 0, 1) := by decide +kernel
theorem dX7_readAct_257 : decode cX7_readAct 257 = .ok (.getfield 43, 3) := by decide +kernel
theorem dX7_readAct_260 : decode cX7_readAct 260 = .ok (.dup, 1) := by decide +kernel
theorem dX7_readAct_261 : decode cX7_readAct 261 = .ok (.getfield 262, 3) := by decide +kernel
theorem dX7_readAct_264 : decode cX7_readAct 264 = .ok (.iconst 1, 1) := by decide +kernel
theorem dX7_readAct_265 : decode cX7_readAct 265 = .ok (.iadd, 1) := by decide +kernel
theorem dX7_readAct_266 : decode cX7_readAct 266 = .ok (.putfield 262, 3) := by decide +kernel
theorem dX7_readAct_269 : decode cX7_readAct 269 = .ok (.iconst 1, 1) := by decide +kernel
theorem dX7_readAct_270 : decode cX7_readAct 270 = .ok (.ireturn, 1) := by decide +kernel
theorem dX7_readAct_271 : decode cX7_readAct 271 = .ok (.iconst 0, 1) := by decide +kernel
theorem dX7_readAct_272 : decode cX7_readAct 272 = .ok (.ireturn, 1) := by decide +kernel
theorem dX7_readVisit_0 : decode cX7_readVisit 0 = .ok (.aload_n 0, 1) := by decide +kernel
theorem dX7_readVisit_1 : decode cX7_readVisit 1 = .ok (.getfield 53, 3) := by decide +kernel
theorem dX7_readVisit_4 : decode cX7_readVisit 4 = .ok (.aload_n 0, 1) := by decide +kernel
theorem dX7_readVisit_5 : decode cX7_readVisit 5 = .ok (.getfield 43, 3) := by decide +kernel
theorem dX7_readVisit_8 : decode cX7_readVisit 8 = .ok (.iconst 4, 1) := by decide +kernel
theorem dX7_readVisit_9 : decode cX7_readVisit 9 = .ok (.invokevirtual 280, 3) := by decide +kernel
theorem dX7_readVisit_12 : decode cX7_readVisit 12 = .ok (.putfield 295, 3) := by decide +kernel
theorem dX7_readVisit_15 : decode cX7_readVisit 15 = .ok (.aload_n 0, 1) := by decide +kernel
theorem dX7_readVisit_16 : decode cX7_readVisit 16 = .ok (.getfield 53, 3) := by decide +kernel
theorem dX7_readVisit_19 : decode cX7_readVisit 19 = .ok (.getfield 295, 3) := by decide +kernel
theorem dX7_readVisit_22 : decode cX7_readVisit 22 = .ok (.iconst (-1), 1) := by decide +kernel
theorem dX7_readVisit_23 : decode cX7_readVisit 23 = .ok (.if_icmp .eq 15, 3) := by decide +kernel
theorem dX7_readVisit_26 : decode cX7_readVisit 26 = .ok (.aload_n 0, 1) := by decide +kernel
theorem dX7_readVisit_27 : decode cX7_readVisit 27 = .ok (.getfield 43, 3) := by decide +kernel
theorem dX7_readVisit_30 : decode cX7_readVisit 30 = .ok (.bipush 62, 2) := by decide +kernel
theorem dX7_readVisit_32 : decode cX7_readVisit 32 = .ok (.invokevirtual 271, 3) := by decide +kernel
theorem dX7_readVisit_35 : decode cX7_readVisit 35 = .ok (.ifCond .ne 5, 3) := by decide +kernel
theorem dX7_readVisit_38 : decode cX7_readVisit 38 = .ok (.iconst 0, 1) := by decide +kernel
theorem dX7_readVisit_39 : decode cX7_readVisit 39 = .ok (.ireturn, 1) := by decide +kernel
theorem dX7_readVisit_40 : decode cX7_readVisit 40 = .ok (.aload_n 0, 1) := by decide +kernel
theorem dX7_readVisit_41 : decode cX7_readVisit 41 = .ok (.getfield 53, 3) := by decide +kernel
theorem dX7_readVisit_44 : decode cX7_readVisit 44 = .ok (.aload_n 0, 1) := by decide +kernel
theorem dX7_readVisit_45 : decode cX7_readVisit 45 = .ok (.getfield 43, 3) := by decide +kernel
theorem dX7_readVisit_48 : decode cX7_readVisit 48 = .ok (.bipush 10, 2) := by decide +kernel
theorem dX7_readVisit_50 : decode cX7_readVisit 50 = .ok (.invokevirtual 280, 3) := by decide +kernel
theorem dX7_readVisit_53 : decode cX7_readVisit 53 = .ok (.putfield 301, 3) := by decide +kernel
theorem dX7_readVisit_56 : decode cX7_readVisit 56 = .ok (.aload_n 0, 1) := by decide +kernel
theorem dX7_readVisit_57 : decode cX7_readVisit 57 = .ok (.getfield 53, 3) := by decide +kernel
theorem dX7_readVisit_60 : decode cX7_readVisit 60 = .ok (.getfield 301, 3) := by decide +kernel
theorem dX7_readVisit_63 : decode cX7_readVisit 63 = .ok (.iconst (-1), 1) := by decide +kernel
theorem dX7_readVisit_64 : decode cX7_readVisit 64 = .ok (.if_icmp .eq 15, 3) := by decide +kernel
theorem dX7_readVisit_67 : decode cX7_readVisit 67 = .ok (.aload_n 0, 1) := by decide +kernel
theorem dX7_readVisit_68 : decode cX7_readVisit 68 = .ok (.getfield 43, 3) := by decide +kernel
theorem dX7_readVisit_71 : decode cX7_readVisit 71 = .ok (.bipush 58, 2) := by decide +kernel
theorem dX7_readVisit_73 : decode cX7_readVisit 73 = .ok (.invokevirtual 271, 3) := by decide +kernel
theorem dX7_readVisit_76 : decode cX7_readVisit 76 = .ok (.ifCond .ne 5, 3) := by decide +kernel
theorem dX7_readVisit_79 : decode cX7_readVisit 79 = .ok (.iconst 0, 1) := by decide +kernel
theorem dX7_readVisit_80 : decode cX7_readVisit 80 = .ok (.ireturn, 1) := by decide +kernel
theorem dX7_readVisit_81 : decode cX7_readVisit 81 = .ok (.aload_n 0, 1) := by decide +kernel
theorem dX7_readVisit_82 : decode cX7_readVisit 82 = .ok (.getfield 53, 3) := by decide +kernel
theorem dX7_readVisit_85 : decode cX7_readVisit 85 = .ok (.aload_n 0, 1) := by decide +kernel
theorem dX7_readVisit_86 : decode cX7_readVisit 86 = .ok (.getfield 43, 3) := by decide +kernel
theorem dX7_readVisit_89 : decode cX7_readVisit 89 = .ok (.bipush 30, 2) := by decide +kernel
theorem dX7_readVisit_91 : decode cX7_readVisit 91 = .ok (.invokevirtual 304, 3) := by decide +kernel
theorem dX7_readVisit_94 : decode cX7_readVisit 94 = .ok (.putfield 307, 3) := by decide +kernel
theorem dX7_readVisit_97 : decode cX7_readVisit 97 = .ok (.aload_n 0, 1) := by decide +kernel
theorem dX7_readVisit_98 : decode cX7_readVisit 98 = .ok (.getfield 53, 3) := by decide +kernel
theorem dX7_readVisit_101 : decode cX7_readVisit 101 = .ok (.getfield 307, 3) := by decide +kernel
theorem dX7_readVisit_104 : decode cX7_readVisit 104 = .ok (.iconst (-1), 1) := by decide +kernel
theorem dX7_readVisit_105 : decode cX7_readVisit 105 = .ok (.if_icmp .eq 7, 3) := by decide +kernel
theorem dX7_readVisit_108 : decode cX7_readVisit 108 = .ok (.iconst 1, 1) := by decide +kernel
theorem dX7_readVisit_109 : decode cX7_readVisit 109 = .ok (.goto 4, 3) := by decide +kernel
theorem dX7_readVisit_112 : decode cX7_readVisit 112 = .ok (.iconst 0, 1) := by decide +kernel
theorem dX7_readVisit_113 : decode cX7_readVisit 113 = .ok (.ireturn, 1) := by decide +kernel
theorem dX7_doAct_0 : decode cX7_doAct 0 = .ok (.aload_n 0, 1) := by decide +kernel
theorem dX7_doAct_1 : decode cX7_doAct 1 = .ok (.getfield 53, 3) := by decide +kernel
theorem dX7_doAct_4 : decode cX7_doAct 4 = .ok (.getfield 289, 3) := by decide +kernel
theorem dX7_doAct_7 : decode cX7_doAct 7 = .ok (.lookupswitch 121 #[(99, 94), (118, 33), (119, 67)], 33) := by decide +kernel
theorem dX7_doAct_40 : decode cX7_doAct 40 = .ok (.aload_n 0, 1) := by decide +kernel
theorem dX7_doAct_41 : decode cX7_doAct 41 = .ok (.aload_n 0, 1) := by decide +kernel
theorem dX7_doAct_42 : decode cX7_doAct 42 = .ok (.getfield 53, 3) := by decide +kernel
theorem dX7_doAct_45 : decode cX7_doAct 45 = .ok (.getfield 295, 3) := by decide +kernel
theorem dX7_doAct_48 : decode cX7_doAct 48 = .ok (.aload_n 0, 1) := by decide +kernel
theorem dX7_doAct_49 : decode cX7_doAct 49 = .ok (.getfield 53, 3) := by decide +kernel
theorem dX7_doAct_52 : decode cX7_doAct 52 = .ok (.getfield 301, 3) := by decide +kernel
theorem dX7_doAct_55 : decode cX7_doAct 55 = .ok (.aload_n 0, 1) := by decide +kernel
theorem dX7_doAct_56 : decode cX7_doAct 56 = .ok (.getfield 53, 3) := by decide +kernel
theorem dX7_doAct_59 : decode cX7_doAct 59 = .ok (.getfield 307, 3) := by decide +kernel
theorem dX7_doAct_62 : decode cX7_doAct 62 = .ok (.invokevirtual 309, 3) := by decide +kernel
theorem dX7_doAct_65 : decode cX7_doAct 65 = .ok (.ifCond .lt 7, 3) := by decide +kernel
theorem dX7_doAct_68 : decode cX7_doAct 68 = .ok (.iconst 1, 1) := by decide +kernel
theorem dX7_doAct_69 : decode cX7_doAct 69 = .ok (.goto 4, 3) := by decide +kernel
theorem dX7_doAct_72 : decode cX7_doAct 72 = .ok (.iconst 0, 1) := by decide +kernel
theorem dX7_doAct_73 : decode cX7_doAct 73 = .ok (.ireturn, 1) := by decide +kernel
theorem dX7_doAct_74 : decode cX7_doAct 74 = .ok (.aload_n 0, 1) := by decide +kernel
theorem dX7_doAct_75 : decode cX7_doAct 75 = .ok (.aload_n 0, 1) := by decide +kernel
theorem dX7_doAct_76 : decode cX7_doAct 76 = .ok (.getfield 53, 3) := by decide +kernel
theorem dX7_doAct_79 : decode cX7_doAct 79 = .ok (.getfield 295, 3) := by decide +kernel
theorem dX7_doAct_82 : decode cX7_doAct 82 = .ok (.aload_n 0, 1) := by decide +kernel
theorem dX7_doAct_83 : decode cX7_doAct 83 = .ok (.getfield 53, 3) := by decide +kernel
theorem dX7_doAct_86 : decode cX7_doAct 86 = .ok (.getfield 298, 3) := by decide +kernel
theorem dX7_doAct_89 : decode cX7_doAct 89 = .ok (.invokevirtual 312, 3) := by decide +kernel
theorem dX7_doAct_92 : decode cX7_doAct 92 = .ok (.ifCond .lt 7, 3) := by decide +kernel
theorem dX7_doAct_95 : decode cX7_doAct 95 = .ok (.iconst 1, 1) := by decide +kernel
theorem dX7_doAct_96 : decode cX7_doAct 96 = .ok (.goto 4, 3) := by decide +kernel
theorem dX7_doAct_99 : decode cX7_doAct 99 = .ok (.iconst 0, 1) := by decide +kernel
theorem dX7_doAct_100 : decode cX7_doAct 100 = .ok (.ireturn, 1) := by decide +kernel
theorem dX7_doAct_101 : decode cX7_doAct 101 = .ok (.aload_n 0, 1) := by decide +kernel
theorem dX7_doAct_102 : decode cX7_doAct 102 = .ok (.aload_n 0, 1) := by decide +kernel
theorem dX7_doAct_103 : decode cX7_doAct 103 = .ok (.getfield 53, 3) := by decide +kernel
theorem dX7_doAct_106 : decode cX7_doAct 106 = .ok (.getfield 298, 3) := by decide +kernel
theorem dX7_doAct_109 : decode cX7_doAct 109 = .ok (.aload_n 0, 1) := by decide +kernel
theorem dX7_doAct_110 : decode cX7_doAct 110 = .ok (.getfield 53, 3) := by decide +kernel
theorem dX7_doAct_113 : decode cX7_doAct 113 = .ok (.getfield 301, 3) := by decide +kernel
theorem dX7_doAct_116 : decode cX7_doAct 116 = .ok (.invokevirtual 315, 3) := by decide +kernel
theorem dX7_doAct_119 : decode cX7_doAct 119 = .ok (.ifCond .lt 7, 3) := by decide +kernel
theorem dX7_doAct_122 : decode cX7_doAct 122 = .ok (.iconst 1, 1) := by decide +kernel
theorem dX7_doAct_123 : decode cX7_doAct 123 = .ok (.goto 4, 3) := by decide +kernel
theorem dX7_doAct_126 : decode cX7_doAct 126 = .ok (.iconst 0, 1) := by decide +kernel
theorem dX7_doAct_127 : decode cX7_doAct 127 = .ok (.ireturn, 1) := by decide +kernel
theorem dX7_doAct_128 : decode cX7_doAct 128 = .ok (.aload_n 0, 1) := by decide +kernel
theorem dX7_doAct_129 : decode cX7_doAct 129 = .ok (.invokevirtual 318, 3) := by decide +kernel
theorem dX7_doAct_132 : decode cX7_doAct 132 = .ok (.ifCond .lt 7, 3) := by decide +kernel
theorem dX7_doAct_135 : decode cX7_doAct 135 = .ok (.iconst 1, 1) := by decide +kernel
theorem dX7_doAct_136 : decode cX7_doAct 136 = .ok (.goto 4, 3) := by decide +kernel
theorem dX7_doAct_139 : decode cX7_doAct 139 = .ok (.iconst 0, 1) := by decide +kernel
theorem dX7_doAct_140 : decode cX7_doAct 140 = .ok (.ireturn, 1) := by decide +kernel
theorem dX7_hersBy_0 : decode cX7_hersBy 0 = .ok (.iload_n 3, 1) := by decide +kernel
theorem dX7_hersBy_1 : decode cX7_hersBy 1 = .ok (.iload_n 2, 1) := by decide +kernel
theorem dX7_hersBy_2 : decode cX7_hersBy 2 = .ok (.if_icmp .lt 18, 3) := by decide +kernel
theorem dX7_hersBy_5 : decode cX7_hersBy 5 = .ok (.iload_n 0, 1) := by decide +kernel
theorem dX7_hersBy_6 : decode cX7_hersBy 6 = .ok (.iload_n 1, 1) := by decide +kernel
theorem dX7_hersBy_7 : decode cX7_hersBy 7 = .ok (.iload_n 3, 1) := by decide +kernel
theorem dX7_hersBy_8 : decode cX7_hersBy 8 = .ok (.iload_n 2, 1) := by decide +kernel
theorem dX7_hersBy_9 : decode cX7_hersBy 9 = .ok (.isub, 1) := by decide +kernel
theorem dX7_hersBy_10 : decode cX7_hersBy 10 = .ok (.invokestatic 197, 3) := by decide +kernel
theorem dX7_hersBy_13 : decode cX7_hersBy 13 = .ok (.ifCond .le 7, 3) := by decide +kernel
theorem dX7_hersBy_16 : decode cX7_hersBy 16 = .ok (.iconst 1, 1) := by decide +kernel
theorem dX7_hersBy_17 : decode cX7_hersBy 17 = .ok (.goto 4, 3) := by decide +kernel
theorem dX7_hersBy_20 : decode cX7_hersBy 20 = .ok (.iconst 0, 1) := by decide +kernel
theorem dX7_hersBy_21 : decode cX7_hersBy 21 = .ok (.istore 4, 2) := by decide +kernel
theorem dX7_hersBy_23 : decode cX7_hersBy 23 = .ok (.iload 4, 2) := by decide +kernel
theorem dX7_hersBy_25 : decode cX7_hersBy 25 = .ok (.ifCond .eq 7, 3) := by decide +kernel
theorem dX7_hersBy_28 : decode cX7_hersBy 28 = .ok (.iconst 0, 1) := by decide +kernel
theorem dX7_hersBy_29 : decode cX7_hersBy 29 = .ok (.goto 7, 3) := by decide +kernel
theorem dX7_hersBy_32 : decode cX7_hersBy 32 = .ok (.bipush 10, 2) := by decide +kernel
theorem dX7_hersBy_34 : decode cX7_hersBy 34 = .ok (.iload_n 2, 1) := by decide +kernel
theorem dX7_hersBy_35 : decode cX7_hersBy 35 = .ok (.isub, 1) := by decide +kernel
theorem dX7_hersBy_36 : decode cX7_hersBy 36 = .ok (.ireturn, 1) := by decide +kernel
theorem dX7_isRest_0 : decode cX7_isRest 0 = .ok (.iload_n 0, 1) := by decide +kernel
theorem dX7_isRest_1 : decode cX7_isRest 1 = .ok (.iload_n 1, 1) := by decide +kernel
theorem dX7_isRest_2 : decode cX7_isRest 2 = .ok (.iload_n 2, 1) := by decide +kernel
theorem dX7_isRest_3 : decode cX7_isRest 3 = .ok (.iload_n 3, 1) := by decide +kernel
theorem dX7_isRest_4 : decode cX7_isRest 4 = .ok (.invokestatic 321, 3) := by decide +kernel
theorem dX7_isRest_7 : decode cX7_isRest 7 = .ok (.istore 4, 2) := by decide +kernel
theorem dX7_isRest_9 : decode cX7_isRest 9 = .ok (.iconst 0, 1) := by decide +kernel
theorem dX7_isRest_10 : decode cX7_isRest 10 = .ok (.istore 5, 2) := by decide +kernel
theorem dX7_isRest_12 : decode cX7_isRest 12 = .ok (.iload 5, 2) := by decide +kernel
theorem dX7_isRest_14 : decode cX7_isRest 14 = .ok (.bipush 6, 2) := by decide +kernel
theorem dX7_isRest_16 : decode cX7_isRest 16 = .ok (.if_icmp .gt 37, 3) := by decide +kernel
theorem dX7_isRest_19 : decode cX7_isRest 19 = .ok (.iload_n 0, 1) := by decide +kernel
theorem dX7_isRest_20 : decode cX7_isRest 20 = .ok (.iload_n 1, 1) := by decide +kernel
theorem dX7_isRest_21 : decode cX7_isRest 21 = .ok (.iload 5, 2) := by decide +kernel
theorem dX7_isRest_23 : decode cX7_isRest 23 = .ok (.iload_n 3, 1) := by decide +kernel
theorem dX7_isRest_24 : decode cX7_isRest 24 = .ok (.invokestatic 321, 3) := by decide +kernel
theorem dX7_isRest_27 : decode cX7_isRest 27 = .ok (.iload 4, 2) := by decide +kernel
theorem dX7_isRest_29 : decode cX7_isRest 29 = .ok (.if_icmp .gt 16, 3) := by decide +kernel
theorem dX7_isRest_32 : decode cX7_isRest 32 = .ok (.iload_n 0, 1) := by decide +kernel
theorem dX7_isRest_33 : decode cX7_isRest 33 = .ok (.iload_n 1, 1) := by decide +kernel
theorem dX7_isRest_34 : decode cX7_isRest 34 = .ok (.iload_n 2, 1) := by decide +kernel
theorem dX7_isRest_35 : decode cX7_isRest 35 = .ok (.iload 5, 2) := by decide +kernel
theorem dX7_isRest_37 : decode cX7_isRest 37 = .ok (.invokestatic 321, 3) := by decide +kernel
theorem dX7_isRest_40 : decode cX7_isRest 40 = .ok (.iload 4, 2) := by decide +kernel
theorem dX7_isRest_42 : decode cX7_isRest 42 = .ok (.if_icmp .ge 5, 3) := by decide +kernel
theorem dX7_isRest_45 : decode cX7_isRest 45 = .ok (.iconst 0, 1) := by decide +kernel
theorem dX7_isRest_46 : decode cX7_isRest 46 = .ok (.ireturn, 1) := by decide +kernel
theorem dX7_isRest_47 : decode cX7_isRest 47 = .ok (.iinc 5 1, 3) := by decide +kernel
theorem dX7_isRest_50 : decode cX7_isRest 50 = .ok (.goto (-38), 3) := by decide +kernel
theorem dX7_isRest_53 : decode cX7_isRest 53 = .ok (.iconst 1, 1) := by decide +kernel
theorem dX7_isRest_54 : decode cX7_isRest 54 = .ok (.ireturn, 1) := by decide +kernel
theorem dX7_takeAsked_0 : decode cX7_takeAsked 0 = .ok (.iconst 0, 1) := by decide +kernel
theorem dX7_takeAsked_1 : decode cX7_takeAsked 1 = .ok (.istore 4, 2) := by decide +kernel
theorem dX7_takeAsked_3 : decode cX7_takeAsked 3 = .ok (.iconst 0, 1) := by decide +kernel
theorem dX7_takeAsked_4 : decode cX7_takeAsked 4 = .ok (.istore 5, 2) := by decide +kernel
theorem dX7_takeAsked_6 : decode cX7_takeAsked 6 = .ok (.iload 5, 2) := by decide +kernel
theorem dX7_takeAsked_8 : decode cX7_takeAsked 8 = .ok (.iload_n 3, 1) := by decide +kernel
theorem dX7_takeAsked_9 : decode cX7_takeAsked 9 = .ok (.if_icmp .ge 103, 3) := by decide +kernel
theorem dX7_takeAsked_12 : decode cX7_takeAsked 12 = .ok (.aload_n 1, 1) := by decide +kernel
theorem dX7_takeAsked_13 : decode cX7_takeAsked 13 = .ok (.getfield 248, 3) := by decide +kernel
theorem dX7_takeAsked_16 : decode cX7_takeAsked 16 = .ok (.iload_n 2, 1) := by decide +kernel
theorem dX7_takeAsked_17 : decode cX7_takeAsked 17 = .ok (.iconst 2, 1) := by decide +kernel
theorem dX7_takeAsked_18 : decode cX7_takeAsked 18 = .ok (.iload 5, 2) := by decide +kernel
theorem dX7_takeAsked_20 : decode cX7_takeAsked 20 = .ok (.imul, 1) := by decide +kernel
theorem dX7_takeAsked_21 : decode cX7_takeAsked 21 = .ok (.iadd, 1) := by decide +kernel
theorem dX7_takeAsked_22 : decode cX7_takeAsked 22 = .ok (.iaload, 1) := by decide +kernel
theorem dX7_takeAsked_23 : decode cX7_takeAsked 23 = .ok (.istore 6, 2) := by decide +kernel
theorem dX7_takeAsked_25 : decode cX7_takeAsked 25 = .ok (.aload_n 1, 1) := by decide +kernel
theorem dX7_takeAsked_26 : decode cX7_takeAsked 26 = .ok (.getfield 248, 3) := by decide +kernel
theorem dX7_takeAsked_29 : decode cX7_takeAsked 29 = .ok (.iload_n 2, 1) := by decide +kernel
theorem dX7_takeAsked_30 : decode cX7_takeAsked 30 = .ok (.iconst 2, 1) := by decide +kernel
theorem dX7_takeAsked_31 : decode cX7_takeAsked 31 = .ok (.iload 5, 2) := by decide +kernel
theorem dX7_takeAsked_33 : decode cX7_takeAsked 33 = .ok (.imul, 1) := by decide +kernel
theorem dX7_takeAsked_34 : decode cX7_takeAsked 34 = .ok (.iadd, 1) := by decide +kernel
theorem dX7_takeAsked_35 : decode cX7_takeAsked 35 = .ok (.iconst 1, 1) := by decide +kernel
theorem dX7_takeAsked_36 : decode cX7_takeAsked 36 = .ok (.iadd, 1) := by decide +kernel
theorem dX7_takeAsked_37 : decode cX7_takeAsked 37 = .ok (.iaload, 1) := by decide +kernel
theorem dX7_takeAsked_38 : decode cX7_takeAsked 38 = .ok (.istore 7, 2) := by decide +kernel
theorem dX7_takeAsked_40 : decode cX7_takeAsked 40 = .ok (.aload_n 0, 1) := by decide +kernel
theorem dX7_takeAsked_41 : decode cX7_takeAsked 41 = .ok (.getfield 19, 3) := by decide +kernel
theorem dX7_takeAsked_44 : decode cX7_takeAsked 44 = .ok (.iload 6, 2) := by decide +kernel
theorem dX7_takeAsked_46 : decode cX7_takeAsked 46 = .ok (.invokevirtual 96, 3) := by decide +kernel
theorem dX7_takeAsked_49 : decode cX7_takeAsked 49 = .ok (.ifCond .eq 22, 3) := by decide +kernel
theorem dX7_takeAsked_52 : decode cX7_takeAsked 52 = .ok (.aload_n 0, 1) := by decide +kernel
theorem dX7_takeAsked_53 : decode cX7_takeAsked 53 = .ok (.iload 7, 2) := by decide +kernel
theorem dX7_takeAsked_55 : decode cX7_takeAsked 55 = .ok (.invokevirtual 188, 3) := by decide +kernel
theorem dX7_takeAsked_58 : decode cX7_takeAsked 58 = .ok (.ifCond .eq 13, 3) := by decide +kernel
theorem dX7_takeAsked_61 : decode cX7_takeAsked 61 = .ok (.iload 4, 2) := by decide +kernel
theorem dX7_takeAsked_63 : decode cX7_takeAsked 63 = .ok (.iload 6, 2) := by decide +kernel
theorem dX7_takeAsked_65 : decode cX7_takeAsked 65 = .ok (.ishr, 1) := by decide +kernel
theorem dX7_takeAsked_66 : decode cX7_takeAsked 66 = .ok (.iconst 1, 1) := by decide +kernel
theorem dX7_takeAsked_67 : decode cX7_takeAsked 67 = .ok (.iand, 1) := by decide +kernel
theorem dX7_takeAsked_68 : decode cX7_takeAsked 68 = .ok (.ifCond .eq 5, 3) := by decide +kernel
theorem dX7_takeAsked_71 : decode cX7_takeAsked 71 = .ok (.iconst 0, 1) := by decide +kernel
theorem dX7_takeAsked_72 : decode cX7_takeAsked 72 = .ok (.ireturn, 1) := by decide +kernel
theorem dX7_takeAsked_73 : decode cX7_takeAsked 73 = .ok (.iload 4, 2) := by decide +kernel
theorem dX7_takeAsked_75 : decode cX7_takeAsked 75 = .ok (.iconst 1, 1) := by decide +kernel
theorem dX7_takeAsked_76 : decode cX7_takeAsked 76 = .ok (.iload 6, 2) := by decide +kernel
theorem dX7_takeAsked_78 : decode cX7_takeAsked 78 = .ok (.ishl, 1) := by decide +kernel
theorem dX7_takeAsked_79 : decode cX7_takeAsked 79 = .ok (.ior, 1) := by decide +kernel
theorem dX7_takeAsked_80 : decode cX7_takeAsked 80 = .ok (.istore 4, 2) := by decide +kernel
theorem dX7_takeAsked_82 : decode cX7_takeAsked 82 = .ok (.aload_n 0, 1) := by decide +kernel
theorem dX7_takeAsked_83 : decode cX7_takeAsked 83 = .ok (.getfield 67, 3) := by decide +kernel
theorem dX7_takeAsked_86 : decode cX7_takeAsked 86 = .ok (.getfield 325, 3) := by decide +kernel
theorem dX7_takeAsked_89 : decode cX7_takeAsked 89 = .ok (.iload 5, 2) := by decide +kernel
theorem dX7_takeAsked_91 : decode cX7_takeAsked 91 = .ok (.iload 6, 2) := by decide +kernel
theorem dX7_takeAsked_93 : decode cX7_takeAsked 93 = .ok (.iastore, 1) := by decide +kernel
theorem dX7_takeAsked_94 : decode cX7_takeAsked 94 = .ok (.aload_n 0, 1) := by decide +kernel
theorem dX7_takeAsked_95 : decode cX7_takeAsked 95 = .ok (.getfield 67, 3) := by decide +kernel
theorem dX7_takeAsked_98 : decode cX7_takeAsked 98 = .ok (.getfield 327, 3) := by decide +kernel
theorem dX7_takeAsked_101 : decode cX7_takeAsked 101 = .ok (.iload 5, 2) := by decide +kernel
theorem dX7_takeAsked_103 : decode cX7_takeAsked 103 = .ok (.iload 7, 2) := by decide +kernel
theorem dX7_takeAsked_105 : decode cX7_takeAsked 105 = .ok (.iastore, 1) := by decide +kernel
theorem dX7_takeAsked_106 : decode cX7_takeAsked 106 = .ok (.iinc 5 1, 3) := by decide +kernel
theorem dX7_takeAsked_109 : decode cX7_takeAsked 109 = .ok (.goto (-103), 3) := by decide +kernel
theorem dX7_takeAsked_112 : decode cX7_takeAsked 112 = .ok (.aload_n 0, 1) := by decide +kernel
theorem dX7_takeAsked_113 : decode cX7_takeAsked 113 = .ok (.getfield 67, 3) := by decide +kernel
theorem dX7_takeAsked_116 : decode cX7_takeAsked 116 = .ok (.iload_n 3, 1) := by decide +kernel
theorem dX7_takeAsked_117 : decode cX7_takeAsked 117 = .ok (.putfield 330, 3) := by decide +kernel
theorem dX7_takeAsked_120 : decode cX7_takeAsked 120 = .ok (.aload_n 0, 1) := by decide +kernel
theorem dX7_takeAsked_121 : decode cX7_takeAsked 121 = .ok (.getfield 67, 3) := by decide +kernel
theorem dX7_takeAsked_124 : decode cX7_takeAsked 124 = .ok (.iconst (-1), 1) := by decide +kernel
theorem dX7_takeAsked_125 : decode cX7_takeAsked 125 = .ok (.putfield 225, 3) := by decide +kernel
theorem dX7_takeAsked_128 : decode cX7_takeAsked 128 = .ok (.iconst 0, 1) := by decide +kernel
theorem dX7_takeAsked_129 : decode cX7_takeAsked 129 = .ok (.istore 5, 2) := by decide +kernel
theorem dX7_takeAsked_131 : decode cX7_takeAsked 131 = .ok (.iload 5, 2) := by decide +kernel
theorem dX7_takeAsked_133 : decode cX7_takeAsked 133 = .ok (.iload_n 3, 1) := by decide +kernel
theorem dX7_takeAsked_134 : decode cX7_takeAsked 134 = .ok (.if_icmp .ge 33, 3) := by decide +kernel
theorem dX7_takeAsked_137 : decode cX7_takeAsked 137 = .ok (.aload_n 0, 1) := by decide +kernel
theorem dX7_takeAsked_138 : decode cX7_takeAsked 138 = .ok (.getfield 67, 3) := by decide +kernel
theorem dX7_takeAsked_141 : decode cX7_takeAsked 141 = .ok (.getfield 331, 3) := by decide +kernel
theorem dX7_takeAsked_144 : decode cX7_takeAsked 144 = .ok (.iload 5, 2) := by decide +kernel
theorem dX7_takeAsked_146 : decode cX7_takeAsked 146 = .ok (.aload_n 0, 1) := by decide +kernel
theorem dX7_takeAsked_147 : decode cX7_takeAsked 147 = .ok (.aload_n 0, 1) := by decide +kernel
theorem dX7_takeAsked_148 : decode cX7_takeAsked 148 = .ok (.getfield 67, 3) := by decide +kernel
theorem dX7_takeAsked_151 : decode cX7_takeAsked 151 = .ok (.getfield 327, 3) := by decide +kernel
theorem dX7_takeAsked_154 : decode cX7_takeAsked 154 = .ok (.iload 5, 2) := by decide +kernel
theorem dX7_takeAsked_156 : decode cX7_takeAsked 156 = .ok (.iaload, 1) := by decide +kernel
theorem dX7_takeAsked_157 : decode cX7_takeAsked 157 = .ok (.invokevirtual 334, 3) := by decide +kernel
theorem dX7_takeAsked_160 : decode cX7_takeAsked 160 = .ok (.iastore, 1) := by decide +kernel
theorem dX7_takeAsked_161 : decode cX7_takeAsked 161 = .ok (.iinc 5 1, 3) := by decide +kernel
theorem dX7_takeAsked_164 : decode cX7_takeAsked 164 = .ok (.goto (-33), 3) := by decide +kernel
theorem dX7_takeAsked_167 : decode cX7_takeAsked 167 = .ok (.iconst 1, 1) := by decide +kernel
theorem dX7_takeAsked_168 : decode cX7_takeAsked 168 = .ok (.ireturn, 1) := by decide +kernel
theorem dX7_cleanFor_0 : decode cX7_cleanFor 0 = .ok (.iconst 0, 1) := by decide +kernel
theorem dX7_cleanFor_1 : decode cX7_cleanFor 1 = .ok (.istore_n 2, 1) := by decide +kernel
theorem dX7_cleanFor_2 : decode cX7_cleanFor 2 = .ok (.iconst 0, 1) := by decide +kernel
theorem dX7_cleanFor_3 : decode cX7_cleanFor 3 = .ok (.istore_n 3, 1) := by decide +kernel
theorem dX7_cleanFor_4 : decode cX7_cleanFor 4 = .ok (.iload_n 3, 1) := by decide +kernel
theorem dX7_cleanFor_5 : decode cX7_cleanFor 5 = .ok (.aload_n 0, 1) := by decide +kernel
theorem dX7_cleanFor_6 : decode cX7_cleanFor 6 = .ok (.getfield 67, 3) := by decide +kernel
theorem dX7_cleanFor_9 : decode cX7_cleanFor 9 = .ok (.getfield 330, 3) := by decide +kernel
theorem dX7_cleanFor_12 : decode cX7_cleanFor 12 = .ok (.if_icmp .ge 35, 3) := by decide +kernel
theorem dX7_cleanFor_15 : decode cX7_cleanFor 15 = .ok (.aload_n 0, 1) := by decide +kernel
theorem dX7_cleanFor_16 : decode cX7_cleanFor 16 = .ok (.getfield 19, 3) := by decide +kernel
theorem dX7_cleanFor_19 : decode cX7_cleanFor 19 = .ok (.aload_n 0, 1) := by decide +kernel
theorem dX7_cleanFor_20 : decode cX7_cleanFor 20 = .ok (.getfield 67, 3) := by decide +kernel
theorem dX7_cleanFor_23 : decode cX7_cleanFor 23 = .ok (.getfield 325, 3) := by decide +kernel
theorem dX7_cleanFor_26 : decode cX7_cleanFor 26 = .ok (.iload_n 3, 1) := by decide +kernel
theorem dX7_cleanFor_27 : decode cX7_cleanFor 27 = .ok (.iaload, 1) := by decide +kernel
theorem dX7_cleanFor_28 : decode cX7_cleanFor 28 = .ok (.iload_n 1, 1) := by decide +kernel
theorem dX7_cleanFor_29 : decode cX7_cleanFor 29 = .ok (.invokevirtual 191, 3) := by decide +kernel
theorem dX7_cleanFor_32 : decode cX7_cleanFor 32 = .ok (.ifCond .ne 9, 3) := by decide +kernel
theorem dX7_cleanFor_35 : decode cX7_cleanFor 35 = .ok (.iload_n 2, 1) := by decide +kernel
theorem dX7_cleanFor_36 : decode cX7_cleanFor 36 = .ok (.iconst 1, 1) := by decide +kernel
theorem dX7_cleanFor_37 : decode cX7_cleanFor 37 = .ok (.iload_n 3, 1) := by decide +kernel
theorem dX7_cleanFor_38 : decode cX7_cleanFor 38 = .ok (.ishl, 1) := by decide +kernel
theorem dX7_cleanFor_39 : decode cX7_cleanFor 39 = .ok (.ior, 1) := by decide +kernel
theorem dX7_cleanFor_40 : decode cX7_cleanFor 40 = .ok (.istore_n 2, 1) := by decide +kernel
theorem dX7_cleanFor_41 : decode cX7_cleanFor 41 = .ok (.iinc 3 1, 3) := by decide +kernel
theorem dX7_cleanFor_44 : decode cX7_cleanFor 44 = .ok (.goto (-40), 3) := by decide +kernel
theorem dX7_cleanFor_47 : decode cX7_cleanFor 47 = .ok (.iload_n 2, 1) := by decide +kernel
theorem dX7_cleanFor_48 : decode cX7_cleanFor 48 = .ok (.ireturn, 1) := by decide +kernel
theorem dX7_tryRows_0 : decode cX7_tryRows 0 = .ok (.iload_n 1, 1) := by decide +kernel
theorem dX7_tryRows_1 : decode cX7_tryRows 1 = .ok (.aload_n 0, 1) := by decide +kernel
theorem dX7_tryRows_2 : decode cX7_tryRows 2 = .ok (.getfield 330, 3) := by decide +kernel
theorem dX7_tryRows_5 : decode cX7_tryRows 5 = .ok (.if_icmp .lt 8, 3) := by decide +kernel
theorem dX7_tryRows_8 : decode cX7_tryRows 8 = .ok (.aload_n 0, 1) := by decide +kernel
theorem dX7_tryRows_9 : decode cX7_tryRows 9 = .ok (.invokevirtual 337, 3) := by decide +kernel
theorem dX7_tryRows_12 : decode cX7_tryRows 12 = .ok (.return_, 1) := by decide +kernel
theorem dX7_tryRows_13 : decode cX7_tryRows 13 = .ok (.iconst 0, 1) := by decide +kernel
theorem dX7_tryRows_14 : decode cX7_tryRows 14 = .ok (.istore_n 3, 1) := by decide +kernel
theorem dX7_tryRows_15 : decode cX7_tryRows 15 = .ok (.iload_n 3, 1) := by decide +kernel
theorem dX7_tryRows_16 : decode cX7_tryRows 16 = .ok (.aload_n 0, 1) := by decide +kernel
theorem dX7_tryRows_17 : decode cX7_tryRows 17 = .ok (.getfield 330, 3) := by decide +kernel
theorem dX7_tryRows_20 : decode cX7_tryRows 20 = .ok (.if_icmp .ge 45, 3) := by decide +kernel
theorem dX7_tryRows_23 : decode cX7_tryRows 23 = .ok (.aload_n 0, 1) := by decide +kernel
theorem dX7_tryRows_24 : decode cX7_tryRows 24 = .ok (.getfield 331, 3) := by decide +kernel
theorem dX7_tryRows_27 : decode cX7_tryRows 27 = .ok (.iload_n 1, 1) := by decide +kernel
theorem dX7_tryRows_28 : decode cX7_tryRows 28 = .ok (.iaload, 1) := by decide +kernel
theorem dX7_tryRows_29 : decode cX7_tryRows 29 = .ok (.iload_n 2, 1) := by decide +kernel
theorem dX7_tryRows_30 : decode cX7_tryRows 30 = .ok (.iconst (-1), 1) := by decide +kernel
theorem dX7_tryRows_31 : decode cX7_tryRows 31 = .ok (.ixor, 1) := by decide +kernel
theorem dX7_tryRows_32 : decode cX7_tryRows 32 = .ok (.iand, 1) := by decide +kernel
theorem dX7_tryRows_33 : decode cX7_tryRows 33 = .ok (.iload_n 3, 1) := by decide +kernel
theorem dX7_tryRows_34 : decode cX7_tryRows 34 = .ok (.ishr, 1) := by decide +kernel
theorem dX7_tryRows_35 : decode cX7_tryRows 35 = .ok (.iconst 1, 1) := by decide +kernel
theorem dX7_tryRows_36 : decode cX7_tryRows 36 = .ok (.iand, 1) := by decide +kernel
theorem dX7_tryRows_37 : decode cX7_tryRows 37 = .ok (.ifCond .eq 22, 3) := by decide +kernel
theorem dX7_tryRows_40 : decode cX7_tryRows 40 = .ok (.aload_n 0, 1) := by decide +kernel
theorem dX7_tryRows_41 : decode cX7_tryRows 41 = .ok (.getfield 340, 3) := by decide +kernel
theorem dX7_tryRows_44 : decode cX7_tryRows 44 = .ok (.iload_n 1, 1) := by decide +kernel
theorem dX7_tryRows_45 : decode cX7_tryRows 45 = .ok (.iload_n 3, 1) := by decide +kernel
theorem dX7_tryRows_46 : decode cX7_tryRows 46 = .ok (.iastore, 1) := by decide +kernel
theorem dX7_tryRows_47 : decode cX7_tryRows 47 = .ok (.aload_n 0, 1) := by decide +kernel
theorem dX7_tryRows_48 : decode cX7_tryRows 48 = .ok (.iload_n 1, 1) := by decide +kernel
theorem dX7_tryRows_49 : decode cX7_tryRows 49 = .ok (.iconst 1, 1) := by decide +kernel
theorem dX7_tryRows_50 : decode cX7_tryRows 50 = .ok (.iadd, 1) := by decide +kernel
theorem dX7_tryRows_51 : decode cX7_tryRows 51 = .ok (.iload_n 2, 1) := by decide +kernel
theorem dX7_tryRows_52 : decode cX7_tryRows 52 = .ok (.iconst 1, 1) := by decide +kernel
theorem dX7_tryRows_53 : decode cX7_tryRows 53 = .ok (.iload_n 3, 1) := by decide +kernel
theorem dX7_tryRows_54 : decode cX7_tryRows 54 = .ok (.ishl, 1) := by decide +kernel
theorem dX7_tryRows_55 : decode cX7_tryRows 55 = .ok (.ior, 1) := by decide +kernel
theorem dX7_tryRows_56 : decode cX7_tryRows 56 = .ok (.invokestatic 221, 3) := by decide +kernel
theorem dX7_tryRows_59 : decode cX7_tryRows 59 = .ok (.iinc 3 1, 3) := by decide +kernel
theorem dX7_tryRows_62 : decode cX7_tryRows 62 = .ok (.goto (-47), 3) := by decide +kernel
theorem dX7_tryRows_65 : decode cX7_tryRows 65 = .ok (.return_, 1) := by decide +kernel
