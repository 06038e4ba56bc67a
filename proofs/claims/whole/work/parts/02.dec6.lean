theorem dX0_init_0 : decode cX0_init 0 = .ok (.aload_n 0, 1) := by decide +kernel
theorem dX0_init_1 : decode cX0_init 1 = .ok (.invokespecial 1, 3) := by decide +kernel
theorem dX0_init_4 : decode cX0_init 4 = .ok (.aload_n 0, 1) := by decide +kernel
theorem dX0_init_5 : decode cX0_init 5 = .ok (.iconst 0, 1) := by decide +kernel
theorem dX0_init_6 : decode cX0_init 6 = .ok (.putfield 7, 3) := by decide +kernel
theorem dX0_init_9 : decode cX0_init 9 = .ok (.aload_n 0, 1) := by decide +kernel
theorem dX0_init_10 : decode cX0_init 10 = .ok (.iconst 0, 1) := by decide +kernel
theorem dX0_init_11 : decode cX0_init 11 = .ok (.putfield 13, 3) := by decide +kernel
theorem dX0_init_14 : decode cX0_init 14 = .ok (.aload_n 0, 1) := by decide +kernel
theorem dX0_init_15 : decode cX0_init 15 = .ok (.iconst 0, 1) := by decide +kernel
theorem dX0_init_16 : decode cX0_init 16 = .ok (.putfield 16, 3) := by decide +kernel
theorem dX0_init_19 : decode cX0_init 19 = .ok (.aload_n 0, 1) := by decide +kernel
theorem dX0_init_20 : decode cX0_init 20 = .ok (.iconst 0, 1) := by decide +kernel
theorem dX0_init_21 : decode cX0_init 21 = .ok (.putfield 19, 3) := by decide +kernel
theorem dX0_init_24 : decode cX0_init 24 = .ok (.aload_n 0, 1) := by decide +kernel
theorem dX0_init_25 : decode cX0_init 25 = .ok (.iconst 0, 1) := by decide +kernel
theorem dX0_init_26 : decode cX0_init 26 = .ok (.putfield 22, 3) := by decide +kernel
theorem dX0_init_29 : decode cX0_init 29 = .ok (.return_, 1) := by decide +kernel
theorem dX1_init_0 : decode cX1_init 0 = .ok (.aload_n 0, 1) := by decide +kernel
theorem dX1_init_1 : decode cX1_init 1 = .ok (.invokespecial 3, 3) := by decide +kernel
theorem dX1_init_4 : decode cX1_init 4 = .ok (.aload_n 0, 1) := by decide +kernel
theorem dX1_init_5 : decode cX1_init 5 = .ok (.iconst 0, 1) := by decide +kernel
theorem dX1_init_6 : decode cX1_init 6 = .ok (.putfield 9, 3) := by decide +kernel
theorem dX1_init_9 : decode cX1_init 9 = .ok (.aload_n 0, 1) := by decide +kernel
theorem dX1_init_10 : decode cX1_init 10 = .ok (.iconst (-1), 1) := by decide +kernel
theorem dX1_init_11 : decode cX1_init 11 = .ok (.putfield 15, 3) := by decide +kernel
theorem dX1_init_14 : decode cX1_init 14 = .ok (.aload_n 0, 1) := by decide +kernel
theorem dX1_init_15 : decode cX1_init 15 = .ok (.bipush 6, 2) := by decide +kernel
theorem dX1_init_17 : decode cX1_init 17 = .ok (.newarray .int, 2) := by decide +kernel
theorem dX1_init_19 : decode cX1_init 19 = .ok (.putfield 18, 3) := by decide +kernel
theorem dX1_init_22 : decode cX1_init 22 = .ok (.aload_n 0, 1) := by decide +kernel
theorem dX1_init_23 : decode cX1_init 23 = .ok (.bipush 6, 2) := by decide +kernel
theorem dX1_init_25 : decode cX1_init 25 = .ok (.newarray .int, 2) := by decide +kernel
theorem dX1_init_27 : decode cX1_init 27 = .ok (.putfield 22, 3) := by decide +kernel
theorem dX1_init_30 : decode cX1_init 30 = .ok (.aload_n 0, 1) := by decide +kernel
theorem dX1_init_31 : decode cX1_init 31 = .ok (.bipush 6, 2) := by decide +kernel
theorem dX1_init_33 : decode cX1_init 33 = .ok (.newarray .int, 2) := by decide +kernel
theorem dX1_init_35 : decode cX1_init 35 = .ok (.putfield 25, 3) := by decide +kernel
theorem dX1_init_38 : decode cX1_init 38 = .ok (.aload_n 0, 1) := by decide +kernel
theorem dX1_init_39 : decode cX1_init 39 = .ok (.bipush 6, 2) := by decide +kernel
theorem dX1_init_41 : decode cX1_init 41 = .ok (.newarray .int, 2) := by decide +kernel
theorem dX1_init_43 : decode cX1_init 43 = .ok (.putfield 28, 3) := by decide +kernel
theorem dX1_init_46 : decode cX1_init 46 = .ok (.aload_n 0, 1) := by decide +kernel
theorem dX1_init_47 : decode cX1_init 47 = .ok (.bipush 6, 2) := by decide +kernel
theorem dX1_init_49 : decode cX1_init 49 = .ok (.newarray .int, 2) := by decide +kernel
theorem dX1_init_51 : decode cX1_init 51 = .ok (.putfield 31, 3) := by decide +kernel
theorem dX1_init_54 : decode cX1_init 54 = .ok (.return_, 1) := by decide +kernel
theorem dX1_weigh_0 : decode cX1_weigh 0 = .ok (.aload_n 0, 1) := by decide +kernel
theorem dX1_weigh_1 : decode cX1_weigh 1 = .ok (.invokevirtual 34, 3) := by decide +kernel
theorem dX1_weigh_4 : decode cX1_weigh 4 = .ok (.istore_n 1, 1) := by decide +kernel
theorem dX1_weigh_5 : decode cX1_weigh 5 = .ok (.aload_n 0, 1) := by decide +kernel
theorem dX1_weigh_6 : decode cX1_weigh 6 = .ok (.getfield 15, 3) := by decide +kernel
theorem dX1_weigh_9 : decode cX1_weigh 9 = .ok (.iconst (-1), 1) := by decide +kernel
theorem dX1_weigh_10 : decode cX1_weigh 10 = .ok (.if_icmp .eq 11, 3) := by decide +kernel
theorem dX1_weigh_13 : decode cX1_weigh 13 = .ok (.iload_n 1, 1) := by decide +kernel
theorem dX1_weigh_14 : decode cX1_weigh 14 = .ok (.aload_n 0, 1) := by decide +kernel
theorem dX1_weigh_15 : decode cX1_weigh 15 = .ok (.getfield 15, 3) := by decide +kernel
theorem dX1_weigh_18 : decode cX1_weigh 18 = .ok (.if_icmp .ge 25, 3) := by decide +kernel
theorem dX1_weigh_21 : decode cX1_weigh 21 = .ok (.aload_n 0, 1) := by decide +kernel
theorem dX1_weigh_22 : decode cX1_weigh 22 = .ok (.iload_n 1, 1) := by decide +kernel
theorem dX1_weigh_23 : decode cX1_weigh 23 = .ok (.putfield 15, 3) := by decide +kernel
theorem dX1_weigh_26 : decode cX1_weigh 26 = .ok (.aload_n 0, 1) := by decide +kernel
theorem dX1_weigh_27 : decode cX1_weigh 27 = .ok (.getfield 28, 3) := by decide +kernel
theorem dX1_weigh_30 : decode cX1_weigh 30 = .ok (.iconst 0, 1) := by decide +kernel
theorem dX1_weigh_31 : decode cX1_weigh 31 = .ok (.aload_n 0, 1) := by decide +kernel
theorem dX1_weigh_32 : decode cX1_weigh 32 = .ok (.getfield 31, 3) := by decide +kernel
theorem dX1_weigh_35 : decode cX1_weigh 35 = .ok (.iconst 0, 1) := by decide +kernel
theorem dX1_weigh_36 : decode cX1_weigh 36 = .ok (.aload_n 0, 1) := by decide +kernel
theorem dX1_weigh_37 : decode cX1_weigh 37 = .ok (.getfield 9, 3) := by decide +kernel
theorem dX1_weigh_40 : decode cX1_weigh 40 = .ok (.invokestatic 38, 3) := by decide +kernel
theorem dX1_weigh_43 : decode cX1_weigh 43 = .ok (.return_, 1) := by decide +kernel
theorem dX1_changesTo_0 : decode cX1_changesTo 0 = .ok (.aload_n 0, 1) := by decide +kernel
theorem dX1_changesTo_1 : decode cX1_changesTo 1 = .ok (.getfield 9, 3) := by decide +kernel
theorem dX1_changesTo_4 : decode cX1_changesTo 4 = .ok (.istore_n 1, 1) := by decide +kernel
theorem dX1_changesTo_5 : decode cX1_changesTo 5 = .ok (.iconst 0, 1) := by decide +kernel
theorem dX1_changesTo_6 : decode cX1_changesTo 6 = .ok (.istore_n 2, 1) := by decide +kernel
theorem dX1_changesTo_7 : decode cX1_changesTo 7 = .ok (.iconst 0, 1) := by decide +kernel
theorem dX1_changesTo_8 : decode cX1_changesTo 8 = .ok (.istore_n 3, 1) := by decide +kernel
theorem dX1_changesTo_9 : decode cX1_changesTo 9 = .ok (.iload_n 3, 1) := by decide +kernel
theorem dX1_changesTo_10 : decode cX1_changesTo 10 = .ok (.aload_n 0, 1) := by decide +kernel
theorem dX1_changesTo_11 : decode cX1_changesTo 11 = .ok (.getfield 9, 3) := by decide +kernel
theorem dX1_changesTo_14 : decode cX1_changesTo 14 = .ok (.if_icmp .ge 66, 3) := by decide +kernel
theorem dX1_changesTo_17 : decode cX1_changesTo 17 = .ok (.iload_n 2, 1) := by decide +kernel
theorem dX1_changesTo_18 : decode cX1_changesTo 18 = .ok (.iload_n 3, 1) := by decide +kernel
theorem dX1_changesTo_19 : decode cX1_changesTo 19 = .ok (.ishr, 1) := by decide +kernel
theorem dX1_changesTo_20 : decode cX1_changesTo 20 = .ok (.iconst 1, 1) := by decide +kernel
theorem dX1_changesTo_21 : decode cX1_changesTo 21 = .ok (.iand, 1) := by decide +kernel
theorem dX1_changesTo_22 : decode cX1_changesTo 22 = .ok (.ifCond .ne 6, 3) := by decide +kernel
theorem dX1_changesTo_25 : decode cX1_changesTo 25 = .ok (.iinc 1 (-1), 3) := by decide +kernel
theorem dX1_changesTo_28 : decode cX1_changesTo 28 = .ok (.iload_n 3, 1) := by decide +kernel
theorem dX1_changesTo_29 : decode cX1_changesTo 29 = .ok (.istore 4, 2) := by decide +kernel
theorem dX1_changesTo_31 : decode cX1_changesTo 31 = .ok (.iconst 0, 1) := by decide +kernel
theorem dX1_changesTo_32 : decode cX1_changesTo 32 = .ok (.istore 5, 2) := by decide +kernel
theorem dX1_changesTo_34 : decode cX1_changesTo 34 = .ok (.iload 5, 2) := by decide +kernel
theorem dX1_changesTo_36 : decode cX1_changesTo 36 = .ok (.aload_n 0, 1) := by decide +kernel
theorem dX1_changesTo_37 : decode cX1_changesTo 37 = .ok (.getfield 9, 3) := by decide +kernel
theorem dX1_changesTo_40 : decode cX1_changesTo 40 = .ok (.if_icmp .ge 34, 3) := by decide +kernel
theorem dX1_changesTo_43 : decode cX1_changesTo 43 = .ok (.iload_n 2, 1) := by decide +kernel
theorem dX1_changesTo_44 : decode cX1_changesTo 44 = .ok (.iload 4, 2) := by decide +kernel
theorem dX1_changesTo_46 : decode cX1_changesTo 46 = .ok (.ishr, 1) := by decide +kernel
theorem dX1_changesTo_47 : decode cX1_changesTo 47 = .ok (.iconst 1, 1) := by decide +kernel
theorem dX1_changesTo_48 : decode cX1_changesTo 48 = .ok (.iand, 1) := by decide +kernel
theorem dX1_changesTo_49 : decode cX1_changesTo 49 = .ok (.ifCond .ne 25, 3) := by decide +kernel
theorem dX1_changesTo_52 : decode cX1_changesTo 52 = .ok (.iload_n 2, 1) := by decide +kernel
theorem dX1_changesTo_53 : decode cX1_changesTo 53 = .ok (.iconst 1, 1) := by decide +kernel
theorem dX1_changesTo_54 : decode cX1_changesTo 54 = .ok (.iload 4, 2) := by decide +kernel
theorem dX1_changesTo_56 : decode cX1_changesTo 56 = .ok (.ishl, 1) := by decide +kernel
theorem dX1_changesTo_57 : decode cX1_changesTo 57 = .ok (.ior, 1) := by decide +kernel
theorem dX1_changesTo_58 : decode cX1_changesTo 58 = .ok (.istore_n 2, 1) := by decide +kernel
theorem dX1_changesTo_59 : decode cX1_changesTo 59 = .ok (.aload_n 0, 1) := by decide +kernel
theorem dX1_changesTo_60 : decode cX1_changesTo 60 = .ok (.getfield 28, 3) := by decide +kernel
theorem dX1_changesTo_63 : decode cX1_changesTo 63 = .ok (.iload 4, 2) := by decide +kernel
theorem dX1_changesTo_65 : decode cX1_changesTo 65 = .ok (.iaload, 1) := by decide +kernel
theorem dX1_changesTo_66 : decode cX1_changesTo 66 = .ok (.istore 4, 2) := by decide +kernel
theorem dX1_changesTo_68 : decode cX1_changesTo 68 = .ok (.iinc 5 1, 3) := by decide +kernel
theorem dX1_changesTo_71 : decode cX1_changesTo 71 = .ok (.goto (-37), 3) := by decide +kernel
theorem dX1_changesTo_74 : decode cX1_changesTo 74 = .ok (.iinc 3 1, 3) := by decide +kernel
theorem dX1_changesTo_77 : decode cX1_changesTo 77 = .ok (.goto (-68), 3) := by decide +kernel
theorem dX1_changesTo_80 : decode cX1_changesTo 80 = .ok (.iload_n 1, 1) := by decide +kernel
theorem dX1_changesTo_81 : decode cX1_changesTo 81 = .ok (.ireturn, 1) := by decide +kernel
theorem dX2_init_0 : decode cX2_init 0 = .ok (.aload_n 0, 1) := by decide +kernel
theorem dX2_init_1 : decode cX2_init 1 = .ok (.invokespecial 3, 3) := by decide +kernel
theorem dX2_init_4 : decode cX2_init 4 = .ok (.aload_n 0, 1) := by decide +kernel
theorem dX2_init_5 : decode cX2_init 5 = .ok (.iconst 0, 1) := by decide +kernel
theorem dX2_init_6 : decode cX2_init 6 = .ok (.putfield 9, 3) := by decide +kernel
theorem dX2_init_9 : decode cX2_init 9 = .ok (.aload_n 0, 1) := by decide +kernel
theorem dX2_init_10 : decode cX2_init 10 = .ok (.bipush 17, 2) := by decide +kernel
theorem dX2_init_12 : decode cX2_init 12 = .ok (.newarray .int, 2) := by decide +kernel
theorem dX2_init_14 : decode cX2_init 14 = .ok (.putfield 15, 3) := by decide +kernel
theorem dX2_init_17 : decode cX2_init 17 = .ok (.aload_n 0, 1) := by decide +kernel
theorem dX2_init_18 : decode cX2_init 18 = .ok (.bipush 17, 2) := by decide +kernel
theorem dX2_init_20 : decode cX2_init 20 = .ok (.newarray .int, 2) := by decide +kernel
theorem dX2_init_22 : decode cX2_init 22 = .ok (.putfield 19, 3) := by decide +kernel
theorem dX2_init_25 : decode cX2_init 25 = .ok (.aload_n 0, 1) := by decide +kernel
theorem dX2_init_26 : decode cX2_init 26 = .ok (.bipush 17, 2) := by decide +kernel
theorem dX2_init_28 : decode cX2_init 28 = .ok (.newarray .int, 2) := by decide +kernel
theorem dX2_init_30 : decode cX2_init 30 = .ok (.putfield 22, 3) := by decide +kernel
theorem dX2_init_33 : decode cX2_init 33 = .ok (.aload_n 0, 1) := by decide +kernel
theorem dX2_init_34 : decode cX2_init 34 = .ok (.getfield 15, 3) := by decide +kernel
theorem dX2_init_37 : decode cX2_init 37 = .ok (.bipush 16, 2) := by decide +kernel
theorem dX2_init_39 : decode cX2_init 39 = .ok (.iconst 0, 1) := by decide +kernel
theorem dX2_init_40 : decode cX2_init 40 = .ok (.iastore, 1) := by decide +kernel
theorem dX2_init_41 : decode cX2_init 41 = .ok (.aload_n 0, 1) := by decide +kernel
theorem dX2_init_42 : decode cX2_init 42 = .ok (.getfield 19, 3) := by decide +kernel
theorem dX2_init_45 : decode cX2_init 45 = .ok (.bipush 16, 2) := by decide +kernel
theorem dX2_init_47 : decode cX2_init 47 = .ok (.bipush 10, 2) := by decide +kernel
theorem dX2_init_49 : decode cX2_init 49 = .ok (.iastore, 1) := by decide +kernel
theorem dX2_init_50 : decode cX2_init 50 = .ok (.aload_n 0, 1) := by decide +kernel
theorem dX2_init_51 : decode cX2_init 51 = .ok (.getfield 22, 3) := by decide +kernel
theorem dX2_init_54 : decode cX2_init 54 = .ok (.bipush 16, 2) := by decide +kernel
theorem dX2_init_56 : decode cX2_init 56 = .ok (.bipush 8, 2) := by decide +kernel
theorem dX2_init_58 : decode cX2_init 58 = .ok (.iastore, 1) := by decide +kernel
theorem dX2_init_59 : decode cX2_init 59 = .ok (.return_, 1) := by decide +kernel
theorem dX2_has_0 : decode cX2_has 0 = .ok (.iload_n 1, 1) := by decide +kernel
theorem dX2_has_1 : decode cX2_has 1 = .ok (.ifCond .lt 15, 3) := by decide +kernel
theorem dX2_has_4 : decode cX2_has 4 = .ok (.iload_n 1, 1) := by decide +kernel
theorem dX2_has_5 : decode cX2_has 5 = .ok (.aload_n 0, 1) := by decide +kernel
theorem dX2_has_6 : decode cX2_has 6 = .ok (.getfield 9, 3) := by decide +kernel
theorem dX2_has_9 : decode cX2_has 9 = .ok (.if_icmp .ge 7, 3) := by decide +kernel
theorem dX2_has_12 : decode cX2_has 12 = .ok (.iconst 1, 1) := by decide +kernel
theorem dX2_has_13 : decode cX2_has 13 = .ok (.goto 4, 3) := by decide +kernel
theorem dX2_has_16 : decode cX2_has 16 = .ok (.iconst 0, 1) := by decide +kernel
theorem dX2_has_17 : decode cX2_has 17 = .ok (.ireturn, 1) := by decide +kernel
theorem dX2_add_0 : decode cX2_add 0 = .ok (.aload_n 0, 1) := by decide +kernel
theorem dX2_add_1 : decode cX2_add 1 = .ok (.getfield 9, 3) := by decide +kernel
theorem dX2_add_4 : decode cX2_add 4 = .ok (.bipush 16, 2) := by decide +kernel
theorem dX2_add_6 : decode cX2_add 6 = .ok (.if_icmp .lt 6, 3) := by decide +kernel
theorem dX2_add_9 : decode cX2_add 9 = .ok (.bipush (-3), 2) := by decide +kernel
theorem dX2_add_11 : decode cX2_add 11 = .ok (.ireturn, 1) := by decide +kernel
theorem dX2_add_12 : decode cX2_add 12 = .ok (.aload_n 0, 1) := by decide +kernel
theorem dX2_add_13 : decode cX2_add 13 = .ok (.getfield 15, 3) := by decide +kernel
theorem dX2_add_16 : decode cX2_add 16 = .ok (.aload_n 0, 1) := by decide +kernel
theorem dX2_add_17 : decode cX2_add 17 = .ok (.getfield 9, 3) := by decide +kernel
theorem dX2_add_20 : decode cX2_add 20 = .ok (.iload_n 1, 1) := by decide +kernel
theorem dX2_add_21 : decode cX2_add 21 = .ok (.iastore, 1) := by decide +kernel
theorem dX2_add_22 : decode cX2_add 22 = .ok (.aload_n 0, 1) := by decide +kernel
theorem dX2_add_23 : decode cX2_add 23 = .ok (.getfield 19, 3) := by decide +kernel
theorem dX2_add_26 : decode cX2_add 26 = .ok (.aload_n 0, 1) := by decide +kernel
theorem dX2_add_27 : decode cX2_add 27 = .ok (.getfield 9, 3) := by decide +kernel
theorem dX2_add_30 : decode cX2_add 30 = .ok (.iload_n 2, 1) := by decide +kernel
theorem dX2_add_31 : decode cX2_add 31 = .ok (.iastore, 1) := by decide +kernel
theorem dX2_add_32 : decode cX2_add 32 = .ok (.aload_n 0, 1) := by decide +kernel
theorem dX2_add_33 : decode cX2_add 33 = .ok (.getfield 22, 3) := by decide +kernel
theorem dX2_add_36 : decode cX2_add 36 = .ok (.aload_n 0, 1) := by decide +kernel
theorem dX2_add_37 : decode cX2_add 37 = .ok (.getfield 9, 3) := by decide +kernel
theorem dX2_add_40 : decode cX2_add 40 = .ok (.iload_n 3, 1) := by decide +kernel
theorem dX2_add_41 : decode cX2_add 41 = .ok (.iastore, 1) := by decide +kernel
theorem dX2_add_42 : decode cX2_add 42 = .ok (.aload_n 0, 1) := by decide +kernel
theorem dX2_add_43 : decode cX2_add 43 = .ok (.dup, 1) := by decide +kernel
theorem dX2_add_44 : decode cX2_add 44 = .ok (.getfield 9, 3) := by decide +kernel
theorem dX2_add_47 : decode cX2_add 47 = .ok (.iconst 1, 1) := by decide +kernel
theorem dX2_add_48 : decode cX2_add 48 = .ok (.iadd, 1) := by decide +kernel
theorem dX2_add_49 : decode cX2_add 49 = .ok (.putfield 9, 3) := by decide +kernel
theorem dX2_add_52 : decode cX2_add 52 = .ok (.aload_n 0, 1) := by decide +kernel
theorem dX2_add_53 : decode cX2_add 53 = .ok (.getfield 9, 3) := by decide +kernel
theorem dX2_add_56 : decode cX2_add 56 = .ok (.iconst 1, 1) := by decide +kernel
theorem dX2_add_57 : decode cX2_add 57 = .ok (.isub, 1) := by decide +kernel
theorem dX2_add_58 : decode cX2_add 58 = .ok (.ireturn, 1) := by decide +kernel
theorem dX2_becomeLike_0 : decode cX2_becomeLike 0 = .ok (.aload_n 0, 1) := by decide +kernel
theorem dX2_becomeLike_1 : decode cX2_becomeLike 1 = .ok (.aload_n 1, 1) := by decide +kernel
theorem dX2_becomeLike_2 : decode cX2_becomeLike 2 = .ok (.getfield 9, 3) := by decide +kernel
theorem dX2_becomeLike_5 : decode cX2_becomeLike 5 = .ok (.putfield 9, 3) := by decide +kernel
theorem dX2_becomeLike_8 : decode cX2_becomeLike 8 = .ok (.aload_n 1, 1) := by decide +kernel
theorem dX2_becomeLike_9 : decode cX2_becomeLike 9 = .ok (.getfield 15, 3) := by decide +kernel
theorem dX2_becomeLike_12 : decode cX2_becomeLike 12 = .ok (.iconst 0, 1) := by decide +kernel
theorem dX2_becomeLike_13 : decode cX2_becomeLike 13 = .ok (.aload_n 0, 1) := by decide +kernel
theorem dX2_becomeLike_14 : decode cX2_becomeLike 14 = .ok (.getfield 15, 3) := by decide +kernel
theorem dX2_becomeLike_17 : decode cX2_becomeLike 17 = .ok (.iconst 0, 1) := by decide +kernel
theorem dX2_becomeLike_18 : decode cX2_becomeLike 18 = .ok (.bipush 16, 2) := by decide +kernel
theorem dX2_becomeLike_20 : decode cX2_becomeLike 20 = .ok (.invokestatic 25, 3) := by decide +kernel
theorem dX2_becomeLike_23 : decode cX2_becomeLike 23 = .ok (.aload_n 1, 1) := by decide +kernel
theorem dX2_becomeLike_24 : decode cX2_becomeLike 24 = .ok (.getfield 19, 3) := by decide +kernel
theorem dX2_becomeLike_27 : decode cX2_becomeLike 27 = .ok (.iconst 0, 1) := by decide +kernel
theorem dX2_becomeLike_28 : decode cX2_becomeLike 28 = .ok (.aload_n 0, 1) := by decide +kernel
theorem dX2_becomeLike_29 : decode cX2_becomeLike 29 = .ok (.getfield 19, 3) := by decide +kernel
theorem dX2_becomeLike_32 : decode cX2_becomeLike 32 = .ok (.iconst 0, 1) := by decide +kernel
theorem dX2_becomeLike_33 : decode cX2_becomeLike 33 = .ok (.bipush 16, 2) := by decide +kernel
theorem dX2_becomeLike_35 : decode cX2_becomeLike 35 = .ok (.invokestatic 25, 3) := by decide +kernel
theorem dX2_becomeLike_38 : decode cX2_becomeLike 38 = .ok (.aload_n 1, 1) := by decide +kernel
theorem dX2_becomeLike_39 : decode cX2_becomeLike 39 = .ok (.getfield 22, 3) := by decide +kernel
theorem dX2_becomeLike_42 : decode cX2_becomeLike 42 = .ok (.iconst 0, 1) := by decide +kernel
theorem dX2_becomeLike_43 : decode cX2_becomeLike 43 = .ok (.aload_n 0, 1) := by decide +kernel
theorem dX2_becomeLike_44 : decode cX2_becomeLike 44 = .ok (.getfield 22, 3) := by decide +kernel
theorem dX2_becomeLike_47 : decode cX2_becomeLike 47 = .ok (.iconst 0, 1) := by decide +kernel
theorem dX2_becomeLike_48 : decode cX2_becomeLike 48 = .ok (.bipush 16, 2) := by decide +kernel
theorem dX2_becomeLike_50 : decode cX2_becomeLike 50 = .ok (.invokestatic 25, 3) := by decide +kernel
theorem dX2_becomeLike_53 : decode cX2_becomeLike 53 = .ok (.return_, 1) := by decide +kernel
theorem dX2_isAt_0 : decode cX2_isAt 0 = .ok (.aload_n 0, 1) := by decide +kernel
theorem dX2_isAt_1 : decode cX2_isAt 1 = .ok (.getfield 15, 3) := by decide +kernel
theorem dX2_isAt_4 : decode cX2_isAt 4 = .ok (.iload_n 1, 1) := by decide +kernel
theorem dX2_isAt_5 : decode cX2_isAt 5 = .ok (.iaload, 1) := by decide +kernel
theorem dX2_isAt_6 : decode cX2_isAt 6 = .ok (.iload_n 2, 1) := by decide +kernel
theorem dX2_isAt_7 : decode cX2_isAt 7 = .ok (.if_icmp .eq 13, 3) := by decide +kernel
theorem dX2_isAt_10 : decode cX2_isAt 10 = .ok (.aload_n 0, 1) := by decide +kernel
theorem dX2_isAt_11 : decode cX2_isAt 11 = .ok (.getfield 19, 3) := by decide +kernel
theorem dX2_isAt_14 : decode cX2_isAt 14 = .ok (.iload_n 1, 1) := by decide +kernel
theorem dX2_isAt_15 : decode cX2_isAt 15 = .ok (.iaload, 1) := by decide +kernel
theorem dX2_isAt_16 : decode cX2_isAt 16 = .ok (.iload_n 2, 1) := by decide +kernel
theorem dX2_isAt_17 : decode cX2_isAt 17 = .ok (.if_icmp .ne 7, 3) := by decide +kernel
theorem dX2_isAt_20 : decode cX2_isAt 20 = .ok (.iconst 1, 1) := by decide +kernel
theorem dX2_isAt_21 : decode cX2_isAt 21 = .ok (.goto 4, 3) := by decide +kernel
theorem dX2_isAt_24 : decode cX2_isAt 24 = .ok (.iconst 0, 1) := by decide +kernel
theorem dX2_isAt_25 : decode cX2_isAt 25 = .ok (.ireturn, 1) := by decide +kernel
theorem dX2_at_0 : decode cX2_at 0 = .ok (.iconst 0, 1) := by decide +kernel
theorem dX2_at_1 : decode cX2_at 1 = .ok (.istore_n 2, 1) := by decide +kernel
theorem dX2_at_2 : decode cX2_at 2 = .ok (.iconst 0, 1) := by decide +kernel
theorem dX2_at_3 : decode cX2_at 3 = .ok (.istore_n 3, 1) := by decide +kernel
theorem dX2_at_4 : decode cX2_at 4 = .ok (.iload_n 3, 1) := by decide +kernel
theorem dX2_at_5 : decode cX2_at 5 = .ok (.aload_n 0, 1) := by decide +kernel
theorem dX2_at_6 : decode cX2_at 6 = .ok (.getfield 9, 3) := by decide +kernel
theorem dX2_at_9 : decode cX2_at 9 = .ok (.if_icmp .ge 26, 3) := by decide +kernel
theorem dX2_at_12 : decode cX2_at 12 = .ok (.iload_n 2, 1) := by decide +kernel
theorem dX2_at_13 : decode cX2_at 13 = .ok (.aload_n 0, 1) := by decide +kernel
theorem dX2_at_14 : decode cX2_at 14 = .ok (.iload_n 3, 1) := by decide +kernel
theorem dX2_at_15 : decode cX2_at 15 = .ok (.iload_n 1, 1) := by decide +kernel
theorem dX2_at_16 : decode cX2_at 16 = .ok (.invokevirtual 31, 3) := by decide +kernel
theorem dX2_at_19 : decode cX2_at 19 = .ok (.ifCond .eq 7, 3) := by decide +kernel
theorem dX2_at_22 : decode cX2_at 22 = .ok (.iconst 1, 1) := by decide +kernel
theorem dX2_at_23 : decode cX2_at 23 = .ok (.goto 4, 3) := by decide +kernel
theorem dX2_at_26 : decode cX2_at 26 = .ok (.iconst 0, 1) := by decide +kernel
theorem dX2_at_27 : decode cX2_at 27 = .ok (.iadd, 1) := by decide +kernel
theorem dX2_at_28 : decode cX2_at 28 = .ok (.istore_n 2, 1) := by decide +kernel
theorem dX2_at_29 : decode cX2_at 29 = .ok (.iinc 3 1, 3) := by decide +kernel
theorem dX2_at_32 : decode cX2_at 32 = .ok (.goto (-28), 3) := by decide +kernel
theorem dX2_at_35 : decode cX2_at 35 = .ok (.iload_n 2, 1) := by decide +kernel
theorem dX2_at_36 : decode cX2_at 36 = .ok (.ireturn, 1) := by decide +kernel
theorem dX2_hasLockAt_0 : decode cX2_hasLockAt 0 = .ok (.iconst 0, 1) := by decide +kernel
theorem dX2_hasLockAt_1 : decode cX2_hasLockAt 1 = .ok (.istore_n 3, 1) := by decide +kernel
theorem dX2_hasLockAt_2 : decode cX2_hasLockAt 2 = .ok (.iload_n 3, 1) := by decide +kernel
theorem dX2_hasLockAt_3 : decode cX2_hasLockAt 3 = .ok (.aload_n 0, 1) := by decide +kernel
theorem dX2_hasLockAt_4 : decode cX2_hasLockAt 4 = .ok (.getfield 9, 3) := by decide +kernel
theorem dX2_hasLockAt_7 : decode cX2_hasLockAt 7 = .ok (.if_icmp .ge 30, 3) := by decide +kernel
theorem dX2_hasLockAt_10 : decode cX2_hasLockAt 10 = .ok (.aload_n 0, 1) := by decide +kernel
theorem dX2_hasLockAt_11 : decode cX2_hasLockAt 11 = .ok (.iload_n 3, 1) := by decide +kernel
theorem dX2_hasLockAt_12 : decode cX2_hasLockAt 12 = .ok (.iload_n 1, 1) := by decide +kernel
theorem dX2_hasLockAt_13 : decode cX2_hasLockAt 13 = .ok (.invokevirtual 31, 3) := by decide +kernel
theorem dX2_hasLockAt_16 : decode cX2_hasLockAt 16 = .ok (.ifCond .eq 15, 3) := by decide +kernel
theorem dX2_hasLockAt_19 : decode cX2_hasLockAt 19 = .ok (.aload_n 0, 1) := by decide +kernel
theorem dX2_hasLockAt_20 : decode cX2_hasLockAt 20 = .ok (.getfield 22, 3) := by decide +kernel
theorem dX2_hasLockAt_23 : decode cX2_hasLockAt 23 = .ok (.iload_n 3, 1) := by decide +kernel
theorem dX2_hasLockAt_24 : decode cX2_hasLockAt 24 = .ok (.iaload, 1) := by decide +kernel
theorem dX2_hasLockAt_25 : decode cX2_hasLockAt 25 = .ok (.iload_n 2, 1) := by decide +kernel
theorem dX2_hasLockAt_26 : decode cX2_hasLockAt 26 = .ok (.if_icmp .ne 5, 3) := by decide +kernel
theorem dX2_hasLockAt_29 : decode cX2_hasLockAt 29 = .ok (.iconst 1, 1) := by decide +kernel
theorem dX2_hasLockAt_30 : decode cX2_hasLockAt 30 = .ok (.ireturn, 1) := by decide +kernel
theorem dX2_hasLockAt_31 : decode cX2_hasLockAt 31 = .ok (.iinc 3 1, 3) := by decide +kernel
theorem dX2_hasLockAt_34 : decode cX2_hasLockAt 34 = .ok (.goto (-32), 3) := by decide +kernel
theorem dX2_hasLockAt_37 : decode cX2_hasLockAt 37 = .ok (.iconst 0, 1) := by decide +kernel
theorem dX2_hasLockAt_38 : decode cX2_hasLockAt 38 = .ok (.ireturn, 1) := by decide +kernel
theorem dX2_canPass_0 : decode cX2_canPass 0 = .ok (.iload_n 1, 1) := by decide +kernel
theorem dX2_canPass_1 : decode cX2_canPass 1 = .ok (.ifCond .lt 11, 3) := by decide +kernel
theorem dX2_canPass_4 : decode cX2_canPass 4 = .ok (.iload_n 1, 1) := by decide +kernel
theorem dX2_canPass_5 : decode cX2_canPass 5 = .ok (.aload_n 0, 1) := by decide +kernel
theorem dX2_canPass_6 : decode cX2_canPass 6 = .ok (.getfield 9, 3) := by decide +kernel
theorem dX2_canPass_9 : decode cX2_canPass 9 = .ok (.if_icmp .lt 9, 3) := by decide +kernel
theorem dX2_canPass_12 : decode cX2_canPass 12 = .ok (.iload_n 1, 1) := by decide +kernel
theorem dX2_canPass_13 : decode cX2_canPass 13 = .ok (.bipush 16, 2) := by decide +kernel
theorem dX2_canPass_15 : decode cX2_canPass 15 = .ok (.if_icmp .ne 7, 3) := by decide +kernel
theorem dX2_canPass_18 : decode cX2_canPass 18 = .ok (.iconst 1, 1) := by decide +kernel
theorem dX2_canPass_19 : decode cX2_canPass 19 = .ok (.goto 4, 3) := by decide +kernel
theorem dX2_canPass_22 : decode cX2_canPass 22 = .ok (.iconst 0, 1) := by decide +kernel
theorem dX2_canPass_23 : decode cX2_canPass 23 = .ok (.istore_n 3, 1) := by decide +kernel
theorem dX2_canPass_24 : decode cX2_canPass 24 = .ok (.iload_n 3, 1) := by decide +kernel
theorem dX2_canPass_25 : decode cX2_canPass 25 = .ok (.ifCond .eq 31, 3) := by decide +kernel
theorem dX2_canPass_28 : decode cX2_canPass 28 = .ok (.aload_n 0, 1) := by decide +kernel
theorem dX2_canPass_29 : decode cX2_canPass 29 = .ok (.getfield 22, 3) := by decide +kernel
theorem dX2_canPass_32 : decode cX2_canPass 32 = .ok (.iload_n 1, 1) := by decide +kernel
theorem dX2_canPass_33 : decode cX2_canPass 33 = .ok (.iaload, 1) := by decide +kernel
theorem dX2_canPass_34 : decode cX2_canPass 34 = .ok (.bipush 8, 2) := by decide +kernel
theorem dX2_canPass_36 : decode cX2_canPass 36 = .ok (.if_icmp .eq 16, 3) := by decide +kernel
theorem dX2_canPass_39 : decode cX2_canPass 39 = .ok (.iload_n 2, 1) := by decide +kernel
theorem dX2_canPass_40 : decode cX2_canPass 40 = .ok (.aload_n 0, 1) := by decide +kernel
theorem dX2_canPass_41 : decode cX2_canPass 41 = .ok (.getfield 22, 3) := by decide +kernel
theorem dX2_canPass_44 : decode cX2_canPass 44 = .ok (.iload_n 1, 1) := by decide +kernel
theorem dX2_canPass_45 : decode cX2_canPass 45 = .ok (.iaload, 1) := by decide +kernel
theorem dX2_canPass_46 : decode cX2_canPass 46 = .ok (.ishr, 1) := by decide +kernel
theorem dX2_canPass_47 : decode cX2_canPass 47 = .ok (.iconst 1, 1) := by decide +kernel
theorem dX2_canPass_48 : decode cX2_canPass 48 = .ok (.iand, 1) := by decide +kernel
theorem dX2_canPass_49 : decode cX2_canPass 49 = .ok (.ifCond .eq 7, 3) := by decide +kernel
theorem dX2_canPass_52 : decode cX2_canPass 52 = .ok (.iconst 1, 1) := by decide +kernel
theorem dX2_canPass_53 : decode cX2_canPass 53 = .ok (.goto 4, 3) := by decide +kernel
theorem dX2_canPass_56 : decode cX2_canPass 56 = .ok (.iconst 0, 1) := by decide +kernel
theorem dX2_canPass_57 : decode cX2_canPass 57 = .ok (.ireturn, 1) := by decide +kernel
theorem dX3_init_0 : decode cX3_init 0 = .ok (.aload_n 0, 1) := by decide +kernel
theorem dX3_init_1 : decode cX3_init 1 = .ok (.invokespecial 3, 3) := by decide +kernel
theorem dX3_init_4 : decode cX3_init 4 = .ok (.aload_n 0, 1) := by decide +kernel
theorem dX3_init_5 : decode cX3_init 5 = .ok (.iconst 0, 1) := by decide +kernel
theorem dX3_init_6 : decode cX3_init 6 = .ok (.putfield 9, 3) := by decide +kernel
theorem dX3_init_9 : decode cX3_init 9 = .ok (.aload_n 0, 1) := by decide +kernel
theorem dX3_init_10 : decode cX3_init 10 = .ok (.bipush 8, 2) := by decide +kernel
theorem dX3_init_12 : decode cX3_init 12 = .ok (.newarray .int, 2) := by decide +kernel
theorem dX3_init_14 : decode cX3_init 14 = .ok (.putfield 15, 3) := by decide +kernel
theorem dX3_init_17 : decode cX3_init 17 = .ok (.aload_n 0, 1) := by decide +kernel
theorem dX3_init_18 : decode cX3_init 18 = .ok (.bipush 8, 2) := by decide +kernel
theorem dX3_init_20 : decode cX3_init 20 = .ok (.newarray .int, 2) := by decide +kernel
theorem dX3_init_22 : decode cX3_init 22 = .ok (.putfield 19, 3) := by decide +kernel
theorem dX3_init_25 : decode cX3_init 25 = .ok (.aload_n 0, 1) := by decide +kernel
theorem dX3_init_26 : decode cX3_init 26 = .ok (.bipush 8, 2) := by decide +kernel
theorem dX3_init_28 : decode cX3_init 28 = .ok (.newarray .int, 2) := by decide +kernel
theorem dX3_init_30 : decode cX3_init 30 = .ok (.putfield 22, 3) := by decide +kernel
theorem dX3_init_33 : decode cX3_init 33 = .ok (.aload_n 0, 1) := by decide +kernel
theorem dX3_init_34 : decode cX3_init 34 = .ok (.bipush 8, 2) := by decide +kernel
theorem dX3_init_36 : decode cX3_init 36 = .ok (.newarray .int, 2) := by decide +kernel
theorem dX3_init_38 : decode cX3_init 38 = .ok (.putfield 25, 3) := by decide +kernel
theorem dX3_init_41 : decode cX3_init 41 = .ok (.aload_n 0, 1) := by decide +kernel
theorem dX3_init_42 : decode cX3_init 42 = .ok (.bipush 8, 2) := by decide +kernel
theorem dX3_init_44 : decode cX3_init 44 = .ok (.newarray .int, 2) := by decide +kernel
theorem dX3_init_46 : decode cX3_init 46 = .ok (.putfield 28, 3) := by decide +kernel
theorem dX3_init_49 : decode cX3_init 49 = .ok (.return_, 1) := by decide +kernel
theorem dX3_has_0 : decode cX3_has 0 = .ok (.iload_n 1, 1) := by decide +kernel
theorem dX3_has_1 : decode cX3_has 1 = .ok (.ifCond .lt 15, 3) := by decide +kernel
theorem dX3_has_4 : decode cX3_has 4 = .ok (.iload_n 1, 1) := by decide +kernel
theorem dX3_has_5 : decode cX3_has 5 = .ok (.aload_n 0, 1) := by decide +kernel
theorem dX3_has_6 : decode cX3_has 6 = .ok (.getfield 9, 3) := by decide +kernel
theorem dX3_has_9 : decode cX3_has 9 = .ok (.if_icmp .ge 7, 3) := by decide +kernel
theorem dX3_has_12 : decode cX3_has 12 = .ok (.iconst 1, 1) := by decide +kernel
theorem dX3_has_13 : decode cX3_has 13 = .ok (.goto 4, 3) := by decide +kernel
theorem dX3_has_16 : decode cX3_has 16 = .ok (.iconst 0, 1) := by decide +kernel
theorem dX3_has_17 : decode cX3_has 17 = .ok (.ireturn, 1) := by decide +kernel
theorem dX3_add_0 : decode cX3_add 0 = .ok (.aload_n 0, 1) := by decide +kernel
theorem dX3_add_1 : decode cX3_add 1 = .ok (.getfield 9, 3) := by decide +kernel
theorem dX3_add_4 : decode cX3_add 4 = .ok (.bipush 8, 2) := by decide +kernel
theorem dX3_add_6 : decode cX3_add 6 = .ok (.if_icmp .lt 6, 3) := by decide +kernel
theorem dX3_add_9 : decode cX3_add 9 = .ok (.bipush (-3), 2) := by decide +kernel
theorem dX3_add_11 : decode cX3_add 11 = .ok (.ireturn, 1) := by decide +kernel
theorem dX3_add_12 : decode cX3_add 12 = .ok (.aload_n 0, 1) := by decide +kernel
theorem dX3_add_13 : decode cX3_add 13 = .ok (.getfield 15, 3) := by decide +kernel
theorem dX3_add_16 : decode cX3_add 16 = .ok (.aload_n 0, 1) := by decide +kernel
theorem dX3_add_17 : decode cX3_add 17 = .ok (.getfield 9, 3) := by decide +kernel
theorem dX3_add_20 : decode cX3_add 20 = .ok (.iload_n 1, 1) := by decide +kernel
theorem dX3_add_21 : decode cX3_add 21 = .ok (.iastore, 1) := by decide +kernel
theorem dX3_add_22 : decode cX3_add 22 = .ok (.aload_n 0, 1) := by decide +kernel
theorem dX3_add_23 : decode cX3_add 23 = .ok (.getfield 19, 3) := by decide +kernel
theorem dX3_add_26 : decode cX3_add 26 = .ok (.aload_n 0, 1) := by decide +kernel
theorem dX3_add_27 : decode cX3_add 27 = .ok (.getfield 9, 3) := by decide +kernel
theorem dX3_add_30 : decode cX3_add 30 = .ok (.iload_n 2, 1) := by decide +kernel
theorem dX3_add_31 : decode cX3_add 31 = .ok (.iastore, 1) := by decide +kernel
theorem dX3_add_32 : decode cX3_add 32 = .ok (.aload_n 0, 1) := by decide +kernel
theorem dX3_add_33 : decode cX3_add 33 = .ok (.getfield 22, 3) := by decide +kernel
theorem dX3_add_36 : decode cX3_add 36 = .ok (.aload_n 0, 1) := by decide +kernel
theorem dX3_add_37 : decode cX3_add 37 = .ok (.getfield 9, 3) := by decide +kernel
theorem dX3_add_40 : decode cX3_add 40 = .ok (.iconst 4, 1) := by decide +kernel
theorem dX3_add_41 : decode cX3_add 41 = .ok (.iastore, 1) := by decide +kernel
theorem dX3_add_42 : decode cX3_add 42 = .ok (.aload_n 0, 1) := by decide +kernel
theorem dX3_add_43 : decode cX3_add 43 = .ok (.getfield 25, 3) := by decide +kernel
theorem dX3_add_46 : decode cX3_add 46 = .ok (.aload_n 0, 1) := by decide +kernel
theorem dX3_add_47 : decode cX3_add 47 = .ok (.getfield 9, 3) := by decide +kernel
theorem dX3_add_50 : decode cX3_add 50 = .ok (.iconst 0, 1) := by decide +kernel
theorem dX3_add_51 : decode cX3_add 51 = .ok (.iastore, 1) := by decide +kernel
theorem dX3_add_52 : decode cX3_add 52 = .ok (.aload_n 0, 1) := by decide +kernel
theorem dX3_add_53 : decode cX3_add 53 = .ok (.getfield 28, 3) := by decide +kernel
theorem dX3_add_56 : decode cX3_add 56 = .ok (.aload_n 0, 1) := by decide +kernel
theorem dX3_add_57 : decode cX3_add 57 = .ok (.getfield 9, 3) := by decide +kernel
theorem dX3_add_60 : decode cX3_add 60 = .ok (.iconst 0, 1) := by decide +kernel
theorem dX3_add_61 : decode cX3_add 61 = .ok (.iastore, 1) := by decide +kernel
theorem dX3_add_62 : decode cX3_add 62 = .ok (.aload_n 0, 1) := by decide +kernel
theorem dX3_add_63 : decode cX3_add 63 = .ok (.dup, 1) := by decide +kernel
theorem dX3_add_64 : decode cX3_add 64 = .ok (.getfield 9, 3) := by decide +kernel
theorem dX3_add_67 : decode cX3_add 67 = .ok (.iconst 1, 1) := by decide +kernel
theorem dX3_add_68 : decode cX3_add 68 = .ok (.iadd, 1) := by decide +kernel
theorem dX3_add_69 : decode cX3_add 69 = .ok (.putfield 9, 3) := by decide +kernel
theorem dX3_add_72 : decode cX3_add 72 = .ok (.aload_n 0, 1) := by decide +kernel
theorem dX3_add_73 : decode cX3_add 73 = .ok (.getfield 9, 3) := by decide +kernel
theorem dX3_add_76 : decode cX3_add 76 = .ok (.iconst 1, 1) := by decide +kernel
theorem dX3_add_77 : decode cX3_add 77 = .ok (.isub, 1) := by decide +kernel
theorem dX3_add_78 : decode cX3_add 78 = .ok (.ireturn, 1) := by decide +kernel
theorem dX3_becomeLike_0 : decode cX3_becomeLike 0 = .ok (.aload_n 0, 1) := by decide +kernel
theorem dX3_becomeLike_1 : decode cX3_becomeLike 1 = .ok (.aload_n 1, 1) := by decide +kernel
theorem dX3_becomeLike_2 : decode cX3_becomeLike 2 = .ok (.getfield 9, 3) := by decide +kernel
theorem dX3_becomeLike_5 : decode cX3_becomeLike 5 = .ok (.putfield 9, 3) := by decide +kernel
theorem dX3_becomeLike_8 : decode cX3_becomeLike 8 = .ok (.aload_n 1, 1) := by decide +kernel
theorem dX3_becomeLike_9 : decode cX3_becomeLike 9 = .ok (.getfield 15, 3) := by decide +kernel
theorem dX3_becomeLike_12 : decode cX3_becomeLike 12 = .ok (.iconst 0, 1) := by decide +kernel
theorem dX3_becomeLike_13 : decode cX3_becomeLike 13 = .ok (.aload_n 0, 1) := by decide +kernel
theorem dX3_becomeLike_14 : decode cX3_becomeLike 14 = .ok (.getfield 15, 3) := by decide +kernel
theorem dX3_becomeLike_17 : decode cX3_becomeLike 17 = .ok (.iconst 0, 1) := by decide +kernel
theorem dX3_becomeLike_18 : decode cX3_becomeLike 18 = .ok (.bipush 8, 2) := by decide +kernel
theorem dX3_becomeLike_20 : decode cX3_becomeLike 20 = .ok (.invokestatic 31, 3) := by decide +kernel
theorem dX3_becomeLike_23 : decode cX3_becomeLike 23 = .ok (.aload_n 1, 1) := by decide +kernel
theorem dX3_becomeLike_24 : decode cX3_becomeLike 24 = .ok (.getfield 19, 3) := by decide +kernel
theorem dX3_becomeLike_27 : decode cX3_becomeLike 27 = .ok (.iconst 0, 1) := by decide +kernel
theorem dX3_becomeLike_28 : decode cX3_becomeLike 28 = .ok (.aload_n 0, 1) := by decide +kernel
theorem dX3_becomeLike_29 : decode cX3_becomeLike 29 = .ok (.getfield 19, 3) := by decide +kernel
theorem dX3_becomeLike_32 : decode cX3_becomeLike 32 = .ok (.iconst 0, 1) := by decide +kernel
theorem dX3_becomeLike_33 : decode cX3_becomeLike 33 = .ok (.bipush 8, 2) := by decide +kernel
theorem dX3_becomeLike_35 : decode cX3_becomeLike 35 = .ok (.invokestatic 31, 3) := by decide +kernel
theorem dX3_becomeLike_38 : decode cX3_becomeLike 38 = .ok (.aload_n 1, 1) := by decide +kernel
theorem dX3_becomeLike_39 : decode cX3_becomeLike 39 = .ok (.getfield 22, 3) := by decide +kernel
theorem dX3_becomeLike_42 : decode cX3_becomeLike 42 = .ok (.iconst 0, 1) := by decide +kernel
theorem dX3_becomeLike_43 : decode cX3_becomeLike 43 = .ok (.aload_n 0, 1) := by decide +kernel
theorem dX3_becomeLike_44 : decode cX3_becomeLike 44 = .ok (.getfield 22, 3) := by decide +kernel
theorem dX3_becomeLike_47 : decode cX3_becomeLike 47 = .ok (.iconst 0, 1) := by decide +kernel
theorem dX3_becomeLike_48 : decode cX3_becomeLike 48 = .ok (.bipush 8, 2) := by decide +kernel
theorem dX3_becomeLike_50 : decode cX3_becomeLike 50 = .ok (.invokestatic 31, 3) := by decide +kernel
theorem dX3_becomeLike_53 : decode cX3_becomeLike 53 = .ok (.aload_n 1, 1) := by decide +kernel
theorem dX3_becomeLike_54 : decode cX3_becomeLike 54 = .ok (.getfield 25, 3) := by decide +kernel
theorem dX3_becomeLike_57 : decode cX3_becomeLike 57 = .ok (.iconst 0, 1) := by decide +kernel
theorem dX3_becomeLike_58 : decode cX3_becomeLike 58 = .ok (.aload_n 0, 1) := by decide +kernel
theorem dX3_becomeLike_59 : decode cX3_becomeLike 59 = .ok (.getfield 25, 3) := by decide +kernel
theorem dX3_becomeLike_62 : decode cX3_becomeLike 62 = .ok (.iconst 0, 1) := by decide +kernel
theorem dX3_becomeLike_63 : decode cX3_becomeLike 63 = .ok (.bipush 8, 2) := by decide +kernel
theorem dX3_becomeLike_65 : decode cX3_becomeLike 65 = .ok (.invokestatic 31, 3) := by decide +kernel
theorem dX3_becomeLike_68 : decode cX3_becomeLike 68 = .ok (.aload_n 1, 1) := by decide +kernel
theorem dX3_becomeLike_69 : decode cX3_becomeLike 69 = .ok (.getfield 28, 3) := by decide +kernel
theorem dX3_becomeLike_72 : decode cX3_becomeLike 72 = .ok (.iconst 0, 1) := by decide +kernel
theorem dX3_becomeLike_73 : decode cX3_becomeLike 73 = .ok (.aload_n 0, 1) := by decide +kernel
theorem dX3_becomeLike_74 : decode cX3_becomeLike 74 = .ok (.getfield 28, 3) := by decide +kernel
theorem dX3_becomeLike_77 : decode cX3_becomeLike 77 = .ok (.iconst 0, 1) := by decide +kernel
theorem dX3_becomeLike_78 : decode cX3_becomeLike 78 = .ok (.bipush 8, 2) := by decide +kernel
theorem dX3_becomeLike_80 : decode cX3_becomeLike 80 = .ok (.invokestatic 31, 3) := by decide +kernel
theorem dX3_becomeLike_83 : decode cX3_becomeLike 83 = .ok (.return_, 1) := by decide +kernel
theorem dX3_ring_0 : decode cX3_ring 0 = .ok (.iconst 0, 1) := by decide +kernel
theorem dX3_ring_1 : decode cX3_ring 1 = .ok (.istore_n 3, 1) := by decide +kernel
theorem dX3_ring_2 : decode cX3_ring 2 = .ok (.iconst 0, 1) := by decide +kernel
theorem dX3_ring_3 : decode cX3_ring 3 = .ok (.istore 4, 2) := by decide +kernel
theorem dX3_ring_5 : decode cX3_ring 5 = .ok (.iload 4, 2) := by decide +kernel
theorem dX3_ring_7 : decode cX3_ring 7 = .ok (.aload_n 0, 1) := by decide +kernel
theorem dX3_ring_8 : decode cX3_ring 8 = .ok (.getfield 9, 3) := by decide +kernel
theorem dX3_ring_11 : decode cX3_ring 11 = .ok (.if_icmp .ge 42, 3) := by decide +kernel
theorem dX3_ring_14 : decode cX3_ring 14 = .ok (.aload_n 0, 1) := by decide +kernel
theorem dX3_ring_15 : decode cX3_ring 15 = .ok (.getfield 22, 3) := by decide +kernel
theorem dX3_ring_18 : decode cX3_ring 18 = .ok (.iload 4, 2) := by decide +kernel
theorem dX3_ring_20 : decode cX3_ring 20 = .ok (.iaload, 1) := by decide +kernel
theorem dX3_ring_21 : decode cX3_ring 21 = .ok (.iload_n 1, 1) := by decide +kernel
theorem dX3_ring_22 : decode cX3_ring 22 = .ok (.if_icmp .ne 25, 3) := by decide +kernel
theorem dX3_ring_25 : decode cX3_ring 25 = .ok (.iload_n 2, 1) := by decide +kernel
theorem dX3_ring_26 : decode cX3_ring 26 = .ok (.ifCond .eq 14, 3) := by decide +kernel
theorem dX3_ring_29 : decode cX3_ring 29 = .ok (.aload_n 0, 1) := by decide +kernel
theorem dX3_ring_30 : decode cX3_ring 30 = .ok (.getfield 19, 3) := by decide +kernel
theorem dX3_ring_33 : decode cX3_ring 33 = .ok (.iload 4, 2) := by decide +kernel
theorem dX3_ring_35 : decode cX3_ring 35 = .ok (.iaload, 1) := by decide +kernel
theorem dX3_ring_36 : decode cX3_ring 36 = .ok (.iconst 1, 1) := by decide +kernel
theorem dX3_ring_37 : decode cX3_ring 37 = .ok (.if_icmp .eq 10, 3) := by decide +kernel
theorem dX3_ring_40 : decode cX3_ring 40 = .ok (.iload_n 3, 1) := by decide +kernel
theorem dX3_ring_41 : decode cX3_ring 41 = .ok (.iconst 1, 1) := by decide +kernel
theorem dX3_ring_42 : decode cX3_ring 42 = .ok (.iload 4, 2) := by decide +kernel
theorem dX3_ring_44 : decode cX3_ring 44 = .ok (.ishl, 1) := by decide +kernel
theorem dX3_ring_45 : decode cX3_ring 45 = .ok (.ior, 1) := by decide +kernel
theorem dX3_ring_46 : decode cX3_ring 46 = .ok (.istore_n 3, 1) := by decide +kernel
theorem dX3_ring_47 : decode cX3_ring 47 = .ok (.iinc 4 1, 3) := by decide +kernel
theorem dX3_ring_50 : decode cX3_ring 50 = .ok (.goto (-45), 3) := by decide +kernel
theorem dX3_ring_53 : decode cX3_ring 53 = .ok (.iload_n 3, 1) := by decide +kernel
theorem dX3_ring_54 : decode cX3_ring 54 = .ok (.ireturn, 1) := by decide +kernel
theorem dX3_stain_0 : decode cX3_stain 0 = .ok (.iconst 0, 1) := by decide +kernel
theorem dX3_stain_1 : decode cX3_stain 1 = .ok (.istore 4, 2) := by decide +kernel
theorem dX3_stain_3 : decode cX3_stain 3 = .ok (.iload 4, 2) := by decide +kernel
theorem dX3_stain_5 : decode cX3_stain 5 = .ok (.aload_n 0, 1) := by decide +kernel
theorem dX3_stain_6 : decode cX3_stain 6 = .ok (.getfield 9, 3) := by decide +kernel
theorem dX3_stain_9 : decode cX3_stain 9 = .ok (.if_icmp .ge 56, 3) := by decide +kernel
theorem dX3_stain_12 : decode cX3_stain 12 = .ok (.iload_n 1, 1) := by decide +kernel
theorem dX3_stain_13 : decode cX3_stain 13 = .ok (.iload 4, 2) := by decide +kernel
theorem dX3_stain_15 : decode cX3_stain 15 = .ok (.ishr, 1) := by decide +kernel
theorem dX3_stain_16 : decode cX3_stain 16 = .ok (.iconst 1, 1) := by decide +kernel
theorem dX3_stain_17 : decode cX3_stain 17 = .ok (.iand, 1) := by decide +kernel
theorem dX3_stain_18 : decode cX3_stain 18 = .ok (.ifCond .eq 41, 3) := by decide +kernel
theorem dX3_stain_21 : decode cX3_stain 21 = .ok (.aload_n 0, 1) := by decide +kernel
theorem dX3_stain_22 : decode cX3_stain 22 = .ok (.getfield 19, 3) := by decide +kernel
theorem dX3_stain_25 : decode cX3_stain 25 = .ok (.iload 4, 2) := by decide +kernel
theorem dX3_stain_27 : decode cX3_stain 27 = .ok (.iaload, 1) := by decide +kernel
theorem dX3_stain_28 : decode cX3_stain 28 = .ok (.iconst 1, 1) := by decide +kernel
theorem dX3_stain_29 : decode cX3_stain 29 = .ok (.if_icmp .ne 30, 3) := by decide +kernel
theorem dX3_stain_32 : decode cX3_stain 32 = .ok (.aload_n 0, 1) := by decide +kernel
theorem dX3_stain_33 : decode cX3_stain 33 = .ok (.getfield 25, 3) := by decide +kernel
theorem dX3_stain_36 : decode cX3_stain 36 = .ok (.iload 4, 2) := by decide +kernel
theorem dX3_stain_38 : decode cX3_stain 38 = .ok (.iaload, 1) := by decide +kernel
theorem dX3_stain_39 : decode cX3_stain 39 = .ok (.iload_n 2, 1) := by decide +kernel
theorem dX3_stain_40 : decode cX3_stain 40 = .ok (.if_icmp .ge 19, 3) := by decide +kernel
theorem dX3_stain_43 : decode cX3_stain 43 = .ok (.aload_n 0, 1) := by decide +kernel
theorem dX3_stain_44 : decode cX3_stain 44 = .ok (.getfield 25, 3) := by decide +kernel
theorem dX3_stain_47 : decode cX3_stain 47 = .ok (.iload 4, 2) := by decide +kernel
theorem dX3_stain_49 : decode cX3_stain 49 = .ok (.iload_n 2, 1) := by decide +kernel
theorem dX3_stain_50 : decode cX3_stain 50 = .ok (.iastore, 1) := by decide +kernel
theorem dX3_stain_51 : decode cX3_stain 51 = .ok (.aload_n 0, 1) := by decide +kernel
theorem dX3_stain_52 : decode cX3_stain 52 = .ok (.getfield 28, 3) := by decide +kernel
theorem dX3_stain_55 : decode cX3_stain 55 = .ok (.iload 4, 2) := by decide +kernel
theorem dX3_stain_57 : decode cX3_stain 57 = .ok (.iload_n 3, 1) := by decide +kernel
theorem dX3_stain_58 : decode cX3_stain 58 = .ok (.iastore, 1) := by decide +kernel
theorem dX3_stain_59 : decode cX3_stain 59 = .ok (.iinc 4 1, 3) := by decide +kernel
theorem dX3_stain_62 : decode cX3_stain 62 = .ok (.goto (-59), 3) := by decide +kernel
theorem dX3_stain_65 : decode cX3_stain 65 = .ok (.return_, 1) := by decide +kernel
theorem dX3_halve_0 : decode cX3_halve 0 = .ok (.aload_n 0, 1) := by decide +kernel
theorem dX3_halve_1 : decode cX3_halve 1 = .ok (.getfield 25, 3) := by decide +kernel
theorem dX3_halve_4 : decode cX3_halve 4 = .ok (.iload_n 1, 1) := by decide +kernel
theorem dX3_halve_5 : decode cX3_halve 5 = .ok (.aload_n 0, 1) := by decide +kernel
theorem dX3_halve_6 : decode cX3_halve 6 = .ok (.getfield 25, 3) := by decide +kernel
theorem dX3_halve_9 : decode cX3_halve 9 = .ok (.iload_n 1, 1) := by decide +kernel
theorem dX3_halve_10 : decode cX3_halve 10 = .ok (.iaload, 1) := by decide +kernel
theorem dX3_halve_11 : decode cX3_halve 11 = .ok (.iconst 2, 1) := by decide +kernel
theorem dX3_halve_12 : decode cX3_halve 12 = .ok (.idiv, 1) := by decide +kernel
theorem dX3_halve_13 : decode cX3_halve 13 = .ok (.iastore, 1) := by decide +kernel
theorem dX3_halve_14 : decode cX3_halve 14 = .ok (.aload_n 0, 1) := by decide +kernel
theorem dX3_halve_15 : decode cX3_halve 15 = .ok (.getfield 25, 3) := by decide +kernel
theorem dX3_halve_18 : decode cX3_halve 18 = .ok (.iload_n 1, 1) := by decide +kernel
theorem dX3_halve_19 : decode cX3_halve 19 = .ok (.iaload, 1) := by decide +kernel
theorem dX3_halve_20 : decode cX3_halve 20 = .ok (.ifCond .ne 10, 3) := by decide +kernel
theorem dX3_halve_23 : decode cX3_halve 23 = .ok (.aload_n 0, 1) := by decide +kernel
theorem dX3_halve_24 : decode cX3_halve 24 = .ok (.getfield 28, 3) := by decide +kernel
theorem dX3_halve_27 : decode cX3_halve 27 = .ok (.iload_n 1, 1) := by decide +kernel
theorem dX3_halve_28 : decode cX3_halve 28 = .ok (.iconst 0, 1) := by decide +kernel
theorem dX3_halve_29 : decode cX3_halve 29 = .ok (.iastore, 1) := by decide +kernel
theorem dX3_halve_30 : decode cX3_halve 30 = .ok (.return_, 1) := by decide +kernel
theorem dX3_stained_0 : decode cX3_stained 0 = .ok (.iconst 0, 1) := by decide +kernel
theorem dX3_stained_1 : decode cX3_stained 1 = .ok (.istore_n 1, 1) := by decide +kernel
theorem dX3_stained_2 : decode cX3_stained 2 = .ok (.iconst 0, 1) := by decide +kernel
theorem dX3_stained_3 : decode cX3_stained 3 = .ok (.istore_n 2, 1) := by decide +kernel
theorem dX3_stained_4 : decode cX3_stained 4 = .ok (.iload_n 2, 1) := by decide +kernel
theorem dX3_stained_5 : decode cX3_stained 5 = .ok (.aload_n 0, 1) := by decide +kernel
theorem dX3_stained_6 : decode cX3_stained 6 = .ok (.getfield 9, 3) := by decide +kernel
theorem dX3_stained_9 : decode cX3_stained 9 = .ok (.if_icmp .ge 26, 3) := by decide +kernel
theorem dX3_stained_12 : decode cX3_stained 12 = .ok (.iload_n 1, 1) := by decide +kernel
theorem dX3_stained_13 : decode cX3_stained 13 = .ok (.aload_n 0, 1) := by decide +kernel
theorem dX3_stained_14 : decode cX3_stained 14 = .ok (.getfield 25, 3) := by decide +kernel
theorem dX3_stained_17 : decode cX3_stained 17 = .ok (.iload_n 2, 1) := by decide +kernel
theorem dX3_stained_18 : decode cX3_stained 18 = .ok (.iaload, 1) := by decide +kernel
theorem dX3_stained_19 : decode cX3_stained 19 = .ok (.ifCond .le 7, 3) := by decide +kernel
theorem dX3_stained_22 : decode cX3_stained 22 = .ok (.iconst 1, 1) := by decide +kernel
theorem dX3_stained_23 : decode cX3_stained 23 = .ok (.goto 4, 3) := by decide +kernel
theorem dX3_stained_26 : decode cX3_stained 26 = .ok (.iconst 0, 1) := by decide +kernel
theorem dX3_stained_27 : decode cX3_stained 27 = .ok (.iadd, 1) := by decide +kernel
theorem dX3_stained_28 : decode cX3_stained 28 = .ok (.istore_n 1, 1) := by decide +kernel
theorem dX3_stained_29 : decode cX3_stained 29 = .ok (.iinc 2 1, 3) := by decide +kernel
theorem dX3_stained_32 : decode cX3_stained 32 = .ok (.goto (-28), 3) := by decide +kernel
theorem dX3_stained_35 : decode cX3_stained 35 = .ok (.iload_n 1, 1) := by decide +kernel
theorem dX3_stained_36 : decode cX3_stained 36 = .ok (.ireturn, 1) := by decide +kernel
theorem dX3_showing_0 : decode cX3_showing 0 = .ok (.iconst 0, 1) := by decide +kernel
theorem dX3_showing_1 : decode cX3_showing 1 = .ok (.istore_n 2, 1) := by decide +kernel
theorem dX3_showing_2 : decode cX3_showing 2 = .ok (.iconst 0, 1) := by decide +kernel
theorem dX3_showing_3 : decode cX3_showing 3 = .ok (.istore_n 3, 1) := by decide +kernel
theorem dX3_showing_4 : decode cX3_showing 4 = .ok (.iload_n 3, 1) := by decide +kernel
theorem dX3_showing_5 : decode cX3_showing 5 = .ok (.aload_n 0, 1) := by decide +kernel
theorem dX3_showing_6 : decode cX3_showing 6 = .ok (.getfield 9, 3) := by decide +kernel
theorem dX3_showing_9 : decode cX3_showing 9 = .ok (.if_icmp .ge 26, 3) := by decide +kernel
theorem dX3_showing_12 : decode cX3_showing 12 = .ok (.iload_n 2, 1) := by decide +kernel
theorem dX3_showing_13 : decode cX3_showing 13 = .ok (.aload_n 0, 1) := by decide +kernel
theorem dX3_showing_14 : decode cX3_showing 14 = .ok (.iload_n 3, 1) := by decide +kernel
theorem dX3_showing_15 : decode cX3_showing 15 = .ok (.iload_n 1, 1) := by decide +kernel
theorem dX3_showing_16 : decode cX3_showing 16 = .ok (.invokevirtual 37, 3) := by decide +kernel
theorem dX3_showing_19 : decode cX3_showing 19 = .ok (.ifCond .le 7, 3) := by decide +kernel
theorem dX3_showing_22 : decode cX3_showing 22 = .ok (.iconst 1, 1) := by decide +kernel
theorem dX3_showing_23 : decode cX3_showing 23 = .ok (.goto 4, 3) := by decide +kernel
theorem dX3_showing_26 : decode cX3_showing 26 = .ok (.iconst 0, 1) := by decide +kernel
theorem dX3_showing_27 : decode cX3_showing 27 = .ok (.iadd, 1) := by decide +kernel
theorem dX3_showing_28 : decode cX3_showing 28 = .ok (.istore_n 2, 1) := by decide +kernel
theorem dX3_showing_29 : decode cX3_showing 29 = .ok (.iinc 3 1, 3) := by decide +kernel
theorem dX3_showing_32 : decode cX3_showing 32 = .ok (.goto (-28), 3) := by decide +kernel
theorem dX3_showing_35 : decode cX3_showing 35 = .ok (.iload_n 2, 1) := by decide +kernel
theorem dX3_showing_36 : decode cX3_showing 36 = .ok (.ireturn, 1) := by decide +kernel
theorem dX3_showsOn_0 : decode cX3_showsOn 0 = .ok (.aload_n 0, 1) := by decide +kernel
theorem dX3_showsOn_1 : decode cX3_showsOn 1 = .ok (.getfield 15, 3) := by decide +kernel
theorem dX3_showsOn_4 : decode cX3_showsOn 4 = .ok (.iload_n 1, 1) := by decide +kernel
theorem dX3_showsOn_5 : decode cX3_showsOn 5 = .ok (.iaload, 1) := by decide +kernel
theorem dX3_showsOn_6 : decode cX3_showsOn 6 = .ok (.aload_n 0, 1) := by decide +kernel
theorem dX3_showsOn_7 : decode cX3_showsOn 7 = .ok (.getfield 25, 3) := by decide +kernel
theorem dX3_showsOn_10 : decode cX3_showsOn 10 = .ok (.iload_n 1, 1) := by decide +kernel
theorem dX3_showsOn_11 : decode cX3_showsOn 11 = .ok (.iaload, 1) := by decide +kernel
theorem dX3_showsOn_12 : decode cX3_showsOn 12 = .ok (.iload_n 2, 1) := by decide +kernel
theorem dX3_showsOn_13 : decode cX3_showsOn 13 = .ok (.aload_n 0, 1) := by decide +kernel
theorem dX3_showsOn_14 : decode cX3_showsOn 14 = .ok (.getfield 28, 3) := by decide +kernel
theorem dX3_showsOn_17 : decode cX3_showsOn 17 = .ok (.iload_n 1, 1) := by decide +kernel
theorem dX3_showsOn_18 : decode cX3_showsOn 18 = .ok (.iaload, 1) := by decide +kernel
theorem dX3_showsOn_19 : decode cX3_showsOn 19 = .ok (.isub, 1) := by decide +kernel
theorem dX3_showsOn_20 : decode cX3_showsOn 20 = .ok (.invokestatic 41, 3) := by decide +kernel
theorem dX3_showsOn_23 : decode cX3_showsOn 23 = .ok (.ireturn, 1) := by decide +kernel
theorem dX3_shows_0 : decode cX3_shows 0 = .ok (.iload_n 2, 1) := by decide +kernel
theorem dX3_shows_1 : decode cX3_shows 1 = .ok (.istore_n 3, 1) := by decide +kernel
theorem dX3_shows_2 : decode cX3_shows 2 = .ok (.iload_n 0, 1) := by decide +kernel
theorem dX3_shows_3 : decode cX3_shows 3 = .ok (.iconst 1, 1) := by decide +kernel
theorem dX3_shows_4 : decode cX3_shows 4 = .ok (.if_icmp .eq 8, 3) := by decide +kernel
theorem dX3_shows_7 : decode cX3_shows 7 = .ok (.iload_n 0, 1) := by decide +kernel
theorem dX3_shows_8 : decode cX3_shows 8 = .ok (.iconst 3, 1) := by decide +kernel
theorem dX3_shows_9 : decode cX3_shows 9 = .ok (.if_icmp .ne 14, 3) := by decide +kernel
theorem dX3_shows_12 : decode cX3_shows 12 = .ok (.iconst 0, 1) := by decide +kernel
theorem dX3_shows_13 : decode cX3_shows 13 = .ok (.iload_n 2, 1) := by decide +kernel
theorem dX3_shows_14 : decode cX3_shows 14 = .ok (.iconst 2, 1) := by decide +kernel
theorem dX3_shows_15 : decode cX3_shows 15 = .ok (.isub, 1) := by decide +kernel
theorem dX3_shows_16 : decode cX3_shows 16 = .ok (.invokestatic 45, 3) := by decide +kernel
theorem dX3_shows_19 : decode cX3_shows 19 = .ok (.istore_n 3, 1) := by decide +kernel
theorem dX3_shows_20 : decode cX3_shows 20 = .ok (.goto 12, 3) := by decide +kernel
theorem dX3_shows_23 : decode cX3_shows 23 = .ok (.iload_n 0, 1) := by decide +kernel
theorem dX3_shows_24 : decode cX3_shows 24 = .ok (.iconst 2, 1) := by decide +kernel
theorem dX3_shows_25 : decode cX3_shows 25 = .ok (.if_icmp .ne 7, 3) := by decide +kernel
theorem dX3_shows_28 : decode cX3_shows 28 = .ok (.iconst 2, 1) := by decide +kernel
theorem dX3_shows_29 : decode cX3_shows 29 = .ok (.iload_n 2, 1) := by decide +kernel
theorem dX3_shows_30 : decode cX3_shows 30 = .ok (.imul, 1) := by decide +kernel
theorem dX3_shows_31 : decode cX3_shows 31 = .ok (.istore_n 3, 1) := by decide +kernel
theorem dX3_shows_32 : decode cX3_shows 32 = .ok (.iload_n 1, 1) := by decide +kernel
theorem dX3_shows_33 : decode cX3_shows 33 = .ok (.iload_n 3, 1) := by decide +kernel
theorem dX3_shows_34 : decode cX3_shows 34 = .ok (.invokestatic 50, 3) := by decide +kernel
theorem dX3_shows_37 : decode cX3_shows 37 = .ok (.ireturn, 1) := by decide +kernel
theorem dX4_init_0 : decode cX4_init 0 = .ok (.aload_n 0, 1) := by decide +kernel
theorem dX4_init_1 : decode cX4_init 1 = .ok (.invokespecial 3, 3) := by decide +kernel
theorem dX4_init_4 : decode cX4_init 4 = .ok (.aload_n 0, 1) := by decide +kernel
theorem dX4_init_5 : decode cX4_init 5 = .ok (.iconst 0, 1) := by decide +kernel
theorem dX4_init_6 : decode cX4_init 6 = .ok (.putfield 9, 3) := by decide +kernel
theorem dX4_init_9 : decode cX4_init 9 = .ok (.aload_n 0, 1) := by decide +kernel
theorem dX4_init_10 : decode cX4_init 10 = .ok (.iconst (-1), 1) := by decide +kernel
theorem dX4_init_11 : decode cX4_init 11 = .ok (.putfield 15, 3) := by decide +kernel
theorem dX4_init_14 : decode cX4_init 14 = .ok (.aload_n 0, 1) := by decide +kernel
theorem dX4_init_15 : decode cX4_init 15 = .ok (.bipush 24, 2) := by decide +kernel
theorem dX4_init_17 : decode cX4_init 17 = .ok (.newarray .int, 2) := by decide +kernel
theorem dX4_init_19 : decode cX4_init 19 = .ok (.putfield 18, 3) := by decide +kernel
theorem dX4_init_22 : decode cX4_init 22 = .ok (.return_, 1) := by decide +kernel
theorem dX4_renew_0 : decode cX4_renew 0 = .ok (.aload_n 0, 1) := by decide +kernel
theorem dX4_renew_1 : decode cX4_renew 1 = .ok (.iload_n 1, 1) := by decide +kernel
theorem dX4_renew_2 : decode cX4_renew 2 = .ok (.putfield 9, 3) := by decide +kernel
theorem dX4_renew_5 : decode cX4_renew 5 = .ok (.aload_n 0, 1) := by decide +kernel
theorem dX4_renew_6 : decode cX4_renew 6 = .ok (.iload_n 2, 1) := by decide +kernel
theorem dX4_renew_7 : decode cX4_renew 7 = .ok (.putfield 15, 3) := by decide +kernel
theorem dX4_renew_10 : decode cX4_renew 10 = .ok (.iconst 0, 1) := by decide +kernel
theorem dX4_renew_11 : decode cX4_renew 11 = .ok (.istore_n 3, 1) := by decide +kernel
theorem dX4_renew_12 : decode cX4_renew 12 = .ok (.iload_n 3, 1) := by decide +kernel
theorem dX4_renew_13 : decode cX4_renew 13 = .ok (.bipush 24, 2) := by decide +kernel
theorem dX4_renew_15 : decode cX4_renew 15 = .ok (.if_icmp .ge 16, 3) := by decide +kernel
theorem dX4_renew_18 : decode cX4_renew 18 = .ok (.aload_n 0, 1) := by decide +kernel
theorem dX4_renew_19 : decode cX4_renew 19 = .ok (.getfield 18, 3) := by decide +kernel
theorem dX4_renew_22 : decode cX4_renew 22 = .ok (.iload_n 3, 1) := by decide +kernel
theorem dX4_renew_23 : decode cX4_renew 23 = .ok (.iconst 0, 1) := by decide +kernel
theorem dX4_renew_24 : decode cX4_renew 24 = .ok (.iastore, 1) := by decide +kernel
theorem dX4_renew_25 : decode cX4_renew 25 = .ok (.iinc 3 1, 3) := by decide +kernel
theorem dX4_renew_28 : decode cX4_renew 28 = .ok (.goto (-16), 3) := by decide +kernel
theorem dX4_renew_31 : decode cX4_renew 31 = .ok (.return_, 1) := by decide +kernel
theorem dX4_holds_0 : decode cX4_holds 0 = .ok (.iload_n 1, 1) := by decide +kernel
theorem dX4_holds_1 : decode cX4_holds 1 = .ok (.ifCond .lt 29, 3) := by decide +kernel
theorem dX4_holds_4 : decode cX4_holds 4 = .ok (.iload_n 2, 1) := by decide +kernel
theorem dX4_holds_5 : decode cX4_holds 5 = .ok (.ifCond .lt 25, 3) := by decide +kernel
theorem dX4_holds_8 : decode cX4_holds 8 = .ok (.iload_n 1, 1) := by decide +kernel
theorem dX4_holds_9 : decode cX4_holds 9 = .ok (.aload_n 0, 1) := by decide +kernel
theorem dX4_holds_10 : decode cX4_holds 10 = .ok (.getfield 15, 3) := by decide +kernel
theorem dX4_holds_13 : decode cX4_holds 13 = .ok (.if_icmp .gt 17, 3) := by decide +kernel
theorem dX4_holds_16 : decode cX4_holds 16 = .ok (.iload_n 2, 1) := by decide +kernel
theorem dX4_holds_17 : decode cX4_holds 17 = .ok (.aload_n 0, 1) := by decide +kernel
theorem dX4_holds_18 : decode cX4_holds 18 = .ok (.getfield 15, 3) := by decide +kernel
theorem dX4_holds_21 : decode cX4_holds 21 = .ok (.iload_n 1, 1) := by decide +kernel
theorem dX4_holds_22 : decode cX4_holds 22 = .ok (.isub, 1) := by decide +kernel
theorem dX4_holds_23 : decode cX4_holds 23 = .ok (.if_icmp .gt 7, 3) := by decide +kernel
theorem dX4_holds_26 : decode cX4_holds 26 = .ok (.iconst 1, 1) := by decide +kernel
theorem dX4_holds_27 : decode cX4_holds 27 = .ok (.goto 4, 3) := by decide +kernel
theorem dX4_holds_30 : decode cX4_holds 30 = .ok (.iconst 0, 1) := by decide +kernel
theorem dX4_holds_31 : decode cX4_holds 31 = .ok (.ireturn, 1) := by decide +kernel
theorem dX4_put_0 : decode cX4_put 0 = .ok (.aload_n 0, 1) := by decide +kernel
theorem dX4_put_1 : decode cX4_put 1 = .ok (.getfield 9, 3) := by decide +kernel
theorem dX4_put_4 : decode cX4_put 4 = .ok (.ifCond .ne 14, 3) := by decide +kernel
theorem dX4_put_7 : decode cX4_put 7 = .ok (.aload_n 0, 1) := by decide +kernel
theorem dX4_put_8 : decode cX4_put 8 = .ok (.getfield 18, 3) := by decide +kernel
theorem dX4_put_11 : decode cX4_put 11 = .ok (.iload_n 1, 1) := by decide +kernel
theorem dX4_put_12 : decode cX4_put 12 = .ok (.iload_n 2, 1) := by decide +kernel
theorem dX4_put_13 : decode cX4_put 13 = .ok (.i2b, 1) := by decide +kernel
theorem dX4_put_14 : decode cX4_put 14 = .ok (.iastore, 1) := by decide +kernel
theorem dX4_put_15 : decode cX4_put 15 = .ok (.goto 23, 3) := by decide +kernel
theorem dX4_put_18 : decode cX4_put 18 = .ok (.aload_n 0, 1) := by decide +kernel
theorem dX4_put_19 : decode cX4_put 19 = .ok (.getfield 18, 3) := by decide +kernel
theorem dX4_put_22 : decode cX4_put 22 = .ok (.iload_n 1, 1) := by decide +kernel
theorem dX4_put_23 : decode cX4_put 23 = .ok (.aload_n 0, 1) := by decide +kernel
theorem dX4_put_24 : decode cX4_put 24 = .ok (.getfield 9, 3) := by decide +kernel
theorem dX4_put_27 : decode cX4_put 27 = .ok (.iconst 1, 1) := by decide +kernel
theorem dX4_put_28 : decode cX4_put 28 = .ok (.if_icmp .ne 8, 3) := by decide +kernel
theorem dX4_put_31 : decode cX4_put 31 = .ok (.iload_n 2, 1) := by decide +kernel
theorem dX4_put_32 : decode cX4_put 32 = .ok (.i2s, 1) := by decide +kernel
theorem dX4_put_33 : decode cX4_put 33 = .ok (.goto 4, 3) := by decide +kernel
theorem dX4_put_36 : decode cX4_put 36 = .ok (.iload_n 2, 1) := by decide +kernel
theorem dX4_put_37 : decode cX4_put 37 = .ok (.iastore, 1) := by decide +kernel
theorem dX4_put_38 : decode cX4_put 38 = .ok (.return_, 1) := by decide +kernel
theorem dX5_init_0 : decode cX5_init 0 = .ok (.aload_n 0, 1) := by decide +kernel
theorem dX5_init_1 : decode cX5_init 1 = .ok (.invokespecial 3, 3) := by decide +kernel
theorem dX5_init_4 : decode cX5_init 4 = .ok (.aload_n 0, 1) := by decide +kernel
theorem dX5_init_5 : decode cX5_init 5 = .ok (.iconst 0, 1) := by decide +kernel
theorem dX5_init_6 : decode cX5_init 6 = .ok (.putfield 9, 3) := by decide +kernel
theorem dX5_init_9 : decode cX5_init 9 = .ok (.aload_n 0, 1) := by decide +kernel
theorem dX5_init_10 : decode cX5_init 10 = .ok (.iconst 0, 1) := by decide +kernel
theorem dX5_init_11 : decode cX5_init 11 = .ok (.putfield 15, 3) := by decide +kernel
theorem dX5_init_14 : decode cX5_init 14 = .ok (.aload_n 0, 1) := by decide +kernel
theorem dX5_init_15 : decode cX5_init 15 = .ok (.sipush 160, 3) := by decide +kernel
theorem dX5_init_18 : decode cX5_init 18 = .ok (.newarray .byte, 2) := by decide +kernel
theorem dX5_init_20 : decode cX5_init 20 = .ok (.putfield 18, 3) := by decide +kernel
theorem dX5_init_23 : decode cX5_init 23 = .ok (.return_, 1) := by decide +kernel
theorem dX5_add_0 : decode cX5_add 0 = .ok (.aload_n 0, 1) := by decide +kernel
theorem dX5_add_1 : decode cX5_add 1 = .ok (.getfield 9, 3) := by decide +kernel
theorem dX5_add_4 : decode cX5_add 4 = .ok (.sipush 160, 3) := by decide +kernel
theorem dX5_add_7 : decode cX5_add 7 = .ok (.if_icmp .ge 24, 3) := by decide +kernel
theorem dX5_add_10 : decode cX5_add 10 = .ok (.aload_n 0, 1) := by decide +kernel
theorem dX5_add_11 : decode cX5_add 11 = .ok (.getfield 18, 3) := by decide +kernel
theorem dX5_add_14 : decode cX5_add 14 = .ok (.aload_n 0, 1) := by decide +kernel
theorem dX5_add_15 : decode cX5_add 15 = .ok (.getfield 9, 3) := by decide +kernel
theorem dX5_add_18 : decode cX5_add 18 = .ok (.iload_n 1, 1) := by decide +kernel
theorem dX5_add_19 : decode cX5_add 19 = .ok (.i2b, 1) := by decide +kernel
theorem dX5_add_20 : decode cX5_add 20 = .ok (.bastore, 1) := by decide +kernel
theorem dX5_add_21 : decode cX5_add 21 = .ok (.aload_n 0, 1) := by decide +kernel
theorem dX5_add_22 : decode cX5_add 22 = .ok (.dup, 1) := by decide +kernel
theorem dX5_add_23 : decode cX5_add 23 = .ok (.getfield 9, 3) := by decide +kernel
theorem dX5_add_26 : decode cX5_add 26 = .ok (.iconst 1, 1) := by decide +kernel
theorem dX5_add_27 : decode cX5_add 27 = .ok (.iadd, 1) := by decide +kernel
theorem dX5_add_28 : decode cX5_add 28 = .ok (.putfield 9, 3) := by decide +kernel
theorem dX5_add_31 : decode cX5_add 31 = .ok (.return_, 1) := by decide +kernel
theorem dX5_empty_0 : decode cX5_empty 0 = .ok (.aload_n 0, 1) := by decide +kernel
theorem dX5_empty_1 : decode cX5_empty 1 = .ok (.iconst 0, 1) := by decide +kernel
theorem dX5_empty_2 : decode cX5_empty 2 = .ok (.putfield 9, 3) := by decide +kernel
theorem dX5_empty_5 : decode cX5_empty 5 = .ok (.return_, 1) := by decide +kernel
theorem dX5_ahead_0 : decode cX5_ahead 0 = .ok (.aload_n 0, 1) := by decide +kernel
theorem dX5_ahead_1 : decode cX5_ahead 1 = .ok (.getfield 15, 3) := by decide +kernel
theorem dX5_ahead_4 : decode cX5_ahead 4 = .ok (.aload_n 0, 1) := by decide +kernel
theorem dX5_ahead_5 : decode cX5_ahead 5 = .ok (.getfield 9, 3) := by decide +kernel
theorem dX5_ahead_8 : decode cX5_ahead 8 = .ok (.if_icmp .ge 30, 3) := by decide +kernel
theorem dX5_ahead_11 : decode cX5_ahead 11 = .ok (.aload_n 0, 1) := by decide +kernel
theorem dX5_ahead_12 : decode cX5_ahead 12 = .ok (.getfield 18, 3) := by decide +kernel
theorem dX5_ahead_15 : decode cX5_ahead 15 = .ok (.aload_n 0, 1) := by decide +kernel
theorem dX5_ahead_16 : decode cX5_ahead 16 = .ok (.getfield 15, 3) := by decide +kernel
theorem dX5_ahead_19 : decode cX5_ahead 19 = .ok (.baload, 1) := by decide +kernel
theorem dX5_ahead_20 : decode cX5_ahead 20 = .ok (.bipush 32, 2) := by decide +kernel
theorem dX5_ahead_22 : decode cX5_ahead 22 = .ok (.if_icmp .ne 16, 3) := by decide +kernel
theorem dX5_ahead_25 : decode cX5_ahead 25 = .ok (.aload_n 0, 1) := by decide +kernel
theorem dX5_ahead_26 : decode cX5_ahead 26 = .ok (.dup, 1) := by decide +kernel
theorem dX5_ahead_27 : decode cX5_ahead 27 = .ok (.getfield 15, 3) := by decide +kernel
theorem dX5_ahead_30 : decode cX5_ahead 30 = .ok (.iconst 1, 1) := by decide +kernel
theorem dX5_ahead_31 : decode cX5_ahead 31 = .ok (.iadd, 1) := by decide +kernel
theorem dX5_ahead_32 : decode cX5_ahead 32 = .ok (.putfield 15, 3) := by decide +kernel
theorem dX5_ahead_35 : decode cX5_ahead 35 = .ok (.goto (-35), 3) := by decide +kernel
theorem dX5_ahead_38 : decode cX5_ahead 38 = .ok (.aload_n 0, 1) := by decide +kernel
theorem dX5_ahead_39 : decode cX5_ahead 39 = .ok (.getfield 15, 3) := by decide +kernel
theorem dX5_ahead_42 : decode cX5_ahead 42 = .ok (.aload_n 0, 1) := by decide +kernel
theorem dX5_ahead_43 : decode cX5_ahead 43 = .ok (.getfield 9, 3) := by decide +kernel
theorem dX5_ahead_46 : decode cX5_ahead 46 = .ok (.if_icmp .ge 15, 3) := by decide +kernel
theorem dX5_ahead_49 : decode cX5_ahead 49 = .ok (.aload_n 0, 1) := by decide +kernel
theorem dX5_ahead_50 : decode cX5_ahead 50 = .ok (.getfield 18, 3) := by decide +kernel
theorem dX5_ahead_53 : decode cX5_ahead 53 = .ok (.aload_n 0, 1) := by decide +kernel
theorem dX5_ahead_54 : decode cX5_ahead 54 = .ok (.getfield 15, 3) := by decide +kernel
theorem dX5_ahead_57 : decode cX5_ahead 57 = .ok (.baload, 1) := by decide +kernel
theorem dX5_ahead_58 : decode cX5_ahead 58 = .ok (.goto 4, 3) := by decide +kernel
theorem dX5_ahead_61 : decode cX5_ahead 61 = .ok (.iconst (-1), 1) := by decide +kernel
theorem dX5_ahead_62 : decode cX5_ahead 62 = .ok (.ireturn, 1) := by decide +kernel
theorem dX5_fault_0 : decode cX5_fault 0 = .ok (.aload_n 0, 1) := by decide +kernel
theorem dX5_fault_1 : decode cX5_fault 1 = .ok (.invokevirtual 22, 3) := by decide +kernel
theorem dX5_fault_4 : decode cX5_fault 4 = .ok (.pop, 1) := by decide +kernel
theorem dX5_fault_5 : decode cX5_fault 5 = .ok (.bipush (-20), 2) := by decide +kernel
theorem dX5_fault_7 : decode cX5_fault 7 = .ok (.aload_n 0, 1) := by decide +kernel
theorem dX5_fault_8 : decode cX5_fault 8 = .ok (.getfield 15, 3) := by decide +kernel
theorem dX5_fault_11 : decode cX5_fault 11 = .ok (.isub, 1) := by decide +kernel
theorem dX5_fault_12 : decode cX5_fault 12 = .ok (.ireturn, 1) := by decide +kernel
theorem dX5_take_0 : decode cX5_take 0 = .ok (.aload_n 0, 1) := by decide +kernel
theorem dX5_take_1 : decode cX5_take 1 = .ok (.invokevirtual 22, 3) := by decide +kernel
theorem dX5_take_4 : decode cX5_take 4 = .ok (.iload_n 1, 1) := by decide +kernel
theorem dX5_take_5 : decode cX5_take 5 = .ok (.if_icmp .eq 5, 3) := by decide +kernel
theorem dX5_take_8 : decode cX5_take 8 = .ok (.iconst 0, 1) := by decide +kernel
theorem dX5_take_9 : decode cX5_take 9 = .ok (.ireturn, 1) := by decide +kernel
theorem dX5_take_10 : decode cX5_take 10 = .ok (.aload_n 0, 1) := by decide +kernel
theorem dX5_take_11 : decode cX5_take 11 = .ok (.dup, 1) := by decide +kernel
theorem dX5_take_12 : decode cX5_take 12 = .ok (.getfield 15, 3) := by decide +kernel
theorem dX5_take_15 : decode cX5_take 15 = .ok (.iconst 1, 1) := by decide +kernel
theorem dX5_take_16 : decode cX5_take 16 = .ok (.iadd, 1) := by decide +kernel
theorem dX5_take_17 : decode cX5_take 17 = .ok (.putfield 15, 3) := by decide +kernel
theorem dX5_take_20 : decode cX5_take 20 = .ok (.iconst 1, 1) := by decide +kernel
theorem dX5_take_21 : decode cX5_take 21 = .ok (.ireturn, 1) := by decide +kernel
theorem dX5_placeAhead_0 : decode cX5_placeAhead 0 = .ok (.aload_n 0, 1) := by decide +kernel
theorem dX5_placeAhead_1 : decode cX5_placeAhead 1 = .ok (.invokevirtual 22, 3) := by decide +kernel
theorem dX5_placeAhead_4 : decode cX5_placeAhead 4 = .ok (.istore_n 1, 1) := by decide +kernel
theorem dX5_placeAhead_5 : decode cX5_placeAhead 5 = .ok (.iload_n 1, 1) := by decide +kernel
theorem dX5_placeAhead_6 : decode cX5_placeAhead 6 = .ok (.bipush 103, 2) := by decide +kernel
theorem dX5_placeAhead_8 : decode cX5_placeAhead 8 = .ok (.if_icmp .ne 6, 3) := by decide +kernel
theorem dX5_placeAhead_11 : decode cX5_placeAhead 11 = .ok (.bipush 10, 2) := by decide +kernel
theorem dX5_placeAhead_13 : decode cX5_placeAhead 13 = .ok (.ireturn, 1) := by decide +kernel
theorem dX5_placeAhead_14 : decode cX5_placeAhead 14 = .ok (.iload_n 1, 1) := by decide +kernel
theorem dX5_placeAhead_15 : decode cX5_placeAhead 15 = .ok (.invokestatic 26, 3) := by decide +kernel
theorem dX5_placeAhead_18 : decode cX5_placeAhead 18 = .ok (.ifCond .eq 10, 3) := by decide +kernel
theorem dX5_placeAhead_21 : decode cX5_placeAhead 21 = .ok (.iload_n 1, 1) := by decide +kernel
theorem dX5_placeAhead_22 : decode cX5_placeAhead 22 = .ok (.bipush 48, 2) := by decide +kernel
theorem dX5_placeAhead_24 : decode cX5_placeAhead 24 = .ok (.isub, 1) := by decide +kernel
theorem dX5_placeAhead_25 : decode cX5_placeAhead 25 = .ok (.goto 4, 3) := by decide +kernel
theorem dX5_placeAhead_28 : decode cX5_placeAhead 28 = .ok (.iconst (-1), 1) := by decide +kernel
theorem dX5_placeAhead_29 : decode cX5_placeAhead 29 = .ok (.ireturn, 1) := by decide +kernel
theorem dX5_digit_0 : decode cX5_digit 0 = .ok (.aload_n 0, 1) := by decide +kernel
theorem dX5_digit_1 : decode cX5_digit 1 = .ok (.invokevirtual 22, 3) := by decide +kernel
theorem dX5_digit_4 : decode cX5_digit 4 = .ok (.istore_n 2, 1) := by decide +kernel
theorem dX5_digit_5 : decode cX5_digit 5 = .ok (.iload_n 2, 1) := by decide +kernel
theorem dX5_digit_6 : decode cX5_digit 6 = .ok (.invokestatic 26, 3) := by decide +kernel
theorem dX5_digit_9 : decode cX5_digit 9 = .ok (.ifCond .eq 11, 3) := by decide +kernel
theorem dX5_digit_12 : decode cX5_digit 12 = .ok (.iload_n 2, 1) := by decide +kernel
theorem dX5_digit_13 : decode cX5_digit 13 = .ok (.bipush 48, 2) := by decide +kernel
theorem dX5_digit_15 : decode cX5_digit 15 = .ok (.isub, 1) := by decide +kernel
theorem dX5_digit_16 : decode cX5_digit 16 = .ok (.iload_n 1, 1) := by decide +kernel
theorem dX5_digit_17 : decode cX5_digit 17 = .ok (.if_icmp .lt 5, 3) := by decide +kernel
theorem dX5_digit_20 : decode cX5_digit 20 = .ok (.iconst (-1), 1) := by decide +kernel
theorem dX5_digit_21 : decode cX5_digit 21 = .ok (.ireturn, 1) := by decide +kernel
theorem dX5_digit_22 : decode cX5_digit 22 = .ok (.aload_n 0, 1) := by decide +kernel
theorem dX5_digit_23 : decode cX5_digit 23 = .ok (.dup, 1) := by decide +kernel
theorem dX5_digit_24 : decode cX5_digit 24 = .ok (.getfield 15, 3) := by decide +kernel
theorem dX5_digit_27 : decode cX5_digit 27 = .ok (.iconst 1, 1) := by decide +kernel
theorem dX5_digit_28 : decode cX5_digit 28 = .ok (.iadd, 1) := by decide +kernel
theorem dX5_digit_29 : decode cX5_digit 29 = .ok (.putfield 15, 3) := by decide +kernel
theorem dX5_digit_32 : decode cX5_digit 32 = .ok (.iload_n 2, 1) := by decide +kernel
theorem dX5_digit_33 : decode cX5_digit 33 = .ok (.bipush 48, 2) := by decide +kernel
theorem dX5_digit_35 : decode cX5_digit 35 = .ok (.isub, 1) := by decide +kernel
theorem dX5_digit_36 : decode cX5_digit 36 = .ok (.ireturn, 1) := by decide +kernel
theorem dX5_numberUpTo_0 : decode cX5_numberUpTo 0 = .ok (.aload_n 0, 1) := by decide +kernel
theorem dX5_numberUpTo_1 : decode cX5_numberUpTo 1 = .ok (.invokevirtual 22, 3) := by decide +kernel
theorem dX5_numberUpTo_4 : decode cX5_numberUpTo 4 = .ok (.invokestatic 26, 3) := by decide +kernel
theorem dX5_numberUpTo_7 : decode cX5_numberUpTo 7 = .ok (.ifCond .ne 5, 3) := by decide +kernel
theorem dX5_numberUpTo_10 : decode cX5_numberUpTo 10 = .ok (.iconst (-1), 1) := by decide +kernel
theorem dX5_numberUpTo_11 : decode cX5_numberUpTo 11 = .ok (.ireturn, 1) := by decide +kernel
theorem dX5_numberUpTo_12 : decode cX5_numberUpTo 12 = .ok (.aload_n 0, 1) := by decide +kernel
theorem dX5_numberUpTo_13 : decode cX5_numberUpTo 13 = .ok (.getfield 15, 3) := by decide +kernel
theorem dX5_numberUpTo_16 : decode cX5_numberUpTo 16 = .ok (.istore_n 2, 1) := by decide +kernel
theorem dX5_numberUpTo_17 : decode cX5_numberUpTo 17 = .ok (.iconst 0, 1) := by decide +kernel
theorem dX5_numberUpTo_18 : decode cX5_numberUpTo 18 = .ok (.istore_n 3, 1) := by decide +kernel
theorem dX5_numberUpTo_19 : decode cX5_numberUpTo 19 = .ok (.aload_n 0, 1) := by decide +kernel
theorem dX5_numberUpTo_20 : decode cX5_numberUpTo 20 = .ok (.getfield 15, 3) := by decide +kernel
theorem dX5_numberUpTo_23 : decode cX5_numberUpTo 23 = .ok (.aload_n 0, 1) := by decide +kernel
theorem dX5_numberUpTo_24 : decode cX5_numberUpTo 24 = .ok (.getfield 9, 3) := by decide +kernel
theorem dX5_numberUpTo_27 : decode cX5_numberUpTo 27 = .ok (.if_icmp .ge 55, 3) := by decide +kernel
theorem dX5_numberUpTo_30 : decode cX5_numberUpTo 30 = .ok (.aload_n 0, 1) := by decide +kernel
theorem dX5_numberUpTo_31 : decode cX5_numberUpTo 31 = .ok (.getfield 18, 3) := by decide +kernel
theorem dX5_numberUpTo_34 : decode cX5_numberUpTo 34 = .ok (.aload_n 0, 1) := by decide +kernel
theorem dX5_numberUpTo_35 : decode cX5_numberUpTo 35 = .ok (.getfield 15, 3) := by decide +kernel
theorem dX5_numberUpTo_38 : decode cX5_numberUpTo 38 = .ok (.baload, 1) := by decide +kernel
theorem dX5_numberUpTo_39 : decode cX5_numberUpTo 39 = .ok (.invokestatic 26, 3) := by decide +kernel
theorem dX5_numberUpTo_42 : decode cX5_numberUpTo 42 = .ok (.ifCond .eq 40, 3) := by decide +kernel
theorem dX5_numberUpTo_45 : decode cX5_numberUpTo 45 = .ok (.bipush 10, 2) := by decide +kernel
theorem dX5_numberUpTo_47 : decode cX5_numberUpTo 47 = .ok (.iload_n 3, 1) := by decide +kernel
theorem dX5_numberUpTo_48 : decode cX5_numberUpTo 48 = .ok (.imul, 1) := by decide +kernel
theorem dX5_numberUpTo_49 : decode cX5_numberUpTo 49 = .ok (.aload_n 0, 1) := by decide +kernel
theorem dX5_numberUpTo_50 : decode cX5_numberUpTo 50 = .ok (.getfield 18, 3) := by decide +kernel
theorem dX5_numberUpTo_53 : decode cX5_numberUpTo 53 = .ok (.aload_n 0, 1) := by decide +kernel
theorem dX5_numberUpTo_54 : decode cX5_numberUpTo 54 = .ok (.getfield 15, 3) := by decide +kernel
theorem dX5_numberUpTo_57 : decode cX5_numberUpTo 57 = .ok (.baload, 1) := by decide +kernel
theorem dX5_numberUpTo_58 : decode cX5_numberUpTo 58 = .ok (.iadd, 1) := by decide +kernel
theorem dX5_numberUpTo_59 : decode cX5_numberUpTo 59 = .ok (.bipush 48, 2) := by decide +kernel
theorem dX5_numberUpTo_61 : decode cX5_numberUpTo 61 = .ok (.isub, 1) := by decide +kernel
theorem dX5_numberUpTo_62 : decode cX5_numberUpTo 62 = .ok (.iload_n 1, 1) := by decide +kernel
theorem dX5_numberUpTo_63 : decode cX5_numberUpTo 63 = .ok (.iconst 1, 1) := by decide +kernel
theorem dX5_numberUpTo_64 : decode cX5_numberUpTo 64 = .ok (.iadd, 1) := by decide +kernel
theorem dX5_numberUpTo_65 : decode cX5_numberUpTo 65 = .ok (.invokestatic 30, 3) := by decide +kernel
theorem dX5_numberUpTo_68 : decode cX5_numberUpTo 68 = .ok (.istore_n 3, 1) := by decide +kernel
theorem dX5_numberUpTo_69 : decode cX5_numberUpTo 69 = .ok (.aload_n 0, 1) := by decide +kernel
theorem dX5_numberUpTo_70 : decode cX5_numberUpTo 70 = .ok (.dup, 1) := by decide +kernel
theorem dX5_numberUpTo_71 : decode cX5_numberUpTo 71 = .ok (.getfield 15, 3) := by decide +kernel
theorem dX5_numberUpTo_74 : decode cX5_numberUpTo 74 = .ok (.iconst 1, 1) := by decide +kernel
theorem dX5_numberUpTo_75 : decode cX5_numberUpTo 75 = .ok (.iadd, 1) := by decide +kernel
theorem dX5_numberUpTo_76 : decode cX5_numberUpTo 76 = .ok (.putfield 15, 3) := by decide +kernel
theorem dX5_numberUpTo_79 : decode cX5_numberUpTo 79 = .ok (.goto (-60), 3) := by decide +kernel
theorem dX5_numberUpTo_82 : decode cX5_numberUpTo 82 = .ok (.iload_n 3, 1) := by decide +kernel
theorem dX5_numberUpTo_83 : decode cX5_numberUpTo 83 = .ok (.iload_n 1, 1) := by decide +kernel
theorem dX5_numberUpTo_84 : decode cX5_numberUpTo 84 = .ok (.if_icmp .le 10, 3) := by decide +kernel
theorem dX5_numberUpTo_87 : decode cX5_numberUpTo 87 = .ok (.aload_n 0, 1) := by decide +kernel
theorem dX5_numberUpTo_88 : decode cX5_numberUpTo 88 = .ok (.iload_n 2, 1) := by decide +kernel
theorem dX5_numberUpTo_89 : decode cX5_numberUpTo 89 = .ok (.putfield 15, 3) := by decide +kernel
theorem dX5_numberUpTo_92 : decode cX5_numberUpTo 92 = .ok (.iconst (-1), 1) := by decide +kernel
theorem dX5_numberUpTo_93 : decode cX5_numberUpTo 93 = .ok (.ireturn, 1) := by decide +kernel
theorem dX5_numberUpTo_94 : decode cX5_numberUpTo 94 = .ok (.iload_n 3, 1) := by decide +kernel
theorem dX5_numberUpTo_95 : decode cX5_numberUpTo 95 = .ok (.ireturn, 1) := by decide +kernel
theorem dX5_isDigit_0 : decode cX5_isDigit 0 = .ok (.iload_n 0, 1) := by decide +kernel
theorem dX5_isDigit_1 : decode cX5_isDigit 1 = .ok (.bipush 48, 2) := by decide +kernel
theorem dX5_isDigit_3 : decode cX5_isDigit 3 = .ok (.if_icmp .lt 13, 3) := by decide +kernel
theorem dX5_isDigit_6 : decode cX5_isDigit 6 = .ok (.iload_n 0, 1) := by decide +kernel
theorem dX5_isDigit_7 : decode cX5_isDigit 7 = .ok (.bipush 57, 2) := by decide +kernel
theorem dX5_isDigit_9 : decode cX5_isDigit 9 = .ok (.if_icmp .gt 7, 3) := by decide +kernel
theorem dX5_isDigit_12 : decode cX5_isDigit 12 = .ok (.iconst 1, 1) := by decide +kernel
theorem dX5_isDigit_13 : decode cX5_isDigit 13 = .ok (.goto 4, 3) := by decide +kernel
theorem dX5_isDigit_16 : decode cX5_isDigit 16 = .ok (.iconst 0, 1) := by decide +kernel
theorem dX5_isDigit_17 : decode cX5_isDigit 17 = .ok (.ireturn, 1) := by decide +kernel
theorem dX6_init_0 : decode cX6_init 0 = .ok (.aload_n 0, 1) := by decide +kernel
theorem dX6_init_1 : decode cX6_init 1 = .ok (.invokespecial 3, 3) := by decide +kernel
theorem dX6_init_4 : decode cX6_init 4 = .ok (.aload_n 0, 1) := by decide +kernel
theorem dX6_init_5 : decode cX6_init 5 = .ok (.bipush 11, 2) := by decide +kernel
theorem dX6_init_7 : decode cX6_init 7 = .ok (.newarray .int, 2) := by decide +kernel
theorem dX6_init_9 : decode cX6_init 9 = .ok (.putfield 9, 3) := by decide +kernel
theorem dX6_init_12 : decode cX6_init 12 = .ok (.return_, 1) := by decide +kernel
theorem dX6_measure_0 : decode cX6_measure 0 = .ok (.iconst 0, 1) := by decide +kernel
theorem dX6_measure_1 : decode cX6_measure 1 = .ok (.istore 4, 2) := by decide +kernel
theorem dX6_measure_3 : decode cX6_measure 3 = .ok (.iload 4, 2) := by decide +kernel
theorem dX6_measure_5 : decode cX6_measure 5 = .ok (.bipush 11, 2) := by decide +kernel
theorem dX6_measure_7 : decode cX6_measure 7 = .ok (.if_icmp .ge 27, 3) := by decide +kernel
theorem dX6_measure_10 : decode cX6_measure 10 = .ok (.aload_n 0, 1) := by decide +kernel
theorem dX6_measure_11 : decode cX6_measure 11 = .ok (.getfield 9, 3) := by decide +kernel
theorem dX6_measure_14 : decode cX6_measure 14 = .ok (.iload 4, 2) := by decide +kernel
theorem dX6_measure_16 : decode cX6_measure 16 = .ok (.iload 4, 2) := by decide +kernel
theorem dX6_measure_18 : decode cX6_measure 18 = .ok (.iload_n 2, 1) := by decide +kernel
theorem dX6_measure_19 : decode cX6_measure 19 = .ok (.if_icmp .ne 7, 3) := by decide +kernel
theorem dX6_measure_22 : decode cX6_measure 22 = .ok (.iconst 0, 1) := by decide +kernel
theorem dX6_measure_23 : decode cX6_measure 23 = .ok (.goto 4, 3) := by decide +kernel
theorem dX6_measure_26 : decode cX6_measure 26 = .ok (.iconst (-1), 1) := by decide +kernel
theorem dX6_measure_27 : decode cX6_measure 27 = .ok (.iastore, 1) := by decide +kernel
theorem dX6_measure_28 : decode cX6_measure 28 = .ok (.iinc 4 1, 3) := by decide +kernel
theorem dX6_measure_31 : decode cX6_measure 31 = .ok (.goto (-28), 3) := by decide +kernel
theorem dX6_measure_34 : decode cX6_measure 34 = .ok (.iconst 0, 1) := by decide +kernel
theorem dX6_measure_35 : decode cX6_measure 35 = .ok (.istore 4, 2) := by decide +kernel
theorem dX6_measure_37 : decode cX6_measure 37 = .ok (.iload 4, 2) := by decide +kernel
theorem dX6_measure_39 : decode cX6_measure 39 = .ok (.bipush 10, 2) := by decide +kernel
theorem dX6_measure_41 : decode cX6_measure 41 = .ok (.if_icmp .ge 75, 3) := by decide +kernel
theorem dX6_measure_44 : decode cX6_measure 44 = .ok (.iconst 0, 1) := by decide +kernel
theorem dX6_measure_45 : decode cX6_measure 45 = .ok (.istore 5, 2) := by decide +kernel
theorem dX6_measure_47 : decode cX6_measure 47 = .ok (.iload 5, 2) := by decide +kernel
theorem dX6_measure_49 : decode cX6_measure 49 = .ok (.bipush 16, 2) := by decide +kernel
theorem dX6_measure_51 : decode cX6_measure 51 = .ok (.if_icmp .gt 59, 3) := by decide +kernel
theorem dX6_measure_54 : decode cX6_measure 54 = .ok (.aload_n 1, 1) := by decide +kernel
theorem dX6_measure_55 : decode cX6_measure 55 = .ok (.iload 5, 2) := by decide +kernel
theorem dX6_measure_57 : decode cX6_measure 57 = .ok (.iload_n 3, 1) := by decide +kernel
theorem dX6_measure_58 : decode cX6_measure 58 = .ok (.invokevirtual 15, 3) := by decide +kernel
theorem dX6_measure_61 : decode cX6_measure 61 = .ok (.ifCond .eq 43, 3) := by decide +kernel
theorem dX6_measure_64 : decode cX6_measure 64 = .ok (.aload_n 0, 1) := by decide +kernel
theorem dX6_measure_65 : decode cX6_measure 65 = .ok (.aload_n 1, 1) := by decide +kernel
theorem dX6_measure_66 : decode cX6_measure 66 = .ok (.getfield 21, 3) := by decide +kernel
theorem dX6_measure_69 : decode cX6_measure 69 = .ok (.iload 5, 2) := by decide +kernel
theorem dX6_measure_71 : decode cX6_measure 71 = .ok (.iaload, 1) := by decide +kernel
theorem dX6_measure_72 : decode cX6_measure 72 = .ok (.aload_n 1, 1) := by decide +kernel
theorem dX6_measure_73 : decode cX6_measure 73 = .ok (.getfield 24, 3) := by decide +kernel
theorem dX6_measure_76 : decode cX6_measure 76 = .ok (.iload 5, 2) := by decide +kernel
theorem dX6_measure_78 : decode cX6_measure 78 = .ok (.iaload, 1) := by decide +kernel
theorem dX6_measure_79 : decode cX6_measure 79 = .ok (.iload 4, 2) := by decide +kernel
theorem dX6_measure_81 : decode cX6_measure 81 = .ok (.invokevirtual 27, 3) := by decide +kernel
theorem dX6_measure_84 : decode cX6_measure 84 = .ok (.aload_n 0, 1) := by decide +kernel
theorem dX6_measure_85 : decode cX6_measure 85 = .ok (.aload_n 1, 1) := by decide +kernel
theorem dX6_measure_86 : decode cX6_measure 86 = .ok (.getfield 24, 3) := by decide +kernel
theorem dX6_measure_89 : decode cX6_measure 89 = .ok (.iload 5, 2) := by decide +kernel
theorem dX6_measure_91 : decode cX6_measure 91 = .ok (.iaload, 1) := by decide +kernel
theorem dX6_measure_92 : decode cX6_measure 92 = .ok (.aload_n 1, 1) := by decide +kernel
theorem dX6_measure_93 : decode cX6_measure 93 = .ok (.getfield 21, 3) := by decide +kernel
theorem dX6_measure_96 : decode cX6_measure 96 = .ok (.iload 5, 2) := by decide +kernel
theorem dX6_measure_98 : decode cX6_measure 98 = .ok (.iaload, 1) := by decide +kernel
theorem dX6_measure_99 : decode cX6_measure 99 = .ok (.iload 4, 2) := by decide +kernel
theorem dX6_measure_101 : decode cX6_measure 101 = .ok (.invokevirtual 27, 3) := by decide +kernel
theorem dX6_measure_104 : decode cX6_measure 104 = .ok (.iinc 5 1, 3) := by decide +kernel
theorem dX6_measure_107 : decode cX6_measure 107 = .ok (.goto (-60), 3) := by decide +kernel
theorem dX6_measure_110 : decode cX6_measure 110 = .ok (.iinc 4 1, 3) := by decide +kernel
theorem dX6_measure_113 : decode cX6_measure 113 = .ok (.goto (-76), 3) := by decide +kernel
theorem dX6_measure_116 : decode cX6_measure 116 = .ok (.return_, 1) := by decide +kernel
theorem dX6_spread_0 : decode cX6_spread 0 = .ok (.aload_n 0, 1) := by decide +kernel
theorem dX6_spread_1 : decode cX6_spread 1 = .ok (.getfield 9, 3) := by decide +kernel
theorem dX6_spread_4 : decode cX6_spread 4 = .ok (.iload_n 1, 1) := by decide +kernel
theorem dX6_spread_5 : decode cX6_spread 5 = .ok (.iaload, 1) := by decide +kernel
theorem dX6_spread_6 : decode cX6_spread 6 = .ok (.iload_n 3, 1) := by decide +kernel
theorem dX6_spread_7 : decode cX6_spread 7 = .ok (.if_icmp .ne 22, 3) := by decide +kernel
theorem dX6_spread_10 : decode cX6_spread 10 = .ok (.aload_n 0, 1) := by decide +kernel
theorem dX6_spread_11 : decode cX6_spread 11 = .ok (.getfield 9, 3) := by decide +kernel
theorem dX6_spread_14 : decode cX6_spread 14 = .ok (.iload_n 2, 1) := by decide +kernel
theorem dX6_spread_15 : decode cX6_spread 15 = .ok (.iaload, 1) := by decide +kernel
theorem dX6_spread_16 : decode cX6_spread 16 = .ok (.iconst (-1), 1) := by decide +kernel
theorem dX6_spread_17 : decode cX6_spread 17 = .ok (.if_icmp .ne 12, 3) := by decide +kernel
theorem dX6_spread_20 : decode cX6_spread 20 = .ok (.aload_n 0, 1) := by decide +kernel
theorem dX6_spread_21 : decode cX6_spread 21 = .ok (.getfield 9, 3) := by decide +kernel
theorem dX6_spread_24 : decode cX6_spread 24 = .ok (.iload_n 2, 1) := by decide +kernel
theorem dX6_spread_25 : decode cX6_spread 25 = .ok (.iload_n 3, 1) := by decide +kernel
theorem dX6_spread_26 : decode cX6_spread 26 = .ok (.iconst 1, 1) := by decide +kernel
theorem dX6_spread_27 : decode cX6_spread 27 = .ok (.iadd, 1) := by decide +kernel
theorem dX6_spread_28 : decode cX6_spread 28 = .ok (.iastore, 1) := by decide +kernel
theorem dX6_spread_29 : decode cX6_spread 29 = .ok (.return_, 1) := by decide +kernel
theorem dX6_locksFromHall_0 : decode cX6_locksFromHall 0 = .ok (.iconst 0, 1) := by decide +kernel
theorem dX6_locksFromHall_1 : decode cX6_locksFromHall 1 = .ok (.istore_n 3, 1) := by decide +kernel
theorem dX6_locksFromHall_2 : decode cX6_locksFromHall 2 = .ok (.iconst 0, 1) := by decide +kernel
theorem dX6_locksFromHall_3 : decode cX6_locksFromHall 3 = .ok (.istore 4, 2) := by decide +kernel
theorem dX6_locksFromHall_5 : decode cX6_locksFromHall 5 = .ok (.aload_n 0, 1) := by decide +kernel
theorem dX6_locksFromHall_6 : decode cX6_locksFromHall 6 = .ok (.getfield 9, 3) := by decide +kernel
theorem dX6_locksFromHall_9 : decode cX6_locksFromHall 9 = .ok (.iconst 0, 1) := by decide +kernel
theorem dX6_locksFromHall_10 : decode cX6_locksFromHall 10 = .ok (.iaload, 1) := by decide +kernel
theorem dX6_locksFromHall_11 : decode cX6_locksFromHall 11 = .ok (.istore 5, 2) := by decide +kernel
theorem dX6_locksFromHall_13 : decode cX6_locksFromHall 13 = .ok (.iload 5, 2) := by decide +kernel
theorem dX6_locksFromHall_15 : decode cX6_locksFromHall 15 = .ok (.ifCond .le 76, 3) := by decide +kernel
theorem dX6_locksFromHall_18 : decode cX6_locksFromHall 18 = .ok (.aload_n 0, 1) := by decide +kernel
theorem dX6_locksFromHall_19 : decode cX6_locksFromHall 19 = .ok (.aload_n 1, 1) := by decide +kernel
theorem dX6_locksFromHall_20 : decode cX6_locksFromHall 20 = .ok (.iload_n 2, 1) := by decide +kernel
theorem dX6_locksFromHall_21 : decode cX6_locksFromHall 21 = .ok (.iload 4, 2) := by decide +kernel
theorem dX6_locksFromHall_23 : decode cX6_locksFromHall 23 = .ok (.iload 5, 2) := by decide +kernel
theorem dX6_locksFromHall_25 : decode cX6_locksFromHall 25 = .ok (.invokevirtual 31, 3) := by decide +kernel
theorem dX6_locksFromHall_28 : decode cX6_locksFromHall 28 = .ok (.istore 6, 2) := by decide +kernel
theorem dX6_locksFromHall_30 : decode cX6_locksFromHall 30 = .ok (.aload_n 1, 1) := by decide +kernel
theorem dX6_locksFromHall_31 : decode cX6_locksFromHall 31 = .ok (.getfield 35, 3) := by decide +kernel
theorem dX6_locksFromHall_34 : decode cX6_locksFromHall 34 = .ok (.iload 6, 2) := by decide +kernel
theorem dX6_locksFromHall_36 : decode cX6_locksFromHall 36 = .ok (.iaload, 1) := by decide +kernel
theorem dX6_locksFromHall_37 : decode cX6_locksFromHall 37 = .ok (.bipush 8, 2) := by decide +kernel
theorem dX6_locksFromHall_39 : decode cX6_locksFromHall 39 = .ok (.if_icmp .eq 15, 3) := by decide +kernel
theorem dX6_locksFromHall_42 : decode cX6_locksFromHall 42 = .ok (.iload_n 3, 1) := by decide +kernel
theorem dX6_locksFromHall_43 : decode cX6_locksFromHall 43 = .ok (.iconst 1, 1) := by decide +kernel
theorem dX6_locksFromHall_44 : decode cX6_locksFromHall 44 = .ok (.aload_n 1, 1) := by decide +kernel
theorem dX6_locksFromHall_45 : decode cX6_locksFromHall 45 = .ok (.getfield 35, 3) := by decide +kernel
theorem dX6_locksFromHall_48 : decode cX6_locksFromHall 48 = .ok (.iload 6, 2) := by decide +kernel
theorem dX6_locksFromHall_50 : decode cX6_locksFromHall 50 = .ok (.iaload, 1) := by decide +kernel
theorem dX6_locksFromHall_51 : decode cX6_locksFromHall 51 = .ok (.ishl, 1) := by decide +kernel
theorem dX6_locksFromHall_52 : decode cX6_locksFromHall 52 = .ok (.ior, 1) := by decide +kernel
theorem dX6_locksFromHall_53 : decode cX6_locksFromHall 53 = .ok (.istore_n 3, 1) := by decide +kernel
theorem dX6_locksFromHall_54 : decode cX6_locksFromHall 54 = .ok (.aload_n 1, 1) := by decide +kernel
theorem dX6_locksFromHall_55 : decode cX6_locksFromHall 55 = .ok (.getfield 21, 3) := by decide +kernel
theorem dX6_locksFromHall_58 : decode cX6_locksFromHall 58 = .ok (.iload 6, 2) := by decide +kernel
theorem dX6_locksFromHall_60 : decode cX6_locksFromHall 60 = .ok (.iaload, 1) := by decide +kernel
theorem dX6_locksFromHall_61 : decode cX6_locksFromHall 61 = .ok (.iload 4, 2) := by decide +kernel
theorem dX6_locksFromHall_63 : decode cX6_locksFromHall 63 = .ok (.if_icmp .ne 13, 3) := by decide +kernel
theorem dX6_locksFromHall_66 : decode cX6_locksFromHall 66 = .ok (.aload_n 1, 1) := by decide +kernel
theorem dX6_locksFromHall_67 : decode cX6_locksFromHall 67 = .ok (.getfield 24, 3) := by decide +kernel
theorem dX6_locksFromHall_70 : decode cX6_locksFromHall 70 = .ok (.iload 6, 2) := by decide +kernel
theorem dX6_locksFromHall_72 : decode cX6_locksFromHall 72 = .ok (.iaload, 1) := by decide +kernel
theorem dX6_locksFromHall_73 : decode cX6_locksFromHall 73 = .ok (.goto 10, 3) := by decide +kernel
theorem dX6_locksFromHall_76 : decode cX6_locksFromHall 76 = .ok (.aload_n 1, 1) := by decide +kernel
theorem dX6_locksFromHall_77 : decode cX6_locksFromHall 77 = .ok (.getfield 21, 3) := by decide +kernel
theorem dX6_locksFromHall_80 : decode cX6_locksFromHall 80 = .ok (.iload 6, 2) := by decide +kernel
theorem dX6_locksFromHall_82 : decode cX6_locksFromHall 82 = .ok (.iaload, 1) := by decide +kernel
theorem dX6_locksFromHall_83 : decode cX6_locksFromHall 83 = .ok (.istore 4, 2) := by decide +kernel
theorem dX6_locksFromHall_85 : decode cX6_locksFromHall 85 = .ok (.iinc 5 (-1), 3) := by decide +kernel
theorem dX6_locksFromHall_88 : decode cX6_locksFromHall 88 = .ok (.goto (-75), 3) := by decide +kernel
theorem dX6_locksFromHall_91 : decode cX6_locksFromHall 91 = .ok (.iload_n 3, 1) := by decide +kernel
theorem dX6_locksFromHall_92 : decode cX6_locksFromHall 92 = .ok (.ireturn, 1) := by decide +kernel
theorem dX6_doorNearer_0 : decode cX6_doorNearer 0 = .ok (.iconst 0, 1) := by decide +kernel
theorem dX6_doorNearer_1 : decode cX6_doorNearer 1 = .ok (.istore 5, 2) := by decide +kernel
theorem dX6_doorNearer_3 : decode cX6_doorNearer 3 = .ok (.iload 5, 2) := by decide +kernel
theorem dX6_doorNearer_5 : decode cX6_doorNearer 5 = .ok (.bipush 16, 2) := by decide +kernel
theorem dX6_doorNearer_7 : decode cX6_doorNearer 7 = .ok (.if_icmp .ge 76, 3) := by decide +kernel
theorem dX6_doorNearer_10 : decode cX6_doorNearer 10 = .ok (.aload_n 1, 1) := by decide +kernel
theorem dX6_doorNearer_11 : decode cX6_doorNearer 11 = .ok (.iload 5, 2) := by decide +kernel
theorem dX6_doorNearer_13 : decode cX6_doorNearer 13 = .ok (.iload_n 2, 1) := by decide +kernel
theorem dX6_doorNearer_14 : decode cX6_doorNearer 14 = .ok (.invokevirtual 15, 3) := by decide +kernel
theorem dX6_doorNearer_17 : decode cX6_doorNearer 17 = .ok (.ifCond .eq 60, 3) := by decide +kernel
theorem dX6_doorNearer_20 : decode cX6_doorNearer 20 = .ok (.aload_n 1, 1) := by decide +kernel
theorem dX6_doorNearer_21 : decode cX6_doorNearer 21 = .ok (.iload 5, 2) := by decide +kernel
theorem dX6_doorNearer_23 : decode cX6_doorNearer 23 = .ok (.iload_n 3, 1) := by decide +kernel
theorem dX6_doorNearer_24 : decode cX6_doorNearer 24 = .ok (.invokevirtual 38, 3) := by decide +kernel
theorem dX6_doorNearer_27 : decode cX6_doorNearer 27 = .ok (.ifCond .eq 50, 3) := by decide +kernel
theorem dX6_doorNearer_30 : decode cX6_doorNearer 30 = .ok (.aload_n 1, 1) := by decide +kernel
theorem dX6_doorNearer_31 : decode cX6_doorNearer 31 = .ok (.getfield 21, 3) := by decide +kernel
theorem dX6_doorNearer_34 : decode cX6_doorNearer 34 = .ok (.iload 5, 2) := by decide +kernel
theorem dX6_doorNearer_36 : decode cX6_doorNearer 36 = .ok (.iaload, 1) := by decide +kernel
theorem dX6_doorNearer_37 : decode cX6_doorNearer 37 = .ok (.iload_n 3, 1) := by decide +kernel
theorem dX6_doorNearer_38 : decode cX6_doorNearer 38 = .ok (.if_icmp .ne 13, 3) := by decide +kernel
theorem dX6_doorNearer_41 : decode cX6_doorNearer 41 = .ok (.aload_n 1, 1) := by decide +kernel
theorem dX6_doorNearer_42 : decode cX6_doorNearer 42 = .ok (.getfield 24, 3) := by decide +kernel
theorem dX6_doorNearer_45 : decode cX6_doorNearer 45 = .ok (.iload 5, 2) := by decide +kernel
theorem dX6_doorNearer_47 : decode cX6_doorNearer 47 = .ok (.iaload, 1) := by decide +kernel
theorem dX6_doorNearer_48 : decode cX6_doorNearer 48 = .ok (.goto 10, 3) := by decide +kernel
theorem dX6_doorNearer_51 : decode cX6_doorNearer 51 = .ok (.aload_n 1, 1) := by decide +kernel
theorem dX6_doorNearer_52 : decode cX6_doorNearer 52 = .ok (.getfield 21, 3) := by decide +kernel
theorem dX6_doorNearer_55 : decode cX6_doorNearer 55 = .ok (.iload 5, 2) := by decide +kernel
theorem dX6_doorNearer_57 : decode cX6_doorNearer 57 = .ok (.iaload, 1) := by decide +kernel
theorem dX6_doorNearer_58 : decode cX6_doorNearer 58 = .ok (.istore 6, 2) := by decide +kernel
theorem dX6_doorNearer_60 : decode cX6_doorNearer 60 = .ok (.aload_n 0, 1) := by decide +kernel
theorem dX6_doorNearer_61 : decode cX6_doorNearer 61 = .ok (.getfield 9, 3) := by decide +kernel
theorem dX6_doorNearer_64 : decode cX6_doorNearer 64 = .ok (.iload 6, 2) := by decide +kernel
theorem dX6_doorNearer_66 : decode cX6_doorNearer 66 = .ok (.iaload, 1) := by decide +kernel
theorem dX6_doorNearer_67 : decode cX6_doorNearer 67 = .ok (.iload 4, 2) := by decide +kernel
theorem dX6_doorNearer_69 : decode cX6_doorNearer 69 = .ok (.iconst 1, 1) := by decide +kernel
theorem dX6_doorNearer_70 : decode cX6_doorNearer 70 = .ok (.isub, 1) := by decide +kernel
theorem dX6_doorNearer_71 : decode cX6_doorNearer 71 = .ok (.if_icmp .ne 6, 3) := by decide +kernel
theorem dX6_doorNearer_74 : decode cX6_doorNearer 74 = .ok (.iload 5, 2) := by decide +kernel
theorem dX6_doorNearer_76 : decode cX6_doorNearer 76 = .ok (.ireturn, 1) := by decide +kernel
theorem dX6_doorNearer_77 : decode cX6_doorNearer 77 = .ok (.iinc 5 1, 3) := by decide +kernel
theorem dX6_doorNearer_80 : decode cX6_doorNearer 80 = .ok (.goto (-77), 3) := by decide +kernel
theorem dX6_doorNearer_83 : decode cX6_doorNearer 83 = .ok (.bipush 16, 2) := by decide +kernel
theorem dX6_doorNearer_85 : decode cX6_doorNearer 85 = .ok (.ireturn, 1) := by decide +kernel
theorem dJ9_abs_0f7a4_0 : decode cJ9_abs_0f7a4 0 = .ok (.iload_n 0, 1) := by decide +kernel
theorem dJ9_abs_0f7a4_1 : decode cJ9_abs_0f7a4 1 = .ok (.ifCond .ge 8, 3) := by decide +kernel
theorem dJ9_abs_0f7a4_4 : decode cJ9_abs_0f7a4 4 = .ok (.iload_n 0, 1) := by decide +kernel
theorem dJ9_abs_0f7a4_5 : decode cJ9_abs_0f7a4 5 = .ok (.ineg, 1) := by decide +kernel
theorem dJ9_abs_0f7a4_6 : decode cJ9_abs_0f7a4 6 = .ok (.goto 4, 3) := by decide +kernel
theorem dJ9_abs_0f7a4_9 : decode cJ9_abs_0f7a4 9 = .ok (.iload_n 0, 1) := by decide +kernel
theorem dJ9_abs_0f7a4_10 : decode cJ9_abs_0f7a4 10 = .ok (.ireturn, 1) := by decide +kernel
theorem dJ9_max_7cf53_0 : decode cJ9_max_7cf53 0 = .ok (.iload_n 0, 1) := by decide +kernel
theorem dJ9_max_7cf53_1 : decode cJ9_max_7cf53 1 = .ok (.iload_n 1, 1) := by decide +kernel
theorem dJ9_max_7cf53_2 : decode cJ9_max_7cf53 2 = .ok (.if_icmp .lt 7, 3) := by decide +kernel
theorem dJ9_max_7cf53_5 : decode cJ9_max_7cf53 5 = .ok (.iload_n 0, 1) := by decide +kernel
theorem dJ9_max_7cf53_6 : decode cJ9_max_7cf53 6 = .ok (.goto 4, 3) := by decide +kernel
theorem dJ9_max_7cf53_9 : decode cJ9_max_7cf53 9 = .ok (.iload_n 1, 1) := by decide +kernel
theorem dJ9_max_7cf53_10 : decode cJ9_max_7cf53 10 = .ok (.ireturn, 1) := by decide +kernel
theorem dJ9_min_7cf53_0 : decode cJ9_min_7cf53 0 = .ok (.iload_n 0, 1) := by decide +kernel
theorem dJ9_min_7cf53_1 : decode cJ9_min_7cf53 1 = .ok (.iload_n 1, 1) := by decide +kernel
theorem dJ9_min_7cf53_2 : decode cJ9_min_7cf53 2 = .ok (.if_icmp .gt 7, 3) := by decide +kernel
theorem dJ9_min_7cf53_5 : decode cJ9_min_7cf53 5 = .ok (.iload_n 0, 1) := by decide +kernel
theorem dJ9_min_7cf53_6 : decode cJ9_min_7cf53 6 = .ok (.goto 4, 3) := by decide +kernel
theorem dJ9_min_7cf53_9 : decode cJ9_min_7cf53 9 = .ok (.iload_n 1, 1) := by decide +kernel
theorem dJ9_min_7cf53_10 : decode cJ9_min_7cf53 10 = .ok (.ireturn, 1) := by decide +kernel
