theorem dX0_init_0 : decode cX0_init 0 = .ok (.aload_n 0, 1) := by decide +kernel
theorem dX0_init_1 : decode cX0_init 1 = .ok (.invokespecial 1, 3) := by decide +kernel
theorem dX0_init_4 : decode cX0_init 4 = .ok (.aload_n 0, 1) := by decide +kernel
theorem dX0_init_5 : decode cX0_init 5 = .ok (.new 7, 3) := by decide +kernel
theorem dX0_init_8 : decode cX0_init 8 = .ok (.dup, 1) := by decide +kernel
theorem dX0_init_9 : decode cX0_init 9 = .ok (.invokespecial 9, 3) := by decide +kernel
theorem dX0_init_12 : decode cX0_init 12 = .ok (.putfield 10, 3) := by decide +kernel
theorem dX0_init_15 : decode cX0_init 15 = .ok (.aload_n 0, 1) := by decide +kernel
theorem dX0_init_16 : decode cX0_init 16 = .ok (.new 7, 3) := by decide +kernel
theorem dX0_init_19 : decode cX0_init 19 = .ok (.dup, 1) := by decide +kernel
theorem dX0_init_20 : decode cX0_init 20 = .ok (.invokespecial 9, 3) := by decide +kernel
theorem dX0_init_23 : decode cX0_init 23 = .ok (.putfield 16, 3) := by decide +kernel
theorem dX0_init_26 : decode cX0_init 26 = .ok (.aload_n 0, 1) := by decide +kernel
theorem dX0_init_27 : decode cX0_init 27 = .ok (.iload_n 1, 1) := by decide +kernel
theorem dX0_init_28 : decode cX0_init 28 = .ok (.putfield 19, 3) := by decide +kernel
theorem dX0_init_31 : decode cX0_init 31 = .ok (.aload_n 0, 1) := by decide +kernel
theorem dX0_init_32 : decode cX0_init 32 = .ok (.iload_n 2, 1) := by decide +kernel
theorem dX0_init_33 : decode cX0_init 33 = .ok (.putfield 23, 3) := by decide +kernel
theorem dX0_init_36 : decode cX0_init 36 = .ok (.return_, 1) := by decide +kernel
theorem dX1_init_0 : decode cX1_init 0 = .ok (.aload_n 0, 1) := by decide +kernel
theorem dX1_init_1 : decode cX1_init 1 = .ok (.invokespecial 3, 3) := by decide +kernel
theorem dX1_init_4 : decode cX1_init 4 = .ok (.aload_n 0, 1) := by decide +kernel
theorem dX1_init_5 : decode cX1_init 5 = .ok (.sipush 300, 3) := by decide +kernel
theorem dX1_init_8 : decode cX1_init 8 = .ok (.newarray .int, 2) := by decide +kernel
theorem dX1_init_10 : decode cX1_init 10 = .ok (.putfield 9, 3) := by decide +kernel
theorem dX1_init_13 : decode cX1_init 13 = .ok (.aload_n 0, 1) := by decide +kernel
theorem dX1_init_14 : decode cX1_init 14 = .ok (.sipush 300, 3) := by decide +kernel
theorem dX1_init_17 : decode cX1_init 17 = .ok (.newarray .int, 2) := by decide +kernel
theorem dX1_init_19 : decode cX1_init 19 = .ok (.putfield 15, 3) := by decide +kernel
theorem dX1_init_22 : decode cX1_init 22 = .ok (.aload_n 0, 1) := by decide +kernel
theorem dX1_init_23 : decode cX1_init 23 = .ok (.sipush 300, 3) := by decide +kernel
theorem dX1_init_26 : decode cX1_init 26 = .ok (.newarray .int, 2) := by decide +kernel
theorem dX1_init_28 : decode cX1_init 28 = .ok (.putfield 18, 3) := by decide +kernel
theorem dX1_init_31 : decode cX1_init 31 = .ok (.aload_n 0, 1) := by decide +kernel
theorem dX1_init_32 : decode cX1_init 32 = .ok (.sipush 300, 3) := by decide +kernel
theorem dX1_init_35 : decode cX1_init 35 = .ok (.newarray .int, 2) := by decide +kernel
theorem dX1_init_37 : decode cX1_init 37 = .ok (.putfield 21, 3) := by decide +kernel
theorem dX1_init_40 : decode cX1_init 40 = .ok (.aload_n 0, 1) := by decide +kernel
theorem dX1_init_41 : decode cX1_init 41 = .ok (.sipush 300, 3) := by decide +kernel
theorem dX1_init_44 : decode cX1_init 44 = .ok (.newarray .int, 2) := by decide +kernel
theorem dX1_init_46 : decode cX1_init 46 = .ok (.putfield 24, 3) := by decide +kernel
theorem dX1_init_49 : decode cX1_init 49 = .ok (.aload_n 0, 1) := by decide +kernel
theorem dX1_init_50 : decode cX1_init 50 = .ok (.sipush 300, 3) := by decide +kernel
theorem dX1_init_53 : decode cX1_init 53 = .ok (.newarray .boolean, 2) := by decide +kernel
theorem dX1_init_55 : decode cX1_init 55 = .ok (.putfield 27, 3) := by decide +kernel
theorem dX1_init_58 : decode cX1_init 58 = .ok (.return_, 1) := by decide +kernel
theorem dX1_clear_0 : decode cX1_clear 0 = .ok (.aload_n 0, 1) := by decide +kernel
theorem dX1_clear_1 : decode cX1_clear 1 = .ok (.iconst 0, 1) := by decide +kernel
theorem dX1_clear_2 : decode cX1_clear 2 = .ok (.putfield 31, 3) := by decide +kernel
theorem dX1_clear_5 : decode cX1_clear 5 = .ok (.return_, 1) := by decide +kernel
theorem dX1_has_0 : decode cX1_has 0 = .ok (.iload_n 1, 1) := by decide +kernel
theorem dX1_has_1 : decode cX1_has 1 = .ok (.ifCond .lt 15, 3) := by decide +kernel
theorem dX1_has_4 : decode cX1_has 4 = .ok (.iload_n 1, 1) := by decide +kernel
theorem dX1_has_5 : decode cX1_has 5 = .ok (.aload_n 0, 1) := by decide +kernel
theorem dX1_has_6 : decode cX1_has 6 = .ok (.getfield 31, 3) := by decide +kernel
theorem dX1_has_9 : decode cX1_has 9 = .ok (.if_icmp .ge 7, 3) := by decide +kernel
theorem dX1_has_12 : decode cX1_has 12 = .ok (.iconst 1, 1) := by decide +kernel
theorem dX1_has_13 : decode cX1_has 13 = .ok (.goto 4, 3) := by decide +kernel
theorem dX1_has_16 : decode cX1_has 16 = .ok (.iconst 0, 1) := by decide +kernel
theorem dX1_has_17 : decode cX1_has 17 = .ok (.ireturn, 1) := by decide +kernel
theorem dX1_code_0 : decode cX1_code 0 = .ok (.aload_n 0, 1) := by decide +kernel
theorem dX1_code_1 : decode cX1_code 1 = .ok (.iload_n 1, 1) := by decide +kernel
theorem dX1_code_2 : decode cX1_code 2 = .ok (.invokevirtual 35, 3) := by decide +kernel
theorem dX1_code_5 : decode cX1_code 5 = .ok (.ifCond .eq 12, 3) := by decide +kernel
theorem dX1_code_8 : decode cX1_code 8 = .ok (.aload_n 0, 1) := by decide +kernel
theorem dX1_code_9 : decode cX1_code 9 = .ok (.getfield 9, 3) := by decide +kernel
theorem dX1_code_12 : decode cX1_code 12 = .ok (.iload_n 1, 1) := by decide +kernel
theorem dX1_code_13 : decode cX1_code 13 = .ok (.iaload, 1) := by decide +kernel
theorem dX1_code_14 : decode cX1_code 14 = .ok (.goto 4, 3) := by decide +kernel
theorem dX1_code_17 : decode cX1_code 17 = .ok (.iconst (-1), 1) := by decide +kernel
theorem dX1_code_18 : decode cX1_code 18 = .ok (.ireturn, 1) := by decide +kernel
theorem dX1_addEntry_0 : decode cX1_addEntry 0 = .ok (.aload_n 0, 1) := by decide +kernel
theorem dX1_addEntry_1 : decode cX1_addEntry 1 = .ok (.getfield 31, 3) := by decide +kernel
theorem dX1_addEntry_4 : decode cX1_addEntry 4 = .ok (.sipush 300, 3) := by decide +kernel
theorem dX1_addEntry_7 : decode cX1_addEntry 7 = .ok (.if_icmp .lt 5, 3) := by decide +kernel
theorem dX1_addEntry_10 : decode cX1_addEntry 10 = .ok (.iconst 0, 1) := by decide +kernel
theorem dX1_addEntry_11 : decode cX1_addEntry 11 = .ok (.ireturn, 1) := by decide +kernel
theorem dX1_addEntry_12 : decode cX1_addEntry 12 = .ok (.aload_n 0, 1) := by decide +kernel
theorem dX1_addEntry_13 : decode cX1_addEntry 13 = .ok (.getfield 9, 3) := by decide +kernel
theorem dX1_addEntry_16 : decode cX1_addEntry 16 = .ok (.aload_n 0, 1) := by decide +kernel
theorem dX1_addEntry_17 : decode cX1_addEntry 17 = .ok (.getfield 31, 3) := by decide +kernel
theorem dX1_addEntry_20 : decode cX1_addEntry 20 = .ok (.iload_n 1, 1) := by decide +kernel
theorem dX1_addEntry_21 : decode cX1_addEntry 21 = .ok (.iastore, 1) := by decide +kernel
theorem dX1_addEntry_22 : decode cX1_addEntry 22 = .ok (.aload_n 0, 1) := by decide +kernel
theorem dX1_addEntry_23 : decode cX1_addEntry 23 = .ok (.getfield 15, 3) := by decide +kernel
theorem dX1_addEntry_26 : decode cX1_addEntry 26 = .ok (.aload_n 0, 1) := by decide +kernel
theorem dX1_addEntry_27 : decode cX1_addEntry 27 = .ok (.getfield 31, 3) := by decide +kernel
theorem dX1_addEntry_30 : decode cX1_addEntry 30 = .ok (.iload_n 2, 1) := by decide +kernel
theorem dX1_addEntry_31 : decode cX1_addEntry 31 = .ok (.iastore, 1) := by decide +kernel
theorem dX1_addEntry_32 : decode cX1_addEntry 32 = .ok (.aload_n 0, 1) := by decide +kernel
theorem dX1_addEntry_33 : decode cX1_addEntry 33 = .ok (.getfield 18, 3) := by decide +kernel
theorem dX1_addEntry_36 : decode cX1_addEntry 36 = .ok (.aload_n 0, 1) := by decide +kernel
theorem dX1_addEntry_37 : decode cX1_addEntry 37 = .ok (.getfield 31, 3) := by decide +kernel
theorem dX1_addEntry_40 : decode cX1_addEntry 40 = .ok (.iload_n 3, 1) := by decide +kernel
theorem dX1_addEntry_41 : decode cX1_addEntry 41 = .ok (.iastore, 1) := by decide +kernel
theorem dX1_addEntry_42 : decode cX1_addEntry 42 = .ok (.aload_n 0, 1) := by decide +kernel
theorem dX1_addEntry_43 : decode cX1_addEntry 43 = .ok (.getfield 21, 3) := by decide +kernel
theorem dX1_addEntry_46 : decode cX1_addEntry 46 = .ok (.aload_n 0, 1) := by decide +kernel
theorem dX1_addEntry_47 : decode cX1_addEntry 47 = .ok (.getfield 31, 3) := by decide +kernel
theorem dX1_addEntry_50 : decode cX1_addEntry 50 = .ok (.iconst 0, 1) := by decide +kernel
theorem dX1_addEntry_51 : decode cX1_addEntry 51 = .ok (.iastore, 1) := by decide +kernel
theorem dX1_addEntry_52 : decode cX1_addEntry 52 = .ok (.aload_n 0, 1) := by decide +kernel
theorem dX1_addEntry_53 : decode cX1_addEntry 53 = .ok (.getfield 24, 3) := by decide +kernel
theorem dX1_addEntry_56 : decode cX1_addEntry 56 = .ok (.aload_n 0, 1) := by decide +kernel
theorem dX1_addEntry_57 : decode cX1_addEntry 57 = .ok (.getfield 31, 3) := by decide +kernel
theorem dX1_addEntry_60 : decode cX1_addEntry 60 = .ok (.iload 4, 2) := by decide +kernel
theorem dX1_addEntry_62 : decode cX1_addEntry 62 = .ok (.iastore, 1) := by decide +kernel
theorem dX1_addEntry_63 : decode cX1_addEntry 63 = .ok (.aload_n 0, 1) := by decide +kernel
theorem dX1_addEntry_64 : decode cX1_addEntry 64 = .ok (.getfield 27, 3) := by decide +kernel
theorem dX1_addEntry_67 : decode cX1_addEntry 67 = .ok (.aload_n 0, 1) := by decide +kernel
theorem dX1_addEntry_68 : decode cX1_addEntry 68 = .ok (.getfield 31, 3) := by decide +kernel
theorem dX1_addEntry_71 : decode cX1_addEntry 71 = .ok (.iload 5, 2) := by decide +kernel
theorem dX1_addEntry_73 : decode cX1_addEntry 73 = .ok (.bastore, 1) := by decide +kernel
theorem dX1_addEntry_74 : decode cX1_addEntry 74 = .ok (.aload_n 0, 1) := by decide +kernel
theorem dX1_addEntry_75 : decode cX1_addEntry 75 = .ok (.dup, 1) := by decide +kernel
theorem dX1_addEntry_76 : decode cX1_addEntry 76 = .ok (.getfield 31, 3) := by decide +kernel
theorem dX1_addEntry_79 : decode cX1_addEntry 79 = .ok (.iconst 1, 1) := by decide +kernel
theorem dX1_addEntry_80 : decode cX1_addEntry 80 = .ok (.iadd, 1) := by decide +kernel
theorem dX1_addEntry_81 : decode cX1_addEntry 81 = .ok (.putfield 31, 3) := by decide +kernel
theorem dX1_addEntry_84 : decode cX1_addEntry 84 = .ok (.iconst 1, 1) := by decide +kernel
theorem dX1_addEntry_85 : decode cX1_addEntry 85 = .ok (.ireturn, 1) := by decide +kernel
theorem dX1_addSame_0 : decode cX1_addSame 0 = .ok (.aload_n 1, 1) := by decide +kernel
theorem dX1_addSame_1 : decode cX1_addSame 1 = .ok (.iload_n 2, 1) := by decide +kernel
theorem dX1_addSame_2 : decode cX1_addSame 2 = .ok (.invokevirtual 35, 3) := by decide +kernel
theorem dX1_addSame_5 : decode cX1_addSame 5 = .ok (.ifCond .eq 28, 3) := by decide +kernel
theorem dX1_addSame_8 : decode cX1_addSame 8 = .ok (.aload_n 0, 1) := by decide +kernel
theorem dX1_addSame_9 : decode cX1_addSame 9 = .ok (.aload_n 1, 1) := by decide +kernel
theorem dX1_addSame_10 : decode cX1_addSame 10 = .ok (.getfield 9, 3) := by decide +kernel
theorem dX1_addSame_13 : decode cX1_addSame 13 = .ok (.iload_n 2, 1) := by decide +kernel
theorem dX1_addSame_14 : decode cX1_addSame 14 = .ok (.iaload, 1) := by decide +kernel
theorem dX1_addSame_15 : decode cX1_addSame 15 = .ok (.aload_n 1, 1) := by decide +kernel
theorem dX1_addSame_16 : decode cX1_addSame 16 = .ok (.getfield 21, 3) := by decide +kernel
theorem dX1_addSame_19 : decode cX1_addSame 19 = .ok (.iload_n 2, 1) := by decide +kernel
theorem dX1_addSame_20 : decode cX1_addSame 20 = .ok (.iaload, 1) := by decide +kernel
theorem dX1_addSame_21 : decode cX1_addSame 21 = .ok (.aload_n 1, 1) := by decide +kernel
theorem dX1_addSame_22 : decode cX1_addSame 22 = .ok (.iload_n 2, 1) := by decide +kernel
theorem dX1_addSame_23 : decode cX1_addSame 23 = .ok (.invokevirtual 39, 3) := by decide +kernel
theorem dX1_addSame_26 : decode cX1_addSame 26 = .ok (.ifCond .eq 7, 3) := by decide +kernel
theorem dX1_addSame_29 : decode cX1_addSame 29 = .ok (.iconst 1, 1) := by decide +kernel
theorem dX1_addSame_30 : decode cX1_addSame 30 = .ok (.goto 4, 3) := by decide +kernel
theorem dX1_addSame_33 : decode cX1_addSame 33 = .ok (.iconst 0, 1) := by decide +kernel
theorem dX1_addSame_34 : decode cX1_addSame 34 = .ok (.ireturn, 1) := by decide +kernel
theorem dX1_addPut_0 : decode cX1_addPut 0 = .ok (.aload_n 0, 1) := by decide +kernel
theorem dX1_addPut_1 : decode cX1_addPut 1 = .ok (.getfield 31, 3) := by decide +kernel
theorem dX1_addPut_4 : decode cX1_addPut 4 = .ok (.istore 5, 2) := by decide +kernel
theorem dX1_addPut_6 : decode cX1_addPut 6 = .ok (.aload_n 3, 1) := by decide +kernel
theorem dX1_addPut_7 : decode cX1_addPut 7 = .ok (.iload 4, 2) := by decide +kernel
theorem dX1_addPut_9 : decode cX1_addPut 9 = .ok (.invokevirtual 35, 3) := by decide +kernel
theorem dX1_addPut_12 : decode cX1_addPut 12 = .ok (.ifCond .eq 39, 3) := by decide +kernel
theorem dX1_addPut_15 : decode cX1_addPut 15 = .ok (.aload_n 0, 1) := by decide +kernel
theorem dX1_addPut_16 : decode cX1_addPut 16 = .ok (.iload_n 1, 1) := by decide +kernel
theorem dX1_addPut_17 : decode cX1_addPut 17 = .ok (.aload_n 3, 1) := by decide +kernel
theorem dX1_addPut_18 : decode cX1_addPut 18 = .ok (.getfield 15, 3) := by decide +kernel
theorem dX1_addPut_21 : decode cX1_addPut 21 = .ok (.iload 4, 2) := by decide +kernel
theorem dX1_addPut_23 : decode cX1_addPut 23 = .ok (.iaload, 1) := by decide +kernel
theorem dX1_addPut_24 : decode cX1_addPut 24 = .ok (.aload_n 3, 1) := by decide +kernel
theorem dX1_addPut_25 : decode cX1_addPut 25 = .ok (.getfield 18, 3) := by decide +kernel
theorem dX1_addPut_28 : decode cX1_addPut 28 = .ok (.iload 4, 2) := by decide +kernel
theorem dX1_addPut_30 : decode cX1_addPut 30 = .ok (.iaload, 1) := by decide +kernel
theorem dX1_addPut_31 : decode cX1_addPut 31 = .ok (.aload_n 3, 1) := by decide +kernel
theorem dX1_addPut_32 : decode cX1_addPut 32 = .ok (.getfield 24, 3) := by decide +kernel
theorem dX1_addPut_35 : decode cX1_addPut 35 = .ok (.iload 4, 2) := by decide +kernel
theorem dX1_addPut_37 : decode cX1_addPut 37 = .ok (.iaload, 1) := by decide +kernel
theorem dX1_addPut_38 : decode cX1_addPut 38 = .ok (.aload_n 3, 1) := by decide +kernel
theorem dX1_addPut_39 : decode cX1_addPut 39 = .ok (.getfield 27, 3) := by decide +kernel
theorem dX1_addPut_42 : decode cX1_addPut 42 = .ok (.iload 4, 2) := by decide +kernel
theorem dX1_addPut_44 : decode cX1_addPut 44 = .ok (.baload, 1) := by decide +kernel
theorem dX1_addPut_45 : decode cX1_addPut 45 = .ok (.invokevirtual 43, 3) := by decide +kernel
theorem dX1_addPut_48 : decode cX1_addPut 48 = .ok (.ifCond .ne 5, 3) := by decide +kernel
theorem dX1_addPut_51 : decode cX1_addPut 51 = .ok (.iconst 0, 1) := by decide +kernel
theorem dX1_addPut_52 : decode cX1_addPut 52 = .ok (.ireturn, 1) := by decide +kernel
theorem dX1_addPut_53 : decode cX1_addPut 53 = .ok (.aload_n 0, 1) := by decide +kernel
theorem dX1_addPut_54 : decode cX1_addPut 54 = .ok (.getfield 21, 3) := by decide +kernel
theorem dX1_addPut_57 : decode cX1_addPut 57 = .ok (.iload 5, 2) := by decide +kernel
theorem dX1_addPut_59 : decode cX1_addPut 59 = .ok (.iload_n 2, 1) := by decide +kernel
theorem dX1_addPut_60 : decode cX1_addPut 60 = .ok (.iastore, 1) := by decide +kernel
theorem dX1_addPut_61 : decode cX1_addPut 61 = .ok (.iconst 1, 1) := by decide +kernel
theorem dX1_addPut_62 : decode cX1_addPut 62 = .ok (.ireturn, 1) := by decide +kernel
theorem dX1_addAll_0 : decode cX1_addAll 0 = .ok (.iconst 0, 1) := by decide +kernel
theorem dX1_addAll_1 : decode cX1_addAll 1 = .ok (.istore_n 2, 1) := by decide +kernel
theorem dX1_addAll_2 : decode cX1_addAll 2 = .ok (.iload_n 2, 1) := by decide +kernel
theorem dX1_addAll_3 : decode cX1_addAll 3 = .ok (.aload_n 1, 1) := by decide +kernel
theorem dX1_addAll_4 : decode cX1_addAll 4 = .ok (.getfield 31, 3) := by decide +kernel
theorem dX1_addAll_7 : decode cX1_addAll 7 = .ok (.if_icmp .ge 20, 3) := by decide +kernel
theorem dX1_addAll_10 : decode cX1_addAll 10 = .ok (.aload_n 0, 1) := by decide +kernel
theorem dX1_addAll_11 : decode cX1_addAll 11 = .ok (.aload_n 1, 1) := by decide +kernel
theorem dX1_addAll_12 : decode cX1_addAll 12 = .ok (.iload_n 2, 1) := by decide +kernel
theorem dX1_addAll_13 : decode cX1_addAll 13 = .ok (.invokevirtual 47, 3) := by decide +kernel
theorem dX1_addAll_16 : decode cX1_addAll 16 = .ok (.ifCond .ne 5, 3) := by decide +kernel
theorem dX1_addAll_19 : decode cX1_addAll 19 = .ok (.iconst 0, 1) := by decide +kernel
theorem dX1_addAll_20 : decode cX1_addAll 20 = .ok (.ireturn, 1) := by decide +kernel
theorem dX1_addAll_21 : decode cX1_addAll 21 = .ok (.iinc 2 1, 3) := by decide +kernel
theorem dX1_addAll_24 : decode cX1_addAll 24 = .ok (.goto (-22), 3) := by decide +kernel
theorem dX1_addAll_27 : decode cX1_addAll 27 = .ok (.iconst 1, 1) := by decide +kernel
theorem dX1_addAll_28 : decode cX1_addAll 28 = .ok (.ireturn, 1) := by decide +kernel
theorem dX2_init_0 : decode cX2_init 0 = .ok (.aload_n 0, 1) := by decide +kernel
theorem dX2_init_1 : decode cX2_init 1 = .ok (.invokespecial 3, 3) := by decide +kernel
theorem dX2_init_4 : decode cX2_init 4 = .ok (.aload_n 0, 1) := by decide +kernel
theorem dX2_init_5 : decode cX2_init 5 = .ok (.bipush 8, 2) := by decide +kernel
theorem dX2_init_7 : decode cX2_init 7 = .ok (.anewarray 9, 3) := by decide +kernel
theorem dX2_init_10 : decode cX2_init 10 = .ok (.putfield 11, 3) := by decide +kernel
theorem dX2_init_13 : decode cX2_init 13 = .ok (.aload_n 0, 1) := by decide +kernel
theorem dX2_init_14 : decode cX2_init 14 = .ok (.iload_n 1, 1) := by decide +kernel
theorem dX2_init_15 : decode cX2_init 15 = .ok (.putfield 17, 3) := by decide +kernel
theorem dX2_init_18 : decode cX2_init 18 = .ok (.aload_n 0, 1) := by decide +kernel
theorem dX2_init_19 : decode cX2_init 19 = .ok (.iload_n 2, 1) := by decide +kernel
theorem dX2_init_20 : decode cX2_init 20 = .ok (.putfield 21, 3) := by decide +kernel
theorem dX2_init_23 : decode cX2_init 23 = .ok (.aload_n 0, 1) := by decide +kernel
theorem dX2_init_24 : decode cX2_init 24 = .ok (.iload_n 3, 1) := by decide +kernel
theorem dX2_init_25 : decode cX2_init 25 = .ok (.putfield 25, 3) := by decide +kernel
theorem dX2_init_28 : decode cX2_init 28 = .ok (.aload_n 0, 1) := by decide +kernel
theorem dX2_init_29 : decode cX2_init 29 = .ok (.iload 4, 2) := by decide +kernel
theorem dX2_init_31 : decode cX2_init 31 = .ok (.putfield 28, 3) := by decide +kernel
theorem dX2_init_34 : decode cX2_init 34 = .ok (.return_, 1) := by decide +kernel
theorem dX2_append_0 : decode cX2_append 0 = .ok (.aload_n 0, 1) := by decide +kernel
theorem dX2_append_1 : decode cX2_append 1 = .ok (.getfield 31, 3) := by decide +kernel
theorem dX2_append_4 : decode cX2_append 4 = .ok (.aload_n 0, 1) := by decide +kernel
theorem dX2_append_5 : decode cX2_append 5 = .ok (.getfield 11, 3) := by decide +kernel
theorem dX2_append_8 : decode cX2_append 8 = .ok (.arraylength, 1) := by decide +kernel
theorem dX2_append_9 : decode cX2_append 9 = .ok (.if_icmp .ge 23, 3) := by decide +kernel
theorem dX2_append_12 : decode cX2_append 12 = .ok (.aload_n 0, 1) := by decide +kernel
theorem dX2_append_13 : decode cX2_append 13 = .ok (.getfield 11, 3) := by decide +kernel
theorem dX2_append_16 : decode cX2_append 16 = .ok (.aload_n 0, 1) := by decide +kernel
theorem dX2_append_17 : decode cX2_append 17 = .ok (.getfield 31, 3) := by decide +kernel
theorem dX2_append_20 : decode cX2_append 20 = .ok (.aload_n 1, 1) := by decide +kernel
theorem dX2_append_21 : decode cX2_append 21 = .ok (.aastore, 1) := by decide +kernel
theorem dX2_append_22 : decode cX2_append 22 = .ok (.aload_n 0, 1) := by decide +kernel
theorem dX2_append_23 : decode cX2_append 23 = .ok (.dup, 1) := by decide +kernel
theorem dX2_append_24 : decode cX2_append 24 = .ok (.getfield 31, 3) := by decide +kernel
theorem dX2_append_27 : decode cX2_append 27 = .ok (.iconst 1, 1) := by decide +kernel
theorem dX2_append_28 : decode cX2_append 28 = .ok (.iadd, 1) := by decide +kernel
theorem dX2_append_29 : decode cX2_append 29 = .ok (.putfield 31, 3) := by decide +kernel
theorem dX2_append_32 : decode cX2_append 32 = .ok (.return_, 1) := by decide +kernel
theorem dX2_get_0 : decode cX2_get 0 = .ok (.iload_n 1, 1) := by decide +kernel
theorem dX2_get_1 : decode cX2_get 1 = .ok (.ifCond .lt 20, 3) := by decide +kernel
theorem dX2_get_4 : decode cX2_get 4 = .ok (.iload_n 1, 1) := by decide +kernel
theorem dX2_get_5 : decode cX2_get 5 = .ok (.aload_n 0, 1) := by decide +kernel
theorem dX2_get_6 : decode cX2_get 6 = .ok (.getfield 31, 3) := by decide +kernel
theorem dX2_get_9 : decode cX2_get 9 = .ok (.if_icmp .ge 12, 3) := by decide +kernel
theorem dX2_get_12 : decode cX2_get 12 = .ok (.aload_n 0, 1) := by decide +kernel
theorem dX2_get_13 : decode cX2_get 13 = .ok (.getfield 11, 3) := by decide +kernel
theorem dX2_get_16 : decode cX2_get 16 = .ok (.iload_n 1, 1) := by decide +kernel
theorem dX2_get_17 : decode cX2_get 17 = .ok (.aaload, 1) := by decide +kernel
theorem dX2_get_18 : decode cX2_get 18 = .ok (.goto 4, 3) := by decide +kernel
theorem dX2_get_21 : decode cX2_get 21 = .ok (.aconst_null, 1) := by decide +kernel
theorem dX2_get_22 : decode cX2_get 22 = .ok (.areturn, 1) := by decide +kernel
theorem dX3_init_0 : decode cX3_init 0 = .ok (.aload_n 0, 1) := by decide +kernel
theorem dX3_init_1 : decode cX3_init 1 = .ok (.invokespecial 3, 3) := by decide +kernel
theorem dX3_init_4 : decode cX3_init 4 = .ok (.aload_n 0, 1) := by decide +kernel
theorem dX3_init_5 : decode cX3_init 5 = .ok (.new 9, 3) := by decide +kernel
theorem dX3_init_8 : decode cX3_init 8 = .ok (.dup, 1) := by decide +kernel
theorem dX3_init_9 : decode cX3_init 9 = .ok (.invokespecial 11, 3) := by decide +kernel
theorem dX3_init_12 : decode cX3_init 12 = .ok (.putfield 12, 3) := by decide +kernel
theorem dX3_init_15 : decode cX3_init 15 = .ok (.aload_n 0, 1) := by decide +kernel
theorem dX3_init_16 : decode cX3_init 16 = .ok (.sipush 200, 3) := by decide +kernel
theorem dX3_init_19 : decode cX3_init 19 = .ok (.newarray .int, 2) := by decide +kernel
theorem dX3_init_21 : decode cX3_init 21 = .ok (.putfield 18, 3) := by decide +kernel
theorem dX3_init_24 : decode cX3_init 24 = .ok (.aload_n 0, 1) := by decide +kernel
theorem dX3_init_25 : decode cX3_init 25 = .ok (.iload_n 1, 1) := by decide +kernel
theorem dX3_init_26 : decode cX3_init 26 = .ok (.putfield 22, 3) := by decide +kernel
theorem dX3_init_29 : decode cX3_init 29 = .ok (.aload_n 0, 1) := by decide +kernel
theorem dX3_init_30 : decode cX3_init 30 = .ok (.iload_n 2, 1) := by decide +kernel
theorem dX3_init_31 : decode cX3_init 31 = .ok (.putfield 26, 3) := by decide +kernel
theorem dX3_init_34 : decode cX3_init 34 = .ok (.return_, 1) := by decide +kernel
theorem dX3_append_0 : decode cX3_append 0 = .ok (.aload_n 0, 1) := by decide +kernel
theorem dX3_append_1 : decode cX3_append 1 = .ok (.getfield 29, 3) := by decide +kernel
theorem dX3_append_4 : decode cX3_append 4 = .ok (.aload_n 0, 1) := by decide +kernel
theorem dX3_append_5 : decode cX3_append 5 = .ok (.getfield 18, 3) := by decide +kernel
theorem dX3_append_8 : decode cX3_append 8 = .ok (.arraylength, 1) := by decide +kernel
theorem dX3_append_9 : decode cX3_append 9 = .ok (.if_icmp .lt 5, 3) := by decide +kernel
theorem dX3_append_12 : decode cX3_append 12 = .ok (.iconst 0, 1) := by decide +kernel
theorem dX3_append_13 : decode cX3_append 13 = .ok (.ireturn, 1) := by decide +kernel
theorem dX3_append_14 : decode cX3_append 14 = .ok (.aload_n 0, 1) := by decide +kernel
theorem dX3_append_15 : decode cX3_append 15 = .ok (.getfield 18, 3) := by decide +kernel
theorem dX3_append_18 : decode cX3_append 18 = .ok (.aload_n 0, 1) := by decide +kernel
theorem dX3_append_19 : decode cX3_append 19 = .ok (.getfield 29, 3) := by decide +kernel
theorem dX3_append_22 : decode cX3_append 22 = .ok (.iload_n 1, 1) := by decide +kernel
theorem dX3_append_23 : decode cX3_append 23 = .ok (.iastore, 1) := by decide +kernel
theorem dX3_append_24 : decode cX3_append 24 = .ok (.aload_n 0, 1) := by decide +kernel
theorem dX3_append_25 : decode cX3_append 25 = .ok (.dup, 1) := by decide +kernel
theorem dX3_append_26 : decode cX3_append 26 = .ok (.getfield 29, 3) := by decide +kernel
theorem dX3_append_29 : decode cX3_append 29 = .ok (.iconst 1, 1) := by decide +kernel
theorem dX3_append_30 : decode cX3_append 30 = .ok (.iadd, 1) := by decide +kernel
theorem dX3_append_31 : decode cX3_append 31 = .ok (.putfield 29, 3) := by decide +kernel
theorem dX3_append_34 : decode cX3_append 34 = .ok (.iconst 1, 1) := by decide +kernel
theorem dX3_append_35 : decode cX3_append 35 = .ok (.ireturn, 1) := by decide +kernel
theorem dX3_entry_0 : decode cX3_entry 0 = .ok (.iload_n 1, 1) := by decide +kernel
theorem dX3_entry_1 : decode cX3_entry 1 = .ok (.ifCond .lt 20, 3) := by decide +kernel
theorem dX3_entry_4 : decode cX3_entry 4 = .ok (.iload_n 1, 1) := by decide +kernel
theorem dX3_entry_5 : decode cX3_entry 5 = .ok (.aload_n 0, 1) := by decide +kernel
theorem dX3_entry_6 : decode cX3_entry 6 = .ok (.getfield 29, 3) := by decide +kernel
theorem dX3_entry_9 : decode cX3_entry 9 = .ok (.if_icmp .ge 12, 3) := by decide +kernel
theorem dX3_entry_12 : decode cX3_entry 12 = .ok (.aload_n 0, 1) := by decide +kernel
theorem dX3_entry_13 : decode cX3_entry 13 = .ok (.getfield 18, 3) := by decide +kernel
theorem dX3_entry_16 : decode cX3_entry 16 = .ok (.iload_n 1, 1) := by decide +kernel
theorem dX3_entry_17 : decode cX3_entry 17 = .ok (.iaload, 1) := by decide +kernel
theorem dX3_entry_18 : decode cX3_entry 18 = .ok (.goto 4, 3) := by decide +kernel
theorem dX3_entry_21 : decode cX3_entry 21 = .ok (.iconst (-1), 1) := by decide +kernel
theorem dX3_entry_22 : decode cX3_entry 22 = .ok (.ireturn, 1) := by decide +kernel
theorem dX4_init_0 : decode cX4_init 0 = .ok (.aload_n 0, 1) := by decide +kernel
theorem dX4_init_1 : decode cX4_init 1 = .ok (.invokespecial 3, 3) := by decide +kernel
theorem dX4_init_4 : decode cX4_init 4 = .ok (.aload_n 0, 1) := by decide +kernel
theorem dX4_init_5 : decode cX4_init 5 = .ok (.bipush 10, 2) := by decide +kernel
theorem dX4_init_7 : decode cX4_init 7 = .ok (.newarray .int, 2) := by decide +kernel
theorem dX4_init_9 : decode cX4_init 9 = .ok (.putfield 9, 3) := by decide +kernel
theorem dX4_init_12 : decode cX4_init 12 = .ok (.return_, 1) := by decide +kernel
theorem dX4_isFull_0 : decode cX4_isFull 0 = .ok (.aload_n 0, 1) := by decide +kernel
theorem dX4_isFull_1 : decode cX4_isFull 1 = .ok (.getfield 15, 3) := by decide +kernel
theorem dX4_isFull_4 : decode cX4_isFull 4 = .ok (.aload_n 0, 1) := by decide +kernel
theorem dX4_isFull_5 : decode cX4_isFull 5 = .ok (.getfield 9, 3) := by decide +kernel
theorem dX4_isFull_8 : decode cX4_isFull 8 = .ok (.arraylength, 1) := by decide +kernel
theorem dX4_isFull_9 : decode cX4_isFull 9 = .ok (.if_icmp .lt 7, 3) := by decide +kernel
theorem dX4_isFull_12 : decode cX4_isFull 12 = .ok (.iconst 1, 1) := by decide +kernel
theorem dX4_isFull_13 : decode cX4_isFull 13 = .ok (.goto 4, 3) := by decide +kernel
theorem dX4_isFull_16 : decode cX4_isFull 16 = .ok (.iconst 0, 1) := by decide +kernel
theorem dX4_isFull_17 : decode cX4_isFull 17 = .ok (.ireturn, 1) := by decide +kernel
theorem dX4_append_0 : decode cX4_append 0 = .ok (.aload_n 0, 1) := by decide +kernel
theorem dX4_append_1 : decode cX4_append 1 = .ok (.invokevirtual 19, 3) := by decide +kernel
theorem dX4_append_4 : decode cX4_append 4 = .ok (.ifCond .ne 23, 3) := by decide +kernel
theorem dX4_append_7 : decode cX4_append 7 = .ok (.aload_n 0, 1) := by decide +kernel
theorem dX4_append_8 : decode cX4_append 8 = .ok (.getfield 9, 3) := by decide +kernel
theorem dX4_append_11 : decode cX4_append 11 = .ok (.aload_n 0, 1) := by decide +kernel
theorem dX4_append_12 : decode cX4_append 12 = .ok (.getfield 15, 3) := by decide +kernel
theorem dX4_append_15 : decode cX4_append 15 = .ok (.iload_n 1, 1) := by decide +kernel
theorem dX4_append_16 : decode cX4_append 16 = .ok (.iastore, 1) := by decide +kernel
theorem dX4_append_17 : decode cX4_append 17 = .ok (.aload_n 0, 1) := by decide +kernel
theorem dX4_append_18 : decode cX4_append 18 = .ok (.dup, 1) := by decide +kernel
theorem dX4_append_19 : decode cX4_append 19 = .ok (.getfield 15, 3) := by decide +kernel
theorem dX4_append_22 : decode cX4_append 22 = .ok (.iconst 1, 1) := by decide +kernel
theorem dX4_append_23 : decode cX4_append 23 = .ok (.iadd, 1) := by decide +kernel
theorem dX4_append_24 : decode cX4_append 24 = .ok (.putfield 15, 3) := by decide +kernel
theorem dX4_append_27 : decode cX4_append 27 = .ok (.return_, 1) := by decide +kernel
theorem dX4_get_0 : decode cX4_get 0 = .ok (.iload_n 1, 1) := by decide +kernel
theorem dX4_get_1 : decode cX4_get 1 = .ok (.ifCond .lt 20, 3) := by decide +kernel
theorem dX4_get_4 : decode cX4_get 4 = .ok (.iload_n 1, 1) := by decide +kernel
theorem dX4_get_5 : decode cX4_get 5 = .ok (.aload_n 0, 1) := by decide +kernel
theorem dX4_get_6 : decode cX4_get 6 = .ok (.getfield 15, 3) := by decide +kernel
theorem dX4_get_9 : decode cX4_get 9 = .ok (.if_icmp .ge 12, 3) := by decide +kernel
theorem dX4_get_12 : decode cX4_get 12 = .ok (.aload_n 0, 1) := by decide +kernel
theorem dX4_get_13 : decode cX4_get 13 = .ok (.getfield 9, 3) := by decide +kernel
theorem dX4_get_16 : decode cX4_get 16 = .ok (.iload_n 1, 1) := by decide +kernel
theorem dX4_get_17 : decode cX4_get 17 = .ok (.iaload, 1) := by decide +kernel
theorem dX4_get_18 : decode cX4_get 18 = .ok (.goto 4, 3) := by decide +kernel
theorem dX4_get_21 : decode cX4_get 21 = .ok (.iconst 0, 1) := by decide +kernel
theorem dX4_get_22 : decode cX4_get 22 = .ok (.ireturn, 1) := by decide +kernel
theorem dX5_init_0 : decode cX5_init 0 = .ok (.aload_n 0, 1) := by decide +kernel
theorem dX5_init_1 : decode cX5_init 1 = .ok (.invokespecial 1, 3) := by decide +kernel
theorem dX5_init_4 : decode cX5_init 4 = .ok (.aload_n 0, 1) := by decide +kernel
theorem dX5_init_5 : decode cX5_init 5 = .ok (.bipush 13, 2) := by decide +kernel
theorem dX5_init_7 : decode cX5_init 7 = .ok (.anewarray 9, 3) := by decide +kernel
theorem dX5_init_10 : decode cX5_init 10 = .ok (.putfield 11, 3) := by decide +kernel
theorem dX5_init_13 : decode cX5_init 13 = .ok (.aload_n 0, 1) := by decide +kernel
theorem dX5_init_14 : decode cX5_init 14 = .ok (.bipush 60, 2) := by decide +kernel
theorem dX5_init_16 : decode cX5_init 16 = .ok (.anewarray 15, 3) := by decide +kernel
theorem dX5_init_19 : decode cX5_init 19 = .ok (.putfield 17, 3) := by decide +kernel
theorem dX5_init_22 : decode cX5_init 22 = .ok (.aload_n 0, 1) := by decide +kernel
theorem dX5_init_23 : decode cX5_init 23 = .ok (.bipush 100, 2) := by decide +kernel
theorem dX5_init_25 : decode cX5_init 25 = .ok (.anewarray 21, 3) := by decide +kernel
theorem dX5_init_28 : decode cX5_init 28 = .ok (.putfield 23, 3) := by decide +kernel
theorem dX5_init_31 : decode cX5_init 31 = .ok (.aload_n 0, 1) := by decide +kernel
theorem dX5_init_32 : decode cX5_init 32 = .ok (.bipush 13, 2) := by decide +kernel
theorem dX5_init_34 : decode cX5_init 34 = .ok (.anewarray 9, 3) := by decide +kernel
theorem dX5_init_37 : decode cX5_init 37 = .ok (.putfield 27, 3) := by decide +kernel
theorem dX5_init_40 : decode cX5_init 40 = .ok (.aload_n 0, 1) := by decide +kernel
theorem dX5_init_41 : decode cX5_init 41 = .ok (.new 30, 3) := by decide +kernel
theorem dX5_init_44 : decode cX5_init 44 = .ok (.dup, 1) := by decide +kernel
theorem dX5_init_45 : decode cX5_init 45 = .ok (.invokespecial 32, 3) := by decide +kernel
theorem dX5_init_48 : decode cX5_init 48 = .ok (.putfield 33, 3) := by decide +kernel
theorem dX5_init_51 : decode cX5_init 51 = .ok (.aload_n 0, 1) := by decide +kernel
theorem dX5_init_52 : decode cX5_init 52 = .ok (.new 30, 3) := by decide +kernel
theorem dX5_init_55 : decode cX5_init 55 = .ok (.dup, 1) := by decide +kernel
theorem dX5_init_56 : decode cX5_init 56 = .ok (.invokespecial 32, 3) := by decide +kernel
theorem dX5_init_59 : decode cX5_init 59 = .ok (.putfield 37, 3) := by decide +kernel
theorem dX5_init_62 : decode cX5_init 62 = .ok (.aload_n 0, 1) := by decide +kernel
theorem dX5_init_63 : decode cX5_init 63 = .ok (.bipush 13, 2) := by decide +kernel
theorem dX5_init_65 : decode cX5_init 65 = .ok (.newarray .int, 2) := by decide +kernel
theorem dX5_init_67 : decode cX5_init 67 = .ok (.putfield 40, 3) := by decide +kernel
theorem dX5_init_70 : decode cX5_init 70 = .ok (.aload_n 0, 1) := by decide +kernel
theorem dX5_init_71 : decode cX5_init 71 = .ok (.getfield 11, 3) := by decide +kernel
theorem dX5_init_74 : decode cX5_init 74 = .ok (.iconst 0, 1) := by decide +kernel
theorem dX5_init_75 : decode cX5_init 75 = .ok (.new 9, 3) := by decide +kernel
theorem dX5_init_78 : decode cX5_init 78 = .ok (.dup, 1) := by decide +kernel
theorem dX5_init_79 : decode cX5_init 79 = .ok (.iconst 0, 1) := by decide +kernel
theorem dX5_init_80 : decode cX5_init 80 = .ok (.iconst (-1), 1) := by decide +kernel
theorem dX5_init_81 : decode cX5_init 81 = .ok (.invokespecial 44, 3) := by decide +kernel
theorem dX5_init_84 : decode cX5_init 84 = .ok (.aastore, 1) := by decide +kernel
theorem dX5_init_85 : decode cX5_init 85 = .ok (.aload_n 0, 1) := by decide +kernel
theorem dX5_init_86 : decode cX5_init 86 = .ok (.iconst 1, 1) := by decide +kernel
theorem dX5_init_87 : decode cX5_init 87 = .ok (.putfield 47, 3) := by decide +kernel
theorem dX5_init_90 : decode cX5_init 90 = .ok (.return_, 1) := by decide +kernel
theorem dX5_library_0 : decode cX5_library 0 = .ok (.iload_n 1, 1) := by decide +kernel
theorem dX5_library_1 : decode cX5_library 1 = .ok (.invokestatic 51, 3) := by decide +kernel
theorem dX5_library_4 : decode cX5_library 4 = .ok (.ifCond .ne 6, 3) := by decide +kernel
theorem dX5_library_7 : decode cX5_library 7 = .ok (.bipush (-4), 2) := by decide +kernel
theorem dX5_library_9 : decode cX5_library 9 = .ok (.ireturn, 1) := by decide +kernel
theorem dX5_library_10 : decode cX5_library 10 = .ok (.aload_n 0, 1) := by decide +kernel
theorem dX5_library_11 : decode cX5_library 11 = .ok (.getfield 47, 3) := by decide +kernel
theorem dX5_library_14 : decode cX5_library 14 = .ok (.bipush 12, 2) := by decide +kernel
theorem dX5_library_16 : decode cX5_library 16 = .ok (.if_icmp .le 5, 3) := by decide +kernel
theorem dX5_library_19 : decode cX5_library 19 = .ok (.iconst (-1), 1) := by decide +kernel
theorem dX5_library_20 : decode cX5_library 20 = .ok (.ireturn, 1) := by decide +kernel
theorem dX5_library_21 : decode cX5_library 21 = .ok (.aload_n 0, 1) := by decide +kernel
theorem dX5_library_22 : decode cX5_library 22 = .ok (.getfield 47, 3) := by decide +kernel
theorem dX5_library_25 : decode cX5_library 25 = .ok (.istore_n 2, 1) := by decide +kernel
theorem dX5_library_26 : decode cX5_library 26 = .ok (.aload_n 0, 1) := by decide +kernel
theorem dX5_library_27 : decode cX5_library 27 = .ok (.getfield 11, 3) := by decide +kernel
theorem dX5_library_30 : decode cX5_library 30 = .ok (.iload_n 2, 1) := by decide +kernel
theorem dX5_library_31 : decode cX5_library 31 = .ok (.new 9, 3) := by decide +kernel
theorem dX5_library_34 : decode cX5_library 34 = .ok (.dup, 1) := by decide +kernel
theorem dX5_library_35 : decode cX5_library 35 = .ok (.iload_n 2, 1) := by decide +kernel
theorem dX5_library_36 : decode cX5_library 36 = .ok (.iload_n 1, 1) := by decide +kernel
theorem dX5_library_37 : decode cX5_library 37 = .ok (.invokespecial 44, 3) := by decide +kernel
theorem dX5_library_40 : decode cX5_library 40 = .ok (.aastore, 1) := by decide +kernel
theorem dX5_library_41 : decode cX5_library 41 = .ok (.aload_n 0, 1) := by decide +kernel
theorem dX5_library_42 : decode cX5_library 42 = .ok (.dup, 1) := by decide +kernel
theorem dX5_library_43 : decode cX5_library 43 = .ok (.getfield 47, 3) := by decide +kernel
theorem dX5_library_46 : decode cX5_library 46 = .ok (.iconst 1, 1) := by decide +kernel
theorem dX5_library_47 : decode cX5_library 47 = .ok (.iadd, 1) := by decide +kernel
theorem dX5_library_48 : decode cX5_library 48 = .ok (.putfield 47, 3) := by decide +kernel
theorem dX5_library_51 : decode cX5_library 51 = .ok (.iload_n 2, 1) := by decide +kernel
theorem dX5_library_52 : decode cX5_library 52 = .ok (.ireturn, 1) := by decide +kernel
theorem dX5_word_0 : decode cX5_word 0 = .ok (.aload_n 0, 1) := by decide +kernel
theorem dX5_word_1 : decode cX5_word 1 = .ok (.iload_n 1, 1) := by decide +kernel
theorem dX5_word_2 : decode cX5_word 2 = .ok (.invokevirtual 55, 3) := by decide +kernel
theorem dX5_word_5 : decode cX5_word 5 = .ok (.astore_n 3, 1) := by decide +kernel
theorem dX5_word_6 : decode cX5_word 6 = .ok (.aload_n 3, 1) := by decide +kernel
theorem dX5_word_7 : decode cX5_word 7 = .ok (.ifnonnull 6, 3) := by decide +kernel
theorem dX5_word_10 : decode cX5_word 10 = .ok (.bipush (-2), 2) := by decide +kernel
theorem dX5_word_12 : decode cX5_word 12 = .ok (.ireturn, 1) := by decide +kernel
theorem dX5_word_13 : decode cX5_word 13 = .ok (.iload_n 2, 1) := by decide +kernel
theorem dX5_word_14 : decode cX5_word 14 = .ok (.invokestatic 59, 3) := by decide +kernel
theorem dX5_word_17 : decode cX5_word 17 = .ok (.ifCond .ne 6, 3) := by decide +kernel
theorem dX5_word_20 : decode cX5_word 20 = .ok (.bipush (-4), 2) := by decide +kernel
theorem dX5_word_22 : decode cX5_word 22 = .ok (.ireturn, 1) := by decide +kernel
theorem dX5_word_23 : decode cX5_word 23 = .ok (.aload_n 3, 1) := by decide +kernel
theorem dX5_word_24 : decode cX5_word 24 = .ok (.iload_n 2, 1) := by decide +kernel
theorem dX5_word_25 : decode cX5_word 25 = .ok (.invokevirtual 62, 3) := by decide +kernel
theorem dX5_word_28 : decode cX5_word 28 = .ok (.ifCond .eq 10, 3) := by decide +kernel
theorem dX5_word_31 : decode cX5_word 31 = .ok (.aload_n 3, 1) := by decide +kernel
theorem dX5_word_32 : decode cX5_word 32 = .ok (.getfield 65, 3) := by decide +kernel
theorem dX5_word_35 : decode cX5_word 35 = .ok (.goto 4, 3) := by decide +kernel
theorem dX5_word_38 : decode cX5_word 38 = .ok (.iconst (-1), 1) := by decide +kernel
theorem dX5_word_39 : decode cX5_word 39 = .ok (.ireturn, 1) := by decide +kernel
theorem dX5_copy_0 : decode cX5_copy 0 = .ok (.aload_n 0, 1) := by decide +kernel
theorem dX5_copy_1 : decode cX5_copy 1 = .ok (.iload_n 1, 1) := by decide +kernel
theorem dX5_copy_2 : decode cX5_copy 2 = .ok (.invokevirtual 55, 3) := by decide +kernel
theorem dX5_copy_5 : decode cX5_copy 5 = .ok (.astore 4, 2) := by decide +kernel
theorem dX5_copy_7 : decode cX5_copy 7 = .ok (.aload 4, 2) := by decide +kernel
theorem dX5_copy_9 : decode cX5_copy 9 = .ok (.ifnonnull 6, 3) := by decide +kernel
theorem dX5_copy_12 : decode cX5_copy 12 = .ok (.bipush (-2), 2) := by decide +kernel
theorem dX5_copy_14 : decode cX5_copy 14 = .ok (.ireturn, 1) := by decide +kernel
theorem dX5_copy_15 : decode cX5_copy 15 = .ok (.iload_n 2, 1) := by decide +kernel
theorem dX5_copy_16 : decode cX5_copy 16 = .ok (.invokestatic 51, 3) := by decide +kernel
theorem dX5_copy_19 : decode cX5_copy 19 = .ok (.ifCond .ne 6, 3) := by decide +kernel
theorem dX5_copy_22 : decode cX5_copy 22 = .ok (.bipush (-4), 2) := by decide +kernel
theorem dX5_copy_24 : decode cX5_copy 24 = .ok (.ireturn, 1) := by decide +kernel
theorem dX5_copy_25 : decode cX5_copy 25 = .ok (.aload_n 0, 1) := by decide +kernel
theorem dX5_copy_26 : decode cX5_copy 26 = .ok (.aload 4, 2) := by decide +kernel
theorem dX5_copy_28 : decode cX5_copy 28 = .ok (.iconst 1, 1) := by decide +kernel
theorem dX5_copy_29 : decode cX5_copy 29 = .ok (.iload_n 2, 1) := by decide +kernel
theorem dX5_copy_30 : decode cX5_copy 30 = .ok (.iload_n 3, 1) := by decide +kernel
theorem dX5_copy_31 : decode cX5_copy 31 = .ok (.invokevirtual 68, 3) := by decide +kernel
theorem dX5_copy_34 : decode cX5_copy 34 = .ok (.ireturn, 1) := by decide +kernel
theorem dX5_replace_0 : decode cX5_replace 0 = .ok (.aload_n 0, 1) := by decide +kernel
theorem dX5_replace_1 : decode cX5_replace 1 = .ok (.iload_n 1, 1) := by decide +kernel
theorem dX5_replace_2 : decode cX5_replace 2 = .ok (.invokevirtual 55, 3) := by decide +kernel
theorem dX5_replace_5 : decode cX5_replace 5 = .ok (.astore_n 2, 1) := by decide +kernel
theorem dX5_replace_6 : decode cX5_replace 6 = .ok (.aload_n 2, 1) := by decide +kernel
theorem dX5_replace_7 : decode cX5_replace 7 = .ok (.ifnonnull 8, 3) := by decide +kernel
theorem dX5_replace_10 : decode cX5_replace 10 = .ok (.bipush (-2), 2) := by decide +kernel
theorem dX5_replace_12 : decode cX5_replace 12 = .ok (.goto 11, 3) := by decide +kernel
theorem dX5_replace_15 : decode cX5_replace 15 = .ok (.aload_n 0, 1) := by decide +kernel
theorem dX5_replace_16 : decode cX5_replace 16 = .ok (.aload_n 2, 1) := by decide +kernel
theorem dX5_replace_17 : decode cX5_replace 17 = .ok (.iconst 0, 1) := by decide +kernel
theorem dX5_replace_18 : decode cX5_replace 18 = .ok (.iconst (-1), 1) := by decide +kernel
theorem dX5_replace_19 : decode cX5_replace 19 = .ok (.iconst 0, 1) := by decide +kernel
theorem dX5_replace_20 : decode cX5_replace 20 = .ok (.invokevirtual 68, 3) := by decide +kernel
theorem dX5_replace_23 : decode cX5_replace 23 = .ok (.ireturn, 1) := by decide +kernel
theorem dX5_off_0 : decode cX5_off 0 = .ok (.aload_n 0, 1) := by decide +kernel
theorem dX5_off_1 : decode cX5_off 1 = .ok (.iload_n 1, 1) := by decide +kernel
theorem dX5_off_2 : decode cX5_off 2 = .ok (.invokevirtual 55, 3) := by decide +kernel
theorem dX5_off_5 : decode cX5_off 5 = .ok (.astore_n 2, 1) := by decide +kernel
theorem dX5_off_6 : decode cX5_off 6 = .ok (.aload_n 2, 1) := by decide +kernel
theorem dX5_off_7 : decode cX5_off 7 = .ok (.ifnonnull 6, 3) := by decide +kernel
theorem dX5_off_10 : decode cX5_off 10 = .ok (.bipush (-2), 2) := by decide +kernel
theorem dX5_off_12 : decode cX5_off 12 = .ok (.ireturn, 1) := by decide +kernel
theorem dX5_off_13 : decode cX5_off 13 = .ok (.aload_n 2, 1) := by decide +kernel
theorem dX5_off_14 : decode cX5_off 14 = .ok (.bipush (-2), 2) := by decide +kernel
theorem dX5_off_16 : decode cX5_off 16 = .ok (.invokevirtual 62, 3) := by decide +kernel
theorem dX5_off_19 : decode cX5_off 19 = .ok (.ifCond .eq 10, 3) := by decide +kernel
theorem dX5_off_22 : decode cX5_off 22 = .ok (.aload_n 2, 1) := by decide +kernel
theorem dX5_off_23 : decode cX5_off 23 = .ok (.getfield 65, 3) := by decide +kernel
theorem dX5_off_26 : decode cX5_off 26 = .ok (.goto 4, 3) := by decide +kernel
theorem dX5_off_29 : decode cX5_off 29 = .ok (.iconst (-1), 1) := by decide +kernel
theorem dX5_off_30 : decode cX5_off 30 = .ok (.ireturn, 1) := by decide +kernel
theorem dX5_phrase_0 : decode cX5_phrase 0 = .ok (.aload_n 0, 1) := by decide +kernel
theorem dX5_phrase_1 : decode cX5_phrase 1 = .ok (.iload_n 1, 1) := by decide +kernel
theorem dX5_phrase_2 : decode cX5_phrase 2 = .ok (.invokevirtual 72, 3) := by decide +kernel
theorem dX5_phrase_5 : decode cX5_phrase 5 = .ok (.astore 4, 2) := by decide +kernel
theorem dX5_phrase_7 : decode cX5_phrase 7 = .ok (.aload 4, 2) := by decide +kernel
theorem dX5_phrase_9 : decode cX5_phrase 9 = .ok (.ifnonnull 6, 3) := by decide +kernel
theorem dX5_phrase_12 : decode cX5_phrase 12 = .ok (.bipush (-2), 2) := by decide +kernel
theorem dX5_phrase_14 : decode cX5_phrase 14 = .ok (.ireturn, 1) := by decide +kernel
theorem dX5_phrase_15 : decode cX5_phrase 15 = .ok (.iload_n 2, 1) := by decide +kernel
theorem dX5_phrase_16 : decode cX5_phrase 16 = .ok (.ifCond .lt 15, 3) := by decide +kernel
theorem dX5_phrase_19 : decode cX5_phrase 19 = .ok (.iload_n 2, 1) := by decide +kernel
theorem dX5_phrase_20 : decode cX5_phrase 20 = .ok (.iconst 2, 1) := by decide +kernel
theorem dX5_phrase_21 : decode cX5_phrase 21 = .ok (.if_icmp .gt 10, 3) := by decide +kernel
theorem dX5_phrase_24 : decode cX5_phrase 24 = .ok (.iload_n 3, 1) := by decide +kernel
theorem dX5_phrase_25 : decode cX5_phrase 25 = .ok (.invokestatic 76, 3) := by decide +kernel
theorem dX5_phrase_28 : decode cX5_phrase 28 = .ok (.ifCond .ne 6, 3) := by decide +kernel
theorem dX5_phrase_31 : decode cX5_phrase 31 = .ok (.bipush (-4), 2) := by decide +kernel
theorem dX5_phrase_33 : decode cX5_phrase 33 = .ok (.ireturn, 1) := by decide +kernel
theorem dX5_phrase_34 : decode cX5_phrase 34 = .ok (.aload_n 0, 1) := by decide +kernel
theorem dX5_phrase_35 : decode cX5_phrase 35 = .ok (.getfield 79, 3) := by decide +kernel
theorem dX5_phrase_38 : decode cX5_phrase 38 = .ok (.bipush 100, 2) := by decide +kernel
theorem dX5_phrase_40 : decode cX5_phrase 40 = .ok (.if_icmp .ge 13, 3) := by decide +kernel
theorem dX5_phrase_43 : decode cX5_phrase 43 = .ok (.aload 4, 2) := by decide +kernel
theorem dX5_phrase_45 : decode cX5_phrase 45 = .ok (.getfield 82, 3) := by decide +kernel
theorem dX5_phrase_48 : decode cX5_phrase 48 = .ok (.bipush 8, 2) := by decide +kernel
theorem dX5_phrase_50 : decode cX5_phrase 50 = .ok (.if_icmp .lt 5, 3) := by decide +kernel
theorem dX5_phrase_53 : decode cX5_phrase 53 = .ok (.iconst (-1), 1) := by decide +kernel
theorem dX5_phrase_54 : decode cX5_phrase 54 = .ok (.ireturn, 1) := by decide +kernel
theorem dX5_phrase_55 : decode cX5_phrase 55 = .ok (.new 21, 3) := by decide +kernel
theorem dX5_phrase_58 : decode cX5_phrase 58 = .ok (.dup, 1) := by decide +kernel
theorem dX5_phrase_59 : decode cX5_phrase 59 = .ok (.aload_n 0, 1) := by decide +kernel
theorem dX5_phrase_60 : decode cX5_phrase 60 = .ok (.getfield 79, 3) := by decide +kernel
theorem dX5_phrase_63 : decode cX5_phrase 63 = .ok (.iconst 1, 1) := by decide +kernel
theorem dX5_phrase_64 : decode cX5_phrase 64 = .ok (.iadd, 1) := by decide +kernel
theorem dX5_phrase_65 : decode cX5_phrase 65 = .ok (.iload_n 2, 1) := by decide +kernel
theorem dX5_phrase_66 : decode cX5_phrase 66 = .ok (.invokespecial 83, 3) := by decide +kernel
theorem dX5_phrase_69 : decode cX5_phrase 69 = .ok (.astore 5, 2) := by decide +kernel
theorem dX5_phrase_71 : decode cX5_phrase 71 = .ok (.aload 5, 2) := by decide +kernel
theorem dX5_phrase_73 : decode cX5_phrase 73 = .ok (.getfield 84, 3) := by decide +kernel
theorem dX5_phrase_76 : decode cX5_phrase 76 = .ok (.iload_n 3, 1) := by decide +kernel
theorem dX5_phrase_77 : decode cX5_phrase 77 = .ok (.invokevirtual 88, 3) := by decide +kernel
theorem dX5_phrase_80 : decode cX5_phrase 80 = .ok (.aload 4, 2) := by decide +kernel
theorem dX5_phrase_82 : decode cX5_phrase 82 = .ok (.aload 5, 2) := by decide +kernel
theorem dX5_phrase_84 : decode cX5_phrase 84 = .ok (.invokevirtual 93, 3) := by decide +kernel
theorem dX5_phrase_87 : decode cX5_phrase 87 = .ok (.aload_n 0, 1) := by decide +kernel
theorem dX5_phrase_88 : decode cX5_phrase 88 = .ok (.getfield 23, 3) := by decide +kernel
theorem dX5_phrase_91 : decode cX5_phrase 91 = .ok (.aload_n 0, 1) := by decide +kernel
theorem dX5_phrase_92 : decode cX5_phrase 92 = .ok (.getfield 79, 3) := by decide +kernel
theorem dX5_phrase_95 : decode cX5_phrase 95 = .ok (.aload 5, 2) := by decide +kernel
theorem dX5_phrase_97 : decode cX5_phrase 97 = .ok (.aastore, 1) := by decide +kernel
theorem dX5_phrase_98 : decode cX5_phrase 98 = .ok (.aload_n 0, 1) := by decide +kernel
theorem dX5_phrase_99 : decode cX5_phrase 99 = .ok (.dup, 1) := by decide +kernel
theorem dX5_phrase_100 : decode cX5_phrase 100 = .ok (.getfield 79, 3) := by decide +kernel
theorem dX5_phrase_103 : decode cX5_phrase 103 = .ok (.iconst 1, 1) := by decide +kernel
theorem dX5_phrase_104 : decode cX5_phrase 104 = .ok (.iadd, 1) := by decide +kernel
theorem dX5_phrase_105 : decode cX5_phrase 105 = .ok (.putfield 79, 3) := by decide +kernel
theorem dX5_phrase_108 : decode cX5_phrase 108 = .ok (.aload 5, 2) := by decide +kernel
theorem dX5_phrase_110 : decode cX5_phrase 110 = .ok (.getfield 96, 3) := by decide +kernel
theorem dX5_phrase_113 : decode cX5_phrase 113 = .ok (.ireturn, 1) := by decide +kernel
theorem dX5_from_0 : decode cX5_from 0 = .ok (.aload_n 0, 1) := by decide +kernel
theorem dX5_from_1 : decode cX5_from 1 = .ok (.iload_n 1, 1) := by decide +kernel
theorem dX5_from_2 : decode cX5_from 2 = .ok (.invokevirtual 99, 3) := by decide +kernel
theorem dX5_from_5 : decode cX5_from 5 = .ok (.astore_n 3, 1) := by decide +kernel
theorem dX5_from_6 : decode cX5_from 6 = .ok (.aload_n 3, 1) := by decide +kernel
theorem dX5_from_7 : decode cX5_from 7 = .ok (.ifnonnull 6, 3) := by decide +kernel
theorem dX5_from_10 : decode cX5_from 10 = .ok (.bipush (-2), 2) := by decide +kernel
theorem dX5_from_12 : decode cX5_from 12 = .ok (.ireturn, 1) := by decide +kernel
theorem dX5_from_13 : decode cX5_from 13 = .ok (.iload_n 2, 1) := by decide +kernel
theorem dX5_from_14 : decode cX5_from 14 = .ok (.invokestatic 59, 3) := by decide +kernel
theorem dX5_from_17 : decode cX5_from 17 = .ok (.ifCond .ne 6, 3) := by decide +kernel
theorem dX5_from_20 : decode cX5_from 20 = .ok (.bipush (-4), 2) := by decide +kernel
theorem dX5_from_22 : decode cX5_from 22 = .ok (.ireturn, 1) := by decide +kernel
theorem dX5_from_23 : decode cX5_from 23 = .ok (.aload_n 3, 1) := by decide +kernel
theorem dX5_from_24 : decode cX5_from 24 = .ok (.getfield 103, 3) := by decide +kernel
theorem dX5_from_27 : decode cX5_from 27 = .ok (.ifCond .ne 13, 3) := by decide +kernel
theorem dX5_from_30 : decode cX5_from 30 = .ok (.aload_n 3, 1) := by decide +kernel
theorem dX5_from_31 : decode cX5_from 31 = .ok (.getfield 84, 3) := by decide +kernel
theorem dX5_from_34 : decode cX5_from 34 = .ok (.invokevirtual 106, 3) := by decide +kernel
theorem dX5_from_37 : decode cX5_from 37 = .ok (.ifCond .eq 5, 3) := by decide +kernel
theorem dX5_from_40 : decode cX5_from 40 = .ok (.iconst (-1), 1) := by decide +kernel
theorem dX5_from_41 : decode cX5_from 41 = .ok (.ireturn, 1) := by decide +kernel
theorem dX5_from_42 : decode cX5_from 42 = .ok (.iload_n 2, 1) := by decide +kernel
theorem dX5_from_43 : decode cX5_from 43 = .ok (.ifCond .le 11, 3) := by decide +kernel
theorem dX5_from_46 : decode cX5_from 46 = .ok (.aload_n 3, 1) := by decide +kernel
theorem dX5_from_47 : decode cX5_from 47 = .ok (.getfield 84, 3) := by decide +kernel
theorem dX5_from_50 : decode cX5_from 50 = .ok (.iload_n 2, 1) := by decide +kernel
theorem dX5_from_51 : decode cX5_from 51 = .ok (.invokevirtual 88, 3) := by decide +kernel
theorem dX5_from_54 : decode cX5_from 54 = .ok (.aload_n 3, 1) := by decide +kernel
theorem dX5_from_55 : decode cX5_from 55 = .ok (.getfield 84, 3) := by decide +kernel
theorem dX5_from_58 : decode cX5_from 58 = .ok (.getfield 110, 3) := by decide +kernel
theorem dX5_from_61 : decode cX5_from 61 = .ok (.ireturn, 1) := by decide +kernel
theorem dX5_to_0 : decode cX5_to 0 = .ok (.aload_n 0, 1) := by decide +kernel
theorem dX5_to_1 : decode cX5_to 1 = .ok (.iload_n 1, 1) := by decide +kernel
theorem dX5_to_2 : decode cX5_to 2 = .ok (.invokevirtual 99, 3) := by decide +kernel
theorem dX5_to_5 : decode cX5_to 5 = .ok (.astore_n 3, 1) := by decide +kernel
theorem dX5_to_6 : decode cX5_to 6 = .ok (.aload_n 3, 1) := by decide +kernel
theorem dX5_to_7 : decode cX5_to 7 = .ok (.ifnonnull 6, 3) := by decide +kernel
theorem dX5_to_10 : decode cX5_to 10 = .ok (.bipush (-2), 2) := by decide +kernel
theorem dX5_to_12 : decode cX5_to 12 = .ok (.ireturn, 1) := by decide +kernel
theorem dX5_to_13 : decode cX5_to 13 = .ok (.aload_n 3, 1) := by decide +kernel
theorem dX5_to_14 : decode cX5_to 14 = .ok (.getfield 103, 3) := by decide +kernel
theorem dX5_to_17 : decode cX5_to 17 = .ok (.ifCond .eq 7, 3) := by decide +kernel
theorem dX5_to_20 : decode cX5_to 20 = .ok (.iconst 1, 1) := by decide +kernel
theorem dX5_to_21 : decode cX5_to 21 = .ok (.goto 4, 3) := by decide +kernel
theorem dX5_to_24 : decode cX5_to 24 = .ok (.iconst 0, 1) := by decide +kernel
theorem dX5_to_25 : decode cX5_to 25 = .ok (.istore 4, 2) := by decide +kernel
theorem dX5_to_27 : decode cX5_to 27 = .ok (.iload 4, 2) := by decide +kernel
theorem dX5_to_29 : decode cX5_to 29 = .ok (.ifCond .eq 13, 3) := by decide +kernel
theorem dX5_to_32 : decode cX5_to 32 = .ok (.iload_n 2, 1) := by decide +kernel
theorem dX5_to_33 : decode cX5_to 33 = .ok (.invokestatic 76, 3) := by decide +kernel
theorem dX5_to_36 : decode cX5_to 36 = .ok (.ifCond .ne 16, 3) := by decide +kernel
theorem dX5_to_39 : decode cX5_to 39 = .ok (.goto 10, 3) := by decide +kernel
theorem dX5_to_42 : decode cX5_to 42 = .ok (.iload_n 2, 1) := by decide +kernel
theorem dX5_to_43 : decode cX5_to 43 = .ok (.invokestatic 59, 3) := by decide +kernel
theorem dX5_to_46 : decode cX5_to 46 = .ok (.ifCond .ne 6, 3) := by decide +kernel
theorem dX5_to_49 : decode cX5_to 49 = .ok (.bipush (-4), 2) := by decide +kernel
theorem dX5_to_51 : decode cX5_to 51 = .ok (.ireturn, 1) := by decide +kernel
theorem dX5_to_52 : decode cX5_to 52 = .ok (.aload_n 3, 1) := by decide +kernel
theorem dX5_to_53 : decode cX5_to 53 = .ok (.getfield 111, 3) := by decide +kernel
theorem dX5_to_56 : decode cX5_to 56 = .ok (.invokevirtual 106, 3) := by decide +kernel
theorem dX5_to_59 : decode cX5_to 59 = .ok (.ifCond .ne 18, 3) := by decide +kernel
theorem dX5_to_62 : decode cX5_to 62 = .ok (.iload 4, 2) := by decide +kernel
theorem dX5_to_64 : decode cX5_to 64 = .ok (.ifCond .eq 15, 3) := by decide +kernel
theorem dX5_to_67 : decode cX5_to 67 = .ok (.aload_n 3, 1) := by decide +kernel
theorem dX5_to_68 : decode cX5_to 68 = .ok (.getfield 111, 3) := by decide +kernel
theorem dX5_to_71 : decode cX5_to 71 = .ok (.getfield 110, 3) := by decide +kernel
theorem dX5_to_74 : decode cX5_to 74 = .ok (.ifCond .le 5, 3) := by decide +kernel
theorem dX5_to_77 : decode cX5_to 77 = .ok (.iconst (-1), 1) := by decide +kernel
theorem dX5_to_78 : decode cX5_to 78 = .ok (.ireturn, 1) := by decide +kernel
theorem dX5_to_79 : decode cX5_to 79 = .ok (.aload_n 3, 1) := by decide +kernel
theorem dX5_to_80 : decode cX5_to 80 = .ok (.getfield 111, 3) := by decide +kernel
theorem dX5_to_83 : decode cX5_to 83 = .ok (.iload_n 2, 1) := by decide +kernel
theorem dX5_to_84 : decode cX5_to 84 = .ok (.invokevirtual 88, 3) := by decide +kernel
theorem dX5_to_87 : decode cX5_to 87 = .ok (.aload_n 3, 1) := by decide +kernel
theorem dX5_to_88 : decode cX5_to 88 = .ok (.getfield 111, 3) := by decide +kernel
theorem dX5_to_91 : decode cX5_to 91 = .ok (.getfield 110, 3) := by decide +kernel
theorem dX5_to_94 : decode cX5_to 94 = .ok (.ireturn, 1) := by decide +kernel
theorem dX5_run_0 : decode cX5_run 0 = .ok (.aload_n 0, 1) := by decide +kernel
theorem dX5_run_1 : decode cX5_run 1 = .ok (.getfield 37, 3) := by decide +kernel
theorem dX5_run_4 : decode cX5_run 4 = .ok (.invokevirtual 114, 3) := by decide +kernel
theorem dX5_run_7 : decode cX5_run 7 = .ok (.aload_n 0, 1) := by decide +kernel
theorem dX5_run_8 : decode cX5_run 8 = .ok (.iconst 0, 1) := by decide +kernel
theorem dX5_run_9 : decode cX5_run 9 = .ok (.putfield 117, 3) := by decide +kernel
theorem dX5_run_12 : decode cX5_run 12 = .ok (.aload_n 0, 1) := by decide +kernel
theorem dX5_run_13 : decode cX5_run 13 = .ok (.iconst 0, 1) := by decide +kernel
theorem dX5_run_14 : decode cX5_run 14 = .ok (.putfield 120, 3) := by decide +kernel
theorem dX5_run_17 : decode cX5_run 17 = .ok (.aload_n 0, 1) := by decide +kernel
theorem dX5_run_18 : decode cX5_run 18 = .ok (.iconst 0, 1) := by decide +kernel
theorem dX5_run_19 : decode cX5_run 19 = .ok (.putfield 123, 3) := by decide +kernel
theorem dX5_run_22 : decode cX5_run 22 = .ok (.aload_n 0, 1) := by decide +kernel
theorem dX5_run_23 : decode cX5_run 23 = .ok (.iconst 0, 1) := by decide +kernel
theorem dX5_run_24 : decode cX5_run 24 = .ok (.invokevirtual 55, 3) := by decide +kernel
theorem dX5_run_27 : decode cX5_run 27 = .ok (.astore_n 1, 1) := by decide +kernel
theorem dX5_run_28 : decode cX5_run 28 = .ok (.aload_n 1, 1) := by decide +kernel
theorem dX5_run_29 : decode cX5_run 29 = .ok (.ifnonnull 11, 3) := by decide +kernel
theorem dX5_run_32 : decode cX5_run 32 = .ok (.aload_n 0, 1) := by decide +kernel
theorem dX5_run_33 : decode cX5_run 33 = .ok (.getfield 37, 3) := by decide +kernel
theorem dX5_run_36 : decode cX5_run 36 = .ok (.getfield 126, 3) := by decide +kernel
theorem dX5_run_39 : decode cX5_run 39 = .ok (.ireturn, 1) := by decide +kernel
theorem dX5_run_40 : decode cX5_run 40 = .ok (.aload_n 0, 1) := by decide +kernel
theorem dX5_run_41 : decode cX5_run 41 = .ok (.aload_n 1, 1) := by decide +kernel
theorem dX5_run_42 : decode cX5_run 42 = .ok (.iconst 0, 1) := by decide +kernel
theorem dX5_run_43 : decode cX5_run 43 = .ok (.iconst 0, 1) := by decide +kernel
theorem dX5_run_44 : decode cX5_run 44 = .ok (.invokevirtual 127, 3) := by decide +kernel
theorem dX5_run_47 : decode cX5_run 47 = .ok (.istore_n 2, 1) := by decide +kernel
theorem dX5_run_48 : decode cX5_run 48 = .ok (.iload_n 2, 1) := by decide +kernel
theorem dX5_run_49 : decode cX5_run 49 = .ok (.ifCond .ne 12, 3) := by decide +kernel
theorem dX5_run_52 : decode cX5_run 52 = .ok (.aload_n 0, 1) := by decide +kernel
theorem dX5_run_53 : decode cX5_run 53 = .ok (.aload_n 1, 1) := by decide +kernel
theorem dX5_run_54 : decode cX5_run 54 = .ok (.getfield 131, 3) := by decide +kernel
theorem dX5_run_57 : decode cX5_run 57 = .ok (.invokevirtual 134, 3) := by decide +kernel
theorem dX5_run_60 : decode cX5_run 60 = .ok (.istore_n 2, 1) := by decide +kernel
theorem dX5_run_61 : decode cX5_run 61 = .ok (.iload_n 2, 1) := by decide +kernel
theorem dX5_run_62 : decode cX5_run 62 = .ok (.ifCond .eq 12, 3) := by decide +kernel
theorem dX5_run_65 : decode cX5_run 65 = .ok (.aload_n 0, 1) := by decide +kernel
theorem dX5_run_66 : decode cX5_run 66 = .ok (.getfield 37, 3) := by decide +kernel
theorem dX5_run_69 : decode cX5_run 69 = .ok (.invokevirtual 114, 3) := by decide +kernel
theorem dX5_run_72 : decode cX5_run 72 = .ok (.iload_n 2, 1) := by decide +kernel
theorem dX5_run_73 : decode cX5_run 73 = .ok (.ireturn, 1) := by decide +kernel
theorem dX5_run_74 : decode cX5_run 74 = .ok (.aload_n 0, 1) := by decide +kernel
theorem dX5_run_75 : decode cX5_run 75 = .ok (.getfield 37, 3) := by decide +kernel
theorem dX5_run_78 : decode cX5_run 78 = .ok (.getfield 126, 3) := by decide +kernel
theorem dX5_run_81 : decode cX5_run 81 = .ok (.ireturn, 1) := by decide +kernel
theorem dX5_at_0 : decode cX5_at 0 = .ok (.aload_n 0, 1) := by decide +kernel
theorem dX5_at_1 : decode cX5_at 1 = .ok (.getfield 37, 3) := by decide +kernel
theorem dX5_at_4 : decode cX5_at 4 = .ok (.iload_n 1, 1) := by decide +kernel
theorem dX5_at_5 : decode cX5_at 5 = .ok (.invokevirtual 138, 3) := by decide +kernel
theorem dX5_at_8 : decode cX5_at 8 = .ok (.ifCond .ne 11, 3) := by decide +kernel
theorem dX5_at_11 : decode cX5_at 11 = .ok (.new 141, 3) := by decide +kernel
theorem dX5_at_14 : decode cX5_at 14 = .ok (.dup, 1) := by decide +kernel
theorem dX5_at_15 : decode cX5_at 15 = .ok (.invokespecial 143, 3) := by decide +kernel
theorem dX5_at_18 : decode cX5_at 18 = .ok (.athrow, 1) := by decide +kernel
theorem dX5_at_19 : decode cX5_at 19 = .ok (.aload_n 0, 1) := by decide +kernel
theorem dX5_at_20 : decode cX5_at 20 = .ok (.getfield 37, 3) := by decide +kernel
theorem dX5_at_23 : decode cX5_at 23 = .ok (.iload_n 1, 1) := by decide +kernel
theorem dX5_at_24 : decode cX5_at 24 = .ok (.invokevirtual 144, 3) := by decide +kernel
theorem dX5_at_27 : decode cX5_at 27 = .ok (.ireturn, 1) := by decide +kernel
theorem dX5_place_0 : decode cX5_place 0 = .ok (.aload_n 0, 1) := by decide +kernel
theorem dX5_place_1 : decode cX5_place 1 = .ok (.getfield 37, 3) := by decide +kernel
theorem dX5_place_4 : decode cX5_place 4 = .ok (.iload_n 1, 1) := by decide +kernel
theorem dX5_place_5 : decode cX5_place 5 = .ok (.invokevirtual 138, 3) := by decide +kernel
theorem dX5_place_8 : decode cX5_place 8 = .ok (.ifCond .ne 5, 3) := by decide +kernel
theorem dX5_place_11 : decode cX5_place 11 = .ok (.iconst (-1), 1) := by decide +kernel
theorem dX5_place_12 : decode cX5_place 12 = .ok (.ireturn, 1) := by decide +kernel
theorem dX5_place_13 : decode cX5_place 13 = .ok (.iload_n 2, 1) := by decide +kernel
theorem dX5_place_14 : decode cX5_place 14 = .ok (.tableswitch 92 0 4 #[34, 44, 54, 64, 82], 34) := by decide +kernel
theorem dX5_place_48 : decode cX5_place 48 = .ok (.aload_n 0, 1) := by decide +kernel
theorem dX5_place_49 : decode cX5_place 49 = .ok (.getfield 37, 3) := by decide +kernel
theorem dX5_place_52 : decode cX5_place 52 = .ok (.getfield 148, 3) := by decide +kernel
theorem dX5_place_55 : decode cX5_place 55 = .ok (.iload_n 1, 1) := by decide +kernel
theorem dX5_place_56 : decode cX5_place 56 = .ok (.iaload, 1) := by decide +kernel
theorem dX5_place_57 : decode cX5_place 57 = .ok (.ireturn, 1) := by decide +kernel
theorem dX5_place_58 : decode cX5_place 58 = .ok (.aload_n 0, 1) := by decide +kernel
theorem dX5_place_59 : decode cX5_place 59 = .ok (.getfield 37, 3) := by decide +kernel
theorem dX5_place_62 : decode cX5_place 62 = .ok (.getfield 150, 3) := by decide +kernel
theorem dX5_place_65 : decode cX5_place 65 = .ok (.iload_n 1, 1) := by decide +kernel
theorem dX5_place_66 : decode cX5_place 66 = .ok (.iaload, 1) := by decide +kernel
theorem dX5_place_67 : decode cX5_place 67 = .ok (.ireturn, 1) := by decide +kernel
theorem dX5_place_68 : decode cX5_place 68 = .ok (.aload_n 0, 1) := by decide +kernel
theorem dX5_place_69 : decode cX5_place 69 = .ok (.getfield 37, 3) := by decide +kernel
theorem dX5_place_72 : decode cX5_place 72 = .ok (.getfield 153, 3) := by decide +kernel
theorem dX5_place_75 : decode cX5_place 75 = .ok (.iload_n 1, 1) := by decide +kernel
theorem dX5_place_76 : decode cX5_place 76 = .ok (.iaload, 1) := by decide +kernel
theorem dX5_place_77 : decode cX5_place 77 = .ok (.ireturn, 1) := by decide +kernel
theorem dX5_place_78 : decode cX5_place 78 = .ok (.aload_n 0, 1) := by decide +kernel
theorem dX5_place_79 : decode cX5_place 79 = .ok (.getfield 37, 3) := by decide +kernel
theorem dX5_place_82 : decode cX5_place 82 = .ok (.getfield 155, 3) := by decide +kernel
theorem dX5_place_85 : decode cX5_place 85 = .ok (.iload_n 1, 1) := by decide +kernel
theorem dX5_place_86 : decode cX5_place 86 = .ok (.baload, 1) := by decide +kernel
theorem dX5_place_87 : decode cX5_place 87 = .ok (.ifCond .eq 7, 3) := by decide +kernel
theorem dX5_place_90 : decode cX5_place 90 = .ok (.iconst 1, 1) := by decide +kernel
theorem dX5_place_91 : decode cX5_place 91 = .ok (.goto 4, 3) := by decide +kernel
theorem dX5_place_94 : decode cX5_place 94 = .ok (.iconst 0, 1) := by decide +kernel
theorem dX5_place_95 : decode cX5_place 95 = .ok (.ireturn, 1) := by decide +kernel
theorem dX5_place_96 : decode cX5_place 96 = .ok (.aload_n 0, 1) := by decide +kernel
theorem dX5_place_97 : decode cX5_place 97 = .ok (.getfield 37, 3) := by decide +kernel
theorem dX5_place_100 : decode cX5_place 100 = .ok (.getfield 159, 3) := by decide +kernel
theorem dX5_place_103 : decode cX5_place 103 = .ok (.iload_n 1, 1) := by decide +kernel
theorem dX5_place_104 : decode cX5_place 104 = .ok (.iaload, 1) := by decide +kernel
theorem dX5_place_105 : decode cX5_place 105 = .ok (.ireturn, 1) := by decide +kernel
theorem dX5_place_106 : decode cX5_place 106 = .ok (.iconst (-1), 1) := by decide +kernel
theorem dX5_place_107 : decode cX5_place 107 = .ok (.ireturn, 1) := by decide +kernel
theorem dX5_ring_0 : decode cX5_ring 0 = .ok (.iload_n 1, 1) := by decide +kernel
theorem dX5_ring_1 : decode cX5_ring 1 = .ok (.ifCond .lt 29, 3) := by decide +kernel
theorem dX5_ring_4 : decode cX5_ring 4 = .ok (.iload_n 1, 1) := by decide +kernel
theorem dX5_ring_5 : decode cX5_ring 5 = .ok (.aload_n 0, 1) := by decide +kernel
theorem dX5_ring_6 : decode cX5_ring 6 = .ok (.getfield 117, 3) := by decide +kernel
theorem dX5_ring_9 : decode cX5_ring 9 = .ok (.if_icmp .ge 21, 3) := by decide +kernel
theorem dX5_ring_12 : decode cX5_ring 12 = .ok (.iload_n 1, 1) := by decide +kernel
theorem dX5_ring_13 : decode cX5_ring 13 = .ok (.aload_n 0, 1) := by decide +kernel
theorem dX5_ring_14 : decode cX5_ring 14 = .ok (.getfield 40, 3) := by decide +kernel
theorem dX5_ring_17 : decode cX5_ring 17 = .ok (.arraylength, 1) := by decide +kernel
theorem dX5_ring_18 : decode cX5_ring 18 = .ok (.if_icmp .ge 12, 3) := by decide +kernel
theorem dX5_ring_21 : decode cX5_ring 21 = .ok (.aload_n 0, 1) := by decide +kernel
theorem dX5_ring_22 : decode cX5_ring 22 = .ok (.getfield 40, 3) := by decide +kernel
theorem dX5_ring_25 : decode cX5_ring 25 = .ok (.iload_n 1, 1) := by decide +kernel
theorem dX5_ring_26 : decode cX5_ring 26 = .ok (.iaload, 1) := by decide +kernel
theorem dX5_ring_27 : decode cX5_ring 27 = .ok (.goto 4, 3) := by decide +kernel
theorem dX5_ring_30 : decode cX5_ring 30 = .ok (.iconst (-1), 1) := by decide +kernel
theorem dX5_ring_31 : decode cX5_ring 31 = .ok (.ireturn, 1) := by decide +kernel
theorem dX5_count_0 : decode cX5_count 0 = .ok (.iload_n 1, 1) := by decide +kernel
theorem dX5_count_1 : decode cX5_count 1 = .ok (.tableswitch 62 0 4 #[35, 42, 47, 52, 57], 35) := by decide +kernel
theorem dX5_count_36 : decode cX5_count 36 = .ok (.aload_n 0, 1) := by decide +kernel
theorem dX5_count_37 : decode cX5_count 37 = .ok (.getfield 47, 3) := by decide +kernel
theorem dX5_count_40 : decode cX5_count 40 = .ok (.iconst 1, 1) := by decide +kernel
theorem dX5_count_41 : decode cX5_count 41 = .ok (.isub, 1) := by decide +kernel
theorem dX5_count_42 : decode cX5_count 42 = .ok (.ireturn, 1) := by decide +kernel
theorem dX5_count_43 : decode cX5_count 43 = .ok (.aload_n 0, 1) := by decide +kernel
theorem dX5_count_44 : decode cX5_count 44 = .ok (.getfield 162, 3) := by decide +kernel
theorem dX5_count_47 : decode cX5_count 47 = .ok (.ireturn, 1) := by decide +kernel
theorem dX5_count_48 : decode cX5_count 48 = .ok (.aload_n 0, 1) := by decide +kernel
theorem dX5_count_49 : decode cX5_count 49 = .ok (.getfield 79, 3) := by decide +kernel
theorem dX5_count_52 : decode cX5_count 52 = .ok (.ireturn, 1) := by decide +kernel
theorem dX5_count_53 : decode cX5_count 53 = .ok (.aload_n 0, 1) := by decide +kernel
theorem dX5_count_54 : decode cX5_count 54 = .ok (.getfield 120, 3) := by decide +kernel
theorem dX5_count_57 : decode cX5_count 57 = .ok (.ireturn, 1) := by decide +kernel
theorem dX5_count_58 : decode cX5_count 58 = .ok (.aload_n 0, 1) := by decide +kernel
theorem dX5_count_59 : decode cX5_count 59 = .ok (.getfield 123, 3) := by decide +kernel
theorem dX5_count_62 : decode cX5_count 62 = .ok (.ireturn, 1) := by decide +kernel
theorem dX5_count_63 : decode cX5_count 63 = .ok (.iconst (-1), 1) := by decide +kernel
theorem dX5_count_64 : decode cX5_count 64 = .ok (.ireturn, 1) := by decide +kernel
theorem dX5_addStatement_0 : decode cX5_addStatement 0 = .ok (.aload_n 0, 1) := by decide +kernel
theorem dX5_addStatement_1 : decode cX5_addStatement 1 = .ok (.getfield 162, 3) := by decide +kernel
theorem dX5_addStatement_4 : decode cX5_addStatement 4 = .ok (.bipush 60, 2) := by decide +kernel
theorem dX5_addStatement_6 : decode cX5_addStatement 6 = .ok (.if_icmp .ge 19, 3) := by decide +kernel
theorem dX5_addStatement_9 : decode cX5_addStatement 9 = .ok (.aload_n 1, 1) := by decide +kernel
theorem dX5_addStatement_10 : decode cX5_addStatement 10 = .ok (.bipush (-100), 2) := by decide +kernel
theorem dX5_addStatement_12 : decode cX5_addStatement 12 = .ok (.aload_n 0, 1) := by decide +kernel
theorem dX5_addStatement_13 : decode cX5_addStatement 13 = .ok (.getfield 162, 3) := by decide +kernel
theorem dX5_addStatement_16 : decode cX5_addStatement 16 = .ok (.iconst 1, 1) := by decide +kernel
theorem dX5_addStatement_17 : decode cX5_addStatement 17 = .ok (.iadd, 1) := by decide +kernel
theorem dX5_addStatement_18 : decode cX5_addStatement 18 = .ok (.isub, 1) := by decide +kernel
theorem dX5_addStatement_19 : decode cX5_addStatement 19 = .ok (.invokevirtual 62, 3) := by decide +kernel
theorem dX5_addStatement_22 : decode cX5_addStatement 22 = .ok (.ifCond .ne 5, 3) := by decide +kernel
theorem dX5_addStatement_25 : decode cX5_addStatement 25 = .ok (.iconst (-1), 1) := by decide +kernel
theorem dX5_addStatement_26 : decode cX5_addStatement 26 = .ok (.ireturn, 1) := by decide +kernel
theorem dX5_addStatement_27 : decode cX5_addStatement 27 = .ok (.new 15, 3) := by decide +kernel
theorem dX5_addStatement_30 : decode cX5_addStatement 30 = .ok (.dup, 1) := by decide +kernel
theorem dX5_addStatement_31 : decode cX5_addStatement 31 = .ok (.aload_n 0, 1) := by decide +kernel
theorem dX5_addStatement_32 : decode cX5_addStatement 32 = .ok (.getfield 162, 3) := by decide +kernel
theorem dX5_addStatement_35 : decode cX5_addStatement 35 = .ok (.iconst 1, 1) := by decide +kernel
theorem dX5_addStatement_36 : decode cX5_addStatement 36 = .ok (.iadd, 1) := by decide +kernel
theorem dX5_addStatement_37 : decode cX5_addStatement 37 = .ok (.iload_n 2, 1) := by decide +kernel
theorem dX5_addStatement_38 : decode cX5_addStatement 38 = .ok (.iload_n 3, 1) := by decide +kernel
theorem dX5_addStatement_39 : decode cX5_addStatement 39 = .ok (.iload 4, 2) := by decide +kernel
theorem dX5_addStatement_41 : decode cX5_addStatement 41 = .ok (.invokespecial 165, 3) := by decide +kernel
theorem dX5_addStatement_44 : decode cX5_addStatement 44 = .ok (.astore 5, 2) := by decide +kernel
theorem dX5_addStatement_46 : decode cX5_addStatement 46 = .ok (.aload_n 0, 1) := by decide +kernel
theorem dX5_addStatement_47 : decode cX5_addStatement 47 = .ok (.getfield 17, 3) := by decide +kernel
theorem dX5_addStatement_50 : decode cX5_addStatement 50 = .ok (.aload_n 0, 1) := by decide +kernel
theorem dX5_addStatement_51 : decode cX5_addStatement 51 = .ok (.getfield 162, 3) := by decide +kernel
theorem dX5_addStatement_54 : decode cX5_addStatement 54 = .ok (.aload 5, 2) := by decide +kernel
theorem dX5_addStatement_56 : decode cX5_addStatement 56 = .ok (.aastore, 1) := by decide +kernel
theorem dX5_addStatement_57 : decode cX5_addStatement 57 = .ok (.aload_n 0, 1) := by decide +kernel
theorem dX5_addStatement_58 : decode cX5_addStatement 58 = .ok (.dup, 1) := by decide +kernel
theorem dX5_addStatement_59 : decode cX5_addStatement 59 = .ok (.getfield 162, 3) := by decide +kernel
theorem dX5_addStatement_62 : decode cX5_addStatement 62 = .ok (.iconst 1, 1) := by decide +kernel
theorem dX5_addStatement_63 : decode cX5_addStatement 63 = .ok (.iadd, 1) := by decide +kernel
theorem dX5_addStatement_64 : decode cX5_addStatement 64 = .ok (.putfield 162, 3) := by decide +kernel
theorem dX5_addStatement_67 : decode cX5_addStatement 67 = .ok (.aload 5, 2) := by decide +kernel
theorem dX5_addStatement_69 : decode cX5_addStatement 69 = .ok (.getfield 168, 3) := by decide +kernel
theorem dX5_addStatement_72 : decode cX5_addStatement 72 = .ok (.ireturn, 1) := by decide +kernel
theorem dX5_textNumbered_0 : decode cX5_textNumbered 0 = .ok (.iload_n 1, 1) := by decide +kernel
theorem dX5_textNumbered_1 : decode cX5_textNumbered 1 = .ok (.ifCond .lt 29, 3) := by decide +kernel
theorem dX5_textNumbered_4 : decode cX5_textNumbered 4 = .ok (.iload_n 1, 1) := by decide +kernel
theorem dX5_textNumbered_5 : decode cX5_textNumbered 5 = .ok (.aload_n 0, 1) := by decide +kernel
theorem dX5_textNumbered_6 : decode cX5_textNumbered 6 = .ok (.getfield 47, 3) := by decide +kernel
theorem dX5_textNumbered_9 : decode cX5_textNumbered 9 = .ok (.if_icmp .ge 21, 3) := by decide +kernel
theorem dX5_textNumbered_12 : decode cX5_textNumbered 12 = .ok (.iload_n 1, 1) := by decide +kernel
theorem dX5_textNumbered_13 : decode cX5_textNumbered 13 = .ok (.aload_n 0, 1) := by decide +kernel
theorem dX5_textNumbered_14 : decode cX5_textNumbered 14 = .ok (.getfield 11, 3) := by decide +kernel
theorem dX5_textNumbered_17 : decode cX5_textNumbered 17 = .ok (.arraylength, 1) := by decide +kernel
theorem dX5_textNumbered_18 : decode cX5_textNumbered 18 = .ok (.if_icmp .ge 12, 3) := by decide +kernel
theorem dX5_textNumbered_21 : decode cX5_textNumbered 21 = .ok (.aload_n 0, 1) := by decide +kernel
theorem dX5_textNumbered_22 : decode cX5_textNumbered 22 = .ok (.getfield 11, 3) := by decide +kernel
theorem dX5_textNumbered_25 : decode cX5_textNumbered 25 = .ok (.iload_n 1, 1) := by decide +kernel
theorem dX5_textNumbered_26 : decode cX5_textNumbered 26 = .ok (.aaload, 1) := by decide +kernel
theorem dX5_textNumbered_27 : decode cX5_textNumbered 27 = .ok (.goto 4, 3) := by decide +kernel
theorem dX5_textNumbered_30 : decode cX5_textNumbered 30 = .ok (.aconst_null, 1) := by decide +kernel
theorem dX5_textNumbered_31 : decode cX5_textNumbered 31 = .ok (.areturn, 1) := by decide +kernel
theorem dX5_statementNumbered_0 : decode cX5_statementNumbered 0 = .ok (.iload_n 1, 1) := by decide +kernel
theorem dX5_statementNumbered_1 : decode cX5_statementNumbered 1 = .ok (.iconst 1, 1) := by decide +kernel
theorem dX5_statementNumbered_2 : decode cX5_statementNumbered 2 = .ok (.if_icmp .lt 31, 3) := by decide +kernel
theorem dX5_statementNumbered_5 : decode cX5_statementNumbered 5 = .ok (.iload_n 1, 1) := by decide +kernel
theorem dX5_statementNumbered_6 : decode cX5_statementNumbered 6 = .ok (.aload_n 0, 1) := by decide +kernel
theorem dX5_statementNumbered_7 : decode cX5_statementNumbered 7 = .ok (.getfield 162, 3) := by decide +kernel
theorem dX5_statementNumbered_10 : decode cX5_statementNumbered 10 = .ok (.if_icmp .gt 23, 3) := by decide +kernel
theorem dX5_statementNumbered_13 : decode cX5_statementNumbered 13 = .ok (.iload_n 1, 1) := by decide +kernel
theorem dX5_statementNumbered_14 : decode cX5_statementNumbered 14 = .ok (.aload_n 0, 1) := by decide +kernel
theorem dX5_statementNumbered_15 : decode cX5_statementNumbered 15 = .ok (.getfield 17, 3) := by decide +kernel
theorem dX5_statementNumbered_18 : decode cX5_statementNumbered 18 = .ok (.arraylength, 1) := by decide +kernel
theorem dX5_statementNumbered_19 : decode cX5_statementNumbered 19 = .ok (.if_icmp .gt 14, 3) := by decide +kernel
theorem dX5_statementNumbered_22 : decode cX5_statementNumbered 22 = .ok (.aload_n 0, 1) := by decide +kernel
theorem dX5_statementNumbered_23 : decode cX5_statementNumbered 23 = .ok (.getfield 17, 3) := by decide +kernel
theorem dX5_statementNumbered_26 : decode cX5_statementNumbered 26 = .ok (.iload_n 1, 1) := by decide +kernel
theorem dX5_statementNumbered_27 : decode cX5_statementNumbered 27 = .ok (.iconst 1, 1) := by decide +kernel
theorem dX5_statementNumbered_28 : decode cX5_statementNumbered 28 = .ok (.isub, 1) := by decide +kernel
theorem dX5_statementNumbered_29 : decode cX5_statementNumbered 29 = .ok (.aaload, 1) := by decide +kernel
theorem dX5_statementNumbered_30 : decode cX5_statementNumbered 30 = .ok (.goto 4, 3) := by decide +kernel
theorem dX5_statementNumbered_33 : decode cX5_statementNumbered 33 = .ok (.aconst_null, 1) := by decide +kernel
theorem dX5_statementNumbered_34 : decode cX5_statementNumbered 34 = .ok (.areturn, 1) := by decide +kernel
theorem dX5_phraseNumbered_0 : decode cX5_phraseNumbered 0 = .ok (.iload_n 1, 1) := by decide +kernel
theorem dX5_phraseNumbered_1 : decode cX5_phraseNumbered 1 = .ok (.iconst 1, 1) := by decide +kernel
theorem dX5_phraseNumbered_2 : decode cX5_phraseNumbered 2 = .ok (.if_icmp .lt 31, 3) := by decide +kernel
theorem dX5_phraseNumbered_5 : decode cX5_phraseNumbered 5 = .ok (.iload_n 1, 1) := by decide +kernel
theorem dX5_phraseNumbered_6 : decode cX5_phraseNumbered 6 = .ok (.aload_n 0, 1) := by decide +kernel
theorem dX5_phraseNumbered_7 : decode cX5_phraseNumbered 7 = .ok (.getfield 79, 3) := by decide +kernel
theorem dX5_phraseNumbered_10 : decode cX5_phraseNumbered 10 = .ok (.if_icmp .gt 23, 3) := by decide +kernel
theorem dX5_phraseNumbered_13 : decode cX5_phraseNumbered 13 = .ok (.iload_n 1, 1) := by decide +kernel
theorem dX5_phraseNumbered_14 : decode cX5_phraseNumbered 14 = .ok (.aload_n 0, 1) := by decide +kernel
theorem dX5_phraseNumbered_15 : decode cX5_phraseNumbered 15 = .ok (.getfield 23, 3) := by decide +kernel
theorem dX5_phraseNumbered_18 : decode cX5_phraseNumbered 18 = .ok (.arraylength, 1) := by decide +kernel
theorem dX5_phraseNumbered_19 : decode cX5_phraseNumbered 19 = .ok (.if_icmp .gt 14, 3) := by decide +kernel
theorem dX5_phraseNumbered_22 : decode cX5_phraseNumbered 22 = .ok (.aload_n 0, 1) := by decide +kernel
theorem dX5_phraseNumbered_23 : decode cX5_phraseNumbered 23 = .ok (.getfield 23, 3) := by decide +kernel
theorem dX5_phraseNumbered_26 : decode cX5_phraseNumbered 26 = .ok (.iload_n 1, 1) := by decide +kernel
theorem dX5_phraseNumbered_27 : decode cX5_phraseNumbered 27 = .ok (.iconst 1, 1) := by decide +kernel
theorem dX5_phraseNumbered_28 : decode cX5_phraseNumbered 28 = .ok (.isub, 1) := by decide +kernel
theorem dX5_phraseNumbered_29 : decode cX5_phraseNumbered 29 = .ok (.aaload, 1) := by decide +kernel
theorem dX5_phraseNumbered_30 : decode cX5_phraseNumbered 30 = .ok (.goto 4, 3) := by decide +kernel
theorem dX5_phraseNumbered_33 : decode cX5_phraseNumbered 33 = .ok (.aconst_null, 1) := by decide +kernel
theorem dX5_phraseNumbered_34 : decode cX5_phraseNumbered 34 = .ok (.areturn, 1) := by decide +kernel
theorem dX5_statementOf_0 : decode cX5_statementOf 0 = .ok (.iload_n 1, 1) := by decide +kernel
theorem dX5_statementOf_1 : decode cX5_statementOf 1 = .ok (.bipush (-100), 2) := by decide +kernel
theorem dX5_statementOf_3 : decode cX5_statementOf 3 = .ok (.if_icmp .ge 14, 3) := by decide +kernel
theorem dX5_statementOf_6 : decode cX5_statementOf 6 = .ok (.aload_n 0, 1) := by decide +kernel
theorem dX5_statementOf_7 : decode cX5_statementOf 7 = .ok (.bipush (-100), 2) := by decide +kernel
theorem dX5_statementOf_9 : decode cX5_statementOf 9 = .ok (.iload_n 1, 1) := by decide +kernel
theorem dX5_statementOf_10 : decode cX5_statementOf 10 = .ok (.isub, 1) := by decide +kernel
theorem dX5_statementOf_11 : decode cX5_statementOf 11 = .ok (.invokevirtual 72, 3) := by decide +kernel
theorem dX5_statementOf_14 : decode cX5_statementOf 14 = .ok (.goto 4, 3) := by decide +kernel
theorem dX5_statementOf_17 : decode cX5_statementOf 17 = .ok (.aconst_null, 1) := by decide +kernel
theorem dX5_statementOf_18 : decode cX5_statementOf 18 = .ok (.areturn, 1) := by decide +kernel
theorem dX5_textNamed_0 : decode cX5_textNamed 0 = .ok (.iconst 1, 1) := by decide +kernel
theorem dX5_textNamed_1 : decode cX5_textNamed 1 = .ok (.istore_n 2, 1) := by decide +kernel
theorem dX5_textNamed_2 : decode cX5_textNamed 2 = .ok (.iload_n 2, 1) := by decide +kernel
theorem dX5_textNamed_3 : decode cX5_textNamed 3 = .ok (.aload_n 0, 1) := by decide +kernel
theorem dX5_textNamed_4 : decode cX5_textNamed 4 = .ok (.getfield 47, 3) := by decide +kernel
theorem dX5_textNamed_7 : decode cX5_textNamed 7 = .ok (.if_icmp .ge 29, 3) := by decide +kernel
theorem dX5_textNamed_10 : decode cX5_textNamed 10 = .ok (.aload_n 0, 1) := by decide +kernel
theorem dX5_textNamed_11 : decode cX5_textNamed 11 = .ok (.iload_n 2, 1) := by decide +kernel
theorem dX5_textNamed_12 : decode cX5_textNamed 12 = .ok (.invokevirtual 55, 3) := by decide +kernel
theorem dX5_textNamed_15 : decode cX5_textNamed 15 = .ok (.astore_n 3, 1) := by decide +kernel
theorem dX5_textNamed_16 : decode cX5_textNamed 16 = .ok (.aload_n 3, 1) := by decide +kernel
theorem dX5_textNamed_17 : decode cX5_textNamed 17 = .ok (.ifnull 13, 3) := by decide +kernel
