theorem dX6_word_29 : decode cX6_word 29 = .ok (.ifCond .ne 6, 3) := by decide +kernel
theorem dX6_word_32 : decode cX6_word 32 = .ok (.bipush (-4), 2) := by decide +kernel
theorem dX6_word_34 : decode cX6_word 34 = .ok (.ireturn, 1) := by decide +kernel
theorem dX6_word_35 : decode cX6_word 35 = .ok (.aload_n 0, 1) := by decide +kernel
theorem dX6_word_36 : decode cX6_word 36 = .ok (.getfield 13, 3) := by decide +kernel
theorem dX6_word_39 : decode cX6_word 39 = .ok (.iload_n 1, 1) := by decide +kernel
theorem dX6_word_40 : decode cX6_word 40 = .ok (.iaload, 1) := by decide +kernel
theorem dX6_word_41 : decode cX6_word 41 = .ok (.sipush 200, 3) := by decide +kernel
theorem dX6_word_44 : decode cX6_word 44 = .ok (.if_icmp .ne 7, 3) := by decide +kernel
theorem dX6_word_47 : decode cX6_word 47 = .ok (.iconst (-1), 1) := by decide +kernel
theorem dX6_word_48 : decode cX6_word 48 = .ok (.goto 9, 3) := by decide +kernel
theorem dX6_word_51 : decode cX6_word 51 = .ok (.aload_n 0, 1) := by decide +kernel
theorem dX6_word_52 : decode cX6_word 52 = .ok (.iload_n 1, 1) := by decide +kernel
theorem dX6_word_53 : decode cX6_word 53 = .ok (.iload_n 2, 1) := by decide +kernel
theorem dX6_word_54 : decode cX6_word 54 = .ok (.invokevirtual 98, 3) := by decide +kernel
theorem dX6_word_57 : decode cX6_word 57 = .ok (.ireturn, 1) := by decide +kernel
theorem dX6_statement_0 : decode cX6_statement 0 = .ok (.aload_n 0, 1) := by decide +kernel
theorem dX6_statement_1 : decode cX6_statement 1 = .ok (.getfield 13, 3) := by decide +kernel
theorem dX6_statement_4 : decode cX6_statement 4 = .ok (.iload_n 1, 1) := by decide +kernel
theorem dX6_statement_5 : decode cX6_statement 5 = .ok (.iaload, 1) := by decide +kernel
theorem dX6_statement_6 : decode cX6_statement 6 = .ok (.sipush 200, 3) := by decide +kernel
theorem dX6_statement_9 : decode cX6_statement 9 = .ok (.if_icmp .eq 12, 3) := by decide +kernel
theorem dX6_statement_12 : decode cX6_statement 12 = .ok (.aload_n 0, 1) := by decide +kernel
theorem dX6_statement_13 : decode cX6_statement 13 = .ok (.getfield 102, 3) := by decide +kernel
theorem dX6_statement_16 : decode cX6_statement 16 = .ok (.bipush 60, 2) := by decide +kernel
theorem dX6_statement_18 : decode cX6_statement 18 = .ok (.if_icmp .ne 5, 3) := by decide +kernel
theorem dX6_statement_21 : decode cX6_statement 21 = .ok (.iconst (-1), 1) := by decide +kernel
theorem dX6_statement_22 : decode cX6_statement 22 = .ok (.ireturn, 1) := by decide +kernel
theorem dX6_statement_23 : decode cX6_statement 23 = .ok (.aload_n 0, 1) := by decide +kernel
theorem dX6_statement_24 : decode cX6_statement 24 = .ok (.dup, 1) := by decide +kernel
theorem dX6_statement_25 : decode cX6_statement 25 = .ok (.getfield 102, 3) := by decide +kernel
theorem dX6_statement_28 : decode cX6_statement 28 = .ok (.iconst 1, 1) := by decide +kernel
theorem dX6_statement_29 : decode cX6_statement 29 = .ok (.iadd, 1) := by decide +kernel
theorem dX6_statement_30 : decode cX6_statement 30 = .ok (.putfield 102, 3) := by decide +kernel
theorem dX6_statement_33 : decode cX6_statement 33 = .ok (.aload_n 0, 1) := by decide +kernel
theorem dX6_statement_34 : decode cX6_statement 34 = .ok (.getfield 28, 3) := by decide +kernel
theorem dX6_statement_37 : decode cX6_statement 37 = .ok (.aload_n 0, 1) := by decide +kernel
theorem dX6_statement_38 : decode cX6_statement 38 = .ok (.getfield 102, 3) := by decide +kernel
theorem dX6_statement_41 : decode cX6_statement 41 = .ok (.iload_n 2, 1) := by decide +kernel
theorem dX6_statement_42 : decode cX6_statement 42 = .ok (.bastore, 1) := by decide +kernel
theorem dX6_statement_43 : decode cX6_statement 43 = .ok (.aload_n 0, 1) := by decide +kernel
theorem dX6_statement_44 : decode cX6_statement 44 = .ok (.getfield 19, 3) := by decide +kernel
theorem dX6_statement_47 : decode cX6_statement 47 = .ok (.aload_n 0, 1) := by decide +kernel
theorem dX6_statement_48 : decode cX6_statement 48 = .ok (.getfield 102, 3) := by decide +kernel
theorem dX6_statement_51 : decode cX6_statement 51 = .ok (.iload_n 3, 1) := by decide +kernel
theorem dX6_statement_52 : decode cX6_statement 52 = .ok (.iastore, 1) := by decide +kernel
theorem dX6_statement_53 : decode cX6_statement 53 = .ok (.aload_n 0, 1) := by decide +kernel
theorem dX6_statement_54 : decode cX6_statement 54 = .ok (.getfield 32, 3) := by decide +kernel
theorem dX6_statement_57 : decode cX6_statement 57 = .ok (.aload_n 0, 1) := by decide +kernel
theorem dX6_statement_58 : decode cX6_statement 58 = .ok (.getfield 102, 3) := by decide +kernel
theorem dX6_statement_61 : decode cX6_statement 61 = .ok (.iload 4, 2) := by decide +kernel
theorem dX6_statement_63 : decode cX6_statement 63 = .ok (.bastore, 1) := by decide +kernel
theorem dX6_statement_64 : decode cX6_statement 64 = .ok (.aload_n 0, 1) := by decide +kernel
theorem dX6_statement_65 : decode cX6_statement 65 = .ok (.iload_n 1, 1) := by decide +kernel
theorem dX6_statement_66 : decode cX6_statement 66 = .ok (.iload_n 2, 1) := by decide +kernel
theorem dX6_statement_67 : decode cX6_statement 67 = .ok (.ifCond .eq 9, 3) := by decide +kernel
theorem dX6_statement_70 : decode cX6_statement 70 = .ok (.sipush (-1000), 3) := by decide +kernel
theorem dX6_statement_73 : decode cX6_statement 73 = .ok (.goto 6, 3) := by decide +kernel
theorem dX6_statement_76 : decode cX6_statement 76 = .ok (.sipush (-2000), 3) := by decide +kernel
theorem dX6_statement_79 : decode cX6_statement 79 = .ok (.aload_n 0, 1) := by decide +kernel
theorem dX6_statement_80 : decode cX6_statement 80 = .ok (.getfield 102, 3) := by decide +kernel
theorem dX6_statement_83 : decode cX6_statement 83 = .ok (.isub, 1) := by decide +kernel
theorem dX6_statement_84 : decode cX6_statement 84 = .ok (.invokevirtual 98, 3) := by decide +kernel
theorem dX6_statement_87 : decode cX6_statement 87 = .ok (.pop, 1) := by decide +kernel
theorem dX6_statement_88 : decode cX6_statement 88 = .ok (.aload_n 0, 1) := by decide +kernel
theorem dX6_statement_89 : decode cX6_statement 89 = .ok (.getfield 102, 3) := by decide +kernel
theorem dX6_statement_92 : decode cX6_statement 92 = .ok (.ireturn, 1) := by decide +kernel
theorem dX6_copy_0 : decode cX6_copy 0 = .ok (.aload_n 0, 1) := by decide +kernel
theorem dX6_copy_1 : decode cX6_copy 1 = .ok (.iconst 0, 1) := by decide +kernel
theorem dX6_copy_2 : decode cX6_copy 2 = .ok (.putfield 83, 3) := by decide +kernel
theorem dX6_copy_5 : decode cX6_copy 5 = .ok (.aload_n 0, 1) := by decide +kernel
theorem dX6_copy_6 : decode cX6_copy 6 = .ok (.iload_n 1, 1) := by decide +kernel
theorem dX6_copy_7 : decode cX6_copy 7 = .ok (.invokevirtual 91, 3) := by decide +kernel
theorem dX6_copy_10 : decode cX6_copy 10 = .ok (.ifCond .ne 6, 3) := by decide +kernel
theorem dX6_copy_13 : decode cX6_copy 13 = .ok (.bipush (-2), 2) := by decide +kernel
theorem dX6_copy_15 : decode cX6_copy 15 = .ok (.ireturn, 1) := by decide +kernel
theorem dX6_copy_16 : decode cX6_copy 16 = .ok (.iload_n 2, 1) := by decide +kernel
theorem dX6_copy_17 : decode cX6_copy 17 = .ok (.ifCond .lt 9, 3) := by decide +kernel
theorem dX6_copy_20 : decode cX6_copy 20 = .ok (.iload_n 2, 1) := by decide +kernel
theorem dX6_copy_21 : decode cX6_copy 21 = .ok (.bipush 99, 2) := by decide +kernel
theorem dX6_copy_23 : decode cX6_copy 23 = .ok (.if_icmp .le 8, 3) := by decide +kernel
theorem dX6_copy_26 : decode cX6_copy 26 = .ok (.bipush (-4), 2) := by decide +kernel
theorem dX6_copy_28 : decode cX6_copy 28 = .ok (.goto 11, 3) := by decide +kernel
theorem dX6_copy_31 : decode cX6_copy 31 = .ok (.aload_n 0, 1) := by decide +kernel
theorem dX6_copy_32 : decode cX6_copy 32 = .ok (.iload_n 1, 1) := by decide +kernel
theorem dX6_copy_33 : decode cX6_copy 33 = .ok (.iconst 1, 1) := by decide +kernel
theorem dX6_copy_34 : decode cX6_copy 34 = .ok (.iload_n 2, 1) := by decide +kernel
theorem dX6_copy_35 : decode cX6_copy 35 = .ok (.iload_n 3, 1) := by decide +kernel
theorem dX6_copy_36 : decode cX6_copy 36 = .ok (.invokevirtual 105, 3) := by decide +kernel
theorem dX6_copy_39 : decode cX6_copy 39 = .ok (.ireturn, 1) := by decide +kernel
theorem dX6_replace_0 : decode cX6_replace 0 = .ok (.aload_n 0, 1) := by decide +kernel
theorem dX6_replace_1 : decode cX6_replace 1 = .ok (.iconst 0, 1) := by decide +kernel
theorem dX6_replace_2 : decode cX6_replace 2 = .ok (.putfield 83, 3) := by decide +kernel
theorem dX6_replace_5 : decode cX6_replace 5 = .ok (.aload_n 0, 1) := by decide +kernel
theorem dX6_replace_6 : decode cX6_replace 6 = .ok (.iload_n 1, 1) := by decide +kernel
theorem dX6_replace_7 : decode cX6_replace 7 = .ok (.invokevirtual 91, 3) := by decide +kernel
theorem dX6_replace_10 : decode cX6_replace 10 = .ok (.ifCond .eq 14, 3) := by decide +kernel
theorem dX6_replace_13 : decode cX6_replace 13 = .ok (.aload_n 0, 1) := by decide +kernel
theorem dX6_replace_14 : decode cX6_replace 14 = .ok (.iload_n 1, 1) := by decide +kernel
theorem dX6_replace_15 : decode cX6_replace 15 = .ok (.iconst 0, 1) := by decide +kernel
theorem dX6_replace_16 : decode cX6_replace 16 = .ok (.iconst 0, 1) := by decide +kernel
theorem dX6_replace_17 : decode cX6_replace 17 = .ok (.iconst 0, 1) := by decide +kernel
theorem dX6_replace_18 : decode cX6_replace 18 = .ok (.invokevirtual 105, 3) := by decide +kernel
theorem dX6_replace_21 : decode cX6_replace 21 = .ok (.goto 5, 3) := by decide +kernel
theorem dX6_replace_24 : decode cX6_replace 24 = .ok (.bipush (-2), 2) := by decide +kernel
theorem dX6_replace_26 : decode cX6_replace 26 = .ok (.ireturn, 1) := by decide +kernel
theorem dX6_off_0 : decode cX6_off 0 = .ok (.aload_n 0, 1) := by decide +kernel
theorem dX6_off_1 : decode cX6_off 1 = .ok (.iconst 0, 1) := by decide +kernel
theorem dX6_off_2 : decode cX6_off 2 = .ok (.putfield 83, 3) := by decide +kernel
theorem dX6_off_5 : decode cX6_off 5 = .ok (.aload_n 0, 1) := by decide +kernel
theorem dX6_off_6 : decode cX6_off 6 = .ok (.iload_n 1, 1) := by decide +kernel
theorem dX6_off_7 : decode cX6_off 7 = .ok (.invokevirtual 91, 3) := by decide +kernel
theorem dX6_off_10 : decode cX6_off 10 = .ok (.ifCond .ne 6, 3) := by decide +kernel
theorem dX6_off_13 : decode cX6_off 13 = .ok (.bipush (-2), 2) := by decide +kernel
theorem dX6_off_15 : decode cX6_off 15 = .ok (.ireturn, 1) := by decide +kernel
theorem dX6_off_16 : decode cX6_off 16 = .ok (.aload_n 0, 1) := by decide +kernel
theorem dX6_off_17 : decode cX6_off 17 = .ok (.getfield 13, 3) := by decide +kernel
theorem dX6_off_20 : decode cX6_off 20 = .ok (.iload_n 1, 1) := by decide +kernel
theorem dX6_off_21 : decode cX6_off 21 = .ok (.iaload, 1) := by decide +kernel
theorem dX6_off_22 : decode cX6_off 22 = .ok (.sipush 200, 3) := by decide +kernel
theorem dX6_off_25 : decode cX6_off 25 = .ok (.if_icmp .ne 7, 3) := by decide +kernel
theorem dX6_off_28 : decode cX6_off 28 = .ok (.iconst (-1), 1) := by decide +kernel
theorem dX6_off_29 : decode cX6_off 29 = .ok (.goto 11, 3) := by decide +kernel
theorem dX6_off_32 : decode cX6_off 32 = .ok (.aload_n 0, 1) := by decide +kernel
theorem dX6_off_33 : decode cX6_off 33 = .ok (.iload_n 1, 1) := by decide +kernel
theorem dX6_off_34 : decode cX6_off 34 = .ok (.sipush (-3000), 3) := by decide +kernel
theorem dX6_off_37 : decode cX6_off 37 = .ok (.invokevirtual 98, 3) := by decide +kernel
theorem dX6_off_40 : decode cX6_off 40 = .ok (.ireturn, 1) := by decide +kernel
theorem dX6_phrase_0 : decode cX6_phrase 0 = .ok (.aload_n 0, 1) := by decide +kernel
theorem dX6_phrase_1 : decode cX6_phrase 1 = .ok (.iconst 0, 1) := by decide +kernel
theorem dX6_phrase_2 : decode cX6_phrase 2 = .ok (.putfield 83, 3) := by decide +kernel
theorem dX6_phrase_5 : decode cX6_phrase 5 = .ok (.iload_n 1, 1) := by decide +kernel
theorem dX6_phrase_6 : decode cX6_phrase 6 = .ok (.iconst 1, 1) := by decide +kernel
theorem dX6_phrase_7 : decode cX6_phrase 7 = .ok (.if_icmp .lt 11, 3) := by decide +kernel
theorem dX6_phrase_10 : decode cX6_phrase 10 = .ok (.iload_n 1, 1) := by decide +kernel
theorem dX6_phrase_11 : decode cX6_phrase 11 = .ok (.aload_n 0, 1) := by decide +kernel
theorem dX6_phrase_12 : decode cX6_phrase 12 = .ok (.getfield 102, 3) := by decide +kernel
theorem dX6_phrase_15 : decode cX6_phrase 15 = .ok (.if_icmp .le 6, 3) := by decide +kernel
theorem dX6_phrase_18 : decode cX6_phrase 18 = .ok (.bipush (-2), 2) := by decide +kernel
theorem dX6_phrase_20 : decode cX6_phrase 20 = .ok (.ireturn, 1) := by decide +kernel
theorem dX6_phrase_21 : decode cX6_phrase 21 = .ok (.iload_n 2, 1) := by decide +kernel
theorem dX6_phrase_22 : decode cX6_phrase 22 = .ok (.ifCond .lt 15, 3) := by decide +kernel
theorem dX6_phrase_25 : decode cX6_phrase 25 = .ok (.iload_n 2, 1) := by decide +kernel
theorem dX6_phrase_26 : decode cX6_phrase 26 = .ok (.iconst 2, 1) := by decide +kernel
theorem dX6_phrase_27 : decode cX6_phrase 27 = .ok (.if_icmp .gt 10, 3) := by decide +kernel
theorem dX6_phrase_30 : decode cX6_phrase 30 = .ok (.iload_n 3, 1) := by decide +kernel
theorem dX6_phrase_31 : decode cX6_phrase 31 = .ok (.invokestatic 95, 3) := by decide +kernel
theorem dX6_phrase_34 : decode cX6_phrase 34 = .ok (.ifCond .ne 6, 3) := by decide +kernel
theorem dX6_phrase_37 : decode cX6_phrase 37 = .ok (.bipush (-4), 2) := by decide +kernel
theorem dX6_phrase_39 : decode cX6_phrase 39 = .ok (.ireturn, 1) := by decide +kernel
theorem dX6_phrase_40 : decode cX6_phrase 40 = .ok (.aload_n 0, 1) := by decide +kernel
theorem dX6_phrase_41 : decode cX6_phrase 41 = .ok (.getfield 109, 3) := by decide +kernel
theorem dX6_phrase_44 : decode cX6_phrase 44 = .ok (.bipush 100, 2) := by decide +kernel
theorem dX6_phrase_46 : decode cX6_phrase 46 = .ok (.if_icmp .eq 14, 3) := by decide +kernel
theorem dX6_phrase_49 : decode cX6_phrase 49 = .ok (.aload_n 0, 1) := by decide +kernel
theorem dX6_phrase_50 : decode cX6_phrase 50 = .ok (.getfield 22, 3) := by decide +kernel
theorem dX6_phrase_53 : decode cX6_phrase 53 = .ok (.iload_n 1, 1) := by decide +kernel
theorem dX6_phrase_54 : decode cX6_phrase 54 = .ok (.iaload, 1) := by decide +kernel
theorem dX6_phrase_55 : decode cX6_phrase 55 = .ok (.bipush 8, 2) := by decide +kernel
theorem dX6_phrase_57 : decode cX6_phrase 57 = .ok (.if_icmp .ne 5, 3) := by decide +kernel
theorem dX6_phrase_60 : decode cX6_phrase 60 = .ok (.iconst (-1), 1) := by decide +kernel
theorem dX6_phrase_61 : decode cX6_phrase 61 = .ok (.ireturn, 1) := by decide +kernel
theorem dX6_phrase_62 : decode cX6_phrase 62 = .ok (.aload_n 0, 1) := by decide +kernel
theorem dX6_phrase_63 : decode cX6_phrase 63 = .ok (.dup, 1) := by decide +kernel
theorem dX6_phrase_64 : decode cX6_phrase 64 = .ok (.getfield 109, 3) := by decide +kernel
theorem dX6_phrase_67 : decode cX6_phrase 67 = .ok (.iconst 1, 1) := by decide +kernel
theorem dX6_phrase_68 : decode cX6_phrase 68 = .ok (.iadd, 1) := by decide +kernel
theorem dX6_phrase_69 : decode cX6_phrase 69 = .ok (.putfield 109, 3) := by decide +kernel
theorem dX6_phrase_72 : decode cX6_phrase 72 = .ok (.aload_n 0, 1) := by decide +kernel
theorem dX6_phrase_73 : decode cX6_phrase 73 = .ok (.getfield 35, 3) := by decide +kernel
theorem dX6_phrase_76 : decode cX6_phrase 76 = .ok (.aload_n 0, 1) := by decide +kernel
theorem dX6_phrase_77 : decode cX6_phrase 77 = .ok (.getfield 109, 3) := by decide +kernel
theorem dX6_phrase_80 : decode cX6_phrase 80 = .ok (.iload_n 2, 1) := by decide +kernel
theorem dX6_phrase_81 : decode cX6_phrase 81 = .ok (.iastore, 1) := by decide +kernel
theorem dX6_phrase_82 : decode cX6_phrase 82 = .ok (.aload_n 0, 1) := by decide +kernel
theorem dX6_phrase_83 : decode cX6_phrase 83 = .ok (.getfield 44, 3) := by decide +kernel
theorem dX6_phrase_86 : decode cX6_phrase 86 = .ok (.bipush 10, 2) := by decide +kernel
theorem dX6_phrase_88 : decode cX6_phrase 88 = .ok (.aload_n 0, 1) := by decide +kernel
theorem dX6_phrase_89 : decode cX6_phrase 89 = .ok (.getfield 109, 3) := by decide +kernel
theorem dX6_phrase_92 : decode cX6_phrase 92 = .ok (.imul, 1) := by decide +kernel
theorem dX6_phrase_93 : decode cX6_phrase 93 = .ok (.bipush 10, 2) := by decide +kernel
theorem dX6_phrase_95 : decode cX6_phrase 95 = .ok (.isub, 1) := by decide +kernel
theorem dX6_phrase_96 : decode cX6_phrase 96 = .ok (.iload_n 3, 1) := by decide +kernel
theorem dX6_phrase_97 : decode cX6_phrase 97 = .ok (.iastore, 1) := by decide +kernel
theorem dX6_phrase_98 : decode cX6_phrase 98 = .ok (.aload_n 0, 1) := by decide +kernel
theorem dX6_phrase_99 : decode cX6_phrase 99 = .ok (.getfield 38, 3) := by decide +kernel
theorem dX6_phrase_102 : decode cX6_phrase 102 = .ok (.aload_n 0, 1) := by decide +kernel
theorem dX6_phrase_103 : decode cX6_phrase 103 = .ok (.getfield 109, 3) := by decide +kernel
theorem dX6_phrase_106 : decode cX6_phrase 106 = .ok (.iconst 1, 1) := by decide +kernel
theorem dX6_phrase_107 : decode cX6_phrase 107 = .ok (.iastore, 1) := by decide +kernel
theorem dX6_phrase_108 : decode cX6_phrase 108 = .ok (.aload_n 0, 1) := by decide +kernel
theorem dX6_phrase_109 : decode cX6_phrase 109 = .ok (.getfield 25, 3) := by decide +kernel
theorem dX6_phrase_112 : decode cX6_phrase 112 = .ok (.bipush 8, 2) := by decide +kernel
theorem dX6_phrase_114 : decode cX6_phrase 114 = .ok (.iload_n 1, 1) := by decide +kernel
theorem dX6_phrase_115 : decode cX6_phrase 115 = .ok (.imul, 1) := by decide +kernel
theorem dX6_phrase_116 : decode cX6_phrase 116 = .ok (.bipush 8, 2) := by decide +kernel
theorem dX6_phrase_118 : decode cX6_phrase 118 = .ok (.isub, 1) := by decide +kernel
theorem dX6_phrase_119 : decode cX6_phrase 119 = .ok (.aload_n 0, 1) := by decide +kernel
theorem dX6_phrase_120 : decode cX6_phrase 120 = .ok (.getfield 22, 3) := by decide +kernel
theorem dX6_phrase_123 : decode cX6_phrase 123 = .ok (.iload_n 1, 1) := by decide +kernel
theorem dX6_phrase_124 : decode cX6_phrase 124 = .ok (.iaload, 1) := by decide +kernel
theorem dX6_phrase_125 : decode cX6_phrase 125 = .ok (.iadd, 1) := by decide +kernel
theorem dX6_phrase_126 : decode cX6_phrase 126 = .ok (.aload_n 0, 1) := by decide +kernel
theorem dX6_phrase_127 : decode cX6_phrase 127 = .ok (.getfield 109, 3) := by decide +kernel
theorem dX6_phrase_130 : decode cX6_phrase 130 = .ok (.iastore, 1) := by decide +kernel
theorem dX6_phrase_131 : decode cX6_phrase 131 = .ok (.aload_n 0, 1) := by decide +kernel
theorem dX6_phrase_132 : decode cX6_phrase 132 = .ok (.getfield 22, 3) := by decide +kernel
theorem dX6_phrase_135 : decode cX6_phrase 135 = .ok (.iload_n 1, 1) := by decide +kernel
theorem dX6_phrase_136 : decode cX6_phrase 136 = .ok (.dup2, 1) := by decide +kernel
theorem dX6_phrase_137 : decode cX6_phrase 137 = .ok (.iaload, 1) := by decide +kernel
theorem dX6_phrase_138 : decode cX6_phrase 138 = .ok (.iconst 1, 1) := by decide +kernel
theorem dX6_phrase_139 : decode cX6_phrase 139 = .ok (.iadd, 1) := by decide +kernel
theorem dX6_phrase_140 : decode cX6_phrase 140 = .ok (.iastore, 1) := by decide +kernel
theorem dX6_phrase_141 : decode cX6_phrase 141 = .ok (.aload_n 0, 1) := by decide +kernel
theorem dX6_phrase_142 : decode cX6_phrase 142 = .ok (.getfield 109, 3) := by decide +kernel
theorem dX6_phrase_145 : decode cX6_phrase 145 = .ok (.ireturn, 1) := by decide +kernel
theorem dX6_from_0 : decode cX6_from 0 = .ok (.aload_n 0, 1) := by decide +kernel
theorem dX6_from_1 : decode cX6_from 1 = .ok (.iconst 0, 1) := by decide +kernel
theorem dX6_from_2 : decode cX6_from 2 = .ok (.putfield 83, 3) := by decide +kernel
theorem dX6_from_5 : decode cX6_from 5 = .ok (.iload_n 1, 1) := by decide +kernel
theorem dX6_from_6 : decode cX6_from 6 = .ok (.iconst 1, 1) := by decide +kernel
theorem dX6_from_7 : decode cX6_from 7 = .ok (.if_icmp .lt 11, 3) := by decide +kernel
theorem dX6_from_10 : decode cX6_from 10 = .ok (.iload_n 1, 1) := by decide +kernel
theorem dX6_from_11 : decode cX6_from 11 = .ok (.aload_n 0, 1) := by decide +kernel
theorem dX6_from_12 : decode cX6_from 12 = .ok (.getfield 109, 3) := by decide +kernel
theorem dX6_from_15 : decode cX6_from 15 = .ok (.if_icmp .le 6, 3) := by decide +kernel
theorem dX6_from_18 : decode cX6_from 18 = .ok (.bipush (-2), 2) := by decide +kernel
theorem dX6_from_20 : decode cX6_from 20 = .ok (.ireturn, 1) := by decide +kernel
theorem dX6_from_21 : decode cX6_from 21 = .ok (.iload_n 2, 1) := by decide +kernel
theorem dX6_from_22 : decode cX6_from 22 = .ok (.ifCond .eq 18, 3) := by decide +kernel
theorem dX6_from_25 : decode cX6_from 25 = .ok (.iload_n 2, 1) := by decide +kernel
theorem dX6_from_26 : decode cX6_from 26 = .ok (.iconst (-1), 1) := by decide +kernel
theorem dX6_from_27 : decode cX6_from 27 = .ok (.if_icmp .eq 13, 3) := by decide +kernel
theorem dX6_from_30 : decode cX6_from 30 = .ok (.iload_n 2, 1) := by decide +kernel
theorem dX6_from_31 : decode cX6_from 31 = .ok (.invokestatic 95, 3) := by decide +kernel
theorem dX6_from_34 : decode cX6_from 34 = .ok (.ifCond .ne 6, 3) := by decide +kernel
theorem dX6_from_37 : decode cX6_from 37 = .ok (.bipush (-4), 2) := by decide +kernel
theorem dX6_from_39 : decode cX6_from 39 = .ok (.ireturn, 1) := by decide +kernel
theorem dX6_from_40 : decode cX6_from 40 = .ok (.aload_n 0, 1) := by decide +kernel
theorem dX6_from_41 : decode cX6_from 41 = .ok (.getfield 35, 3) := by decide +kernel
theorem dX6_from_44 : decode cX6_from 44 = .ok (.iload_n 1, 1) := by decide +kernel
theorem dX6_from_45 : decode cX6_from 45 = .ok (.iaload, 1) := by decide +kernel
theorem dX6_from_46 : decode cX6_from 46 = .ok (.ifCond .ne 14, 3) := by decide +kernel
theorem dX6_from_49 : decode cX6_from 49 = .ok (.aload_n 0, 1) := by decide +kernel
theorem dX6_from_50 : decode cX6_from 50 = .ok (.getfield 38, 3) := by decide +kernel
theorem dX6_from_53 : decode cX6_from 53 = .ok (.iload_n 1, 1) := by decide +kernel
theorem dX6_from_54 : decode cX6_from 54 = .ok (.iaload, 1) := by decide +kernel
theorem dX6_from_55 : decode cX6_from 55 = .ok (.bipush 10, 2) := by decide +kernel
theorem dX6_from_57 : decode cX6_from 57 = .ok (.if_icmp .ne 5, 3) := by decide +kernel
theorem dX6_from_60 : decode cX6_from 60 = .ok (.iconst (-1), 1) := by decide +kernel
theorem dX6_from_61 : decode cX6_from 61 = .ok (.ireturn, 1) := by decide +kernel
theorem dX6_from_62 : decode cX6_from 62 = .ok (.iload_n 2, 1) := by decide +kernel
theorem dX6_from_63 : decode cX6_from 63 = .ok (.ifCond .le 33, 3) := by decide +kernel
theorem dX6_from_66 : decode cX6_from 66 = .ok (.aload_n 0, 1) := by decide +kernel
theorem dX6_from_67 : decode cX6_from 67 = .ok (.getfield 44, 3) := by decide +kernel
theorem dX6_from_70 : decode cX6_from 70 = .ok (.bipush 10, 2) := by decide +kernel
theorem dX6_from_72 : decode cX6_from 72 = .ok (.iload_n 1, 1) := by decide +kernel
theorem dX6_from_73 : decode cX6_from 73 = .ok (.imul, 1) := by decide +kernel
theorem dX6_from_74 : decode cX6_from 74 = .ok (.bipush 10, 2) := by decide +kernel
theorem dX6_from_76 : decode cX6_from 76 = .ok (.isub, 1) := by decide +kernel
theorem dX6_from_77 : decode cX6_from 77 = .ok (.aload_n 0, 1) := by decide +kernel
theorem dX6_from_78 : decode cX6_from 78 = .ok (.getfield 38, 3) := by decide +kernel
theorem dX6_from_81 : decode cX6_from 81 = .ok (.iload_n 1, 1) := by decide +kernel
theorem dX6_from_82 : decode cX6_from 82 = .ok (.iaload, 1) := by decide +kernel
theorem dX6_from_83 : decode cX6_from 83 = .ok (.iadd, 1) := by decide +kernel
theorem dX6_from_84 : decode cX6_from 84 = .ok (.iload_n 2, 1) := by decide +kernel
theorem dX6_from_85 : decode cX6_from 85 = .ok (.iastore, 1) := by decide +kernel
theorem dX6_from_86 : decode cX6_from 86 = .ok (.aload_n 0, 1) := by decide +kernel
theorem dX6_from_87 : decode cX6_from 87 = .ok (.getfield 38, 3) := by decide +kernel
theorem dX6_from_90 : decode cX6_from 90 = .ok (.iload_n 1, 1) := by decide +kernel
theorem dX6_from_91 : decode cX6_from 91 = .ok (.dup2, 1) := by decide +kernel
theorem dX6_from_92 : decode cX6_from 92 = .ok (.iaload, 1) := by decide +kernel
theorem dX6_from_93 : decode cX6_from 93 = .ok (.iconst 1, 1) := by decide +kernel
theorem dX6_from_94 : decode cX6_from 94 = .ok (.iadd, 1) := by decide +kernel
theorem dX6_from_95 : decode cX6_from 95 = .ok (.iastore, 1) := by decide +kernel
theorem dX6_from_96 : decode cX6_from 96 = .ok (.aload_n 0, 1) := by decide +kernel
theorem dX6_from_97 : decode cX6_from 97 = .ok (.getfield 38, 3) := by decide +kernel
theorem dX6_from_100 : decode cX6_from 100 = .ok (.iload_n 1, 1) := by decide +kernel
theorem dX6_from_101 : decode cX6_from 101 = .ok (.iaload, 1) := by decide +kernel
theorem dX6_from_102 : decode cX6_from 102 = .ok (.ireturn, 1) := by decide +kernel
theorem dX6_to_0 : decode cX6_to 0 = .ok (.aload_n 0, 1) := by decide +kernel
theorem dX6_to_1 : decode cX6_to 1 = .ok (.iconst 0, 1) := by decide +kernel
theorem dX6_to_2 : decode cX6_to 2 = .ok (.putfield 83, 3) := by decide +kernel
theorem dX6_to_5 : decode cX6_to 5 = .ok (.iload_n 1, 1) := by decide +kernel
theorem dX6_to_6 : decode cX6_to 6 = .ok (.iconst 1, 1) := by decide +kernel
theorem dX6_to_7 : decode cX6_to 7 = .ok (.if_icmp .lt 11, 3) := by decide +kernel
theorem dX6_to_10 : decode cX6_to 10 = .ok (.iload_n 1, 1) := by decide +kernel
theorem dX6_to_11 : decode cX6_to 11 = .ok (.aload_n 0, 1) := by decide +kernel
theorem dX6_to_12 : decode cX6_to 12 = .ok (.getfield 109, 3) := by decide +kernel
theorem dX6_to_15 : decode cX6_to 15 = .ok (.if_icmp .le 6, 3) := by decide +kernel
theorem dX6_to_18 : decode cX6_to 18 = .ok (.bipush (-2), 2) := by decide +kernel
theorem dX6_to_20 : decode cX6_to 20 = .ok (.ireturn, 1) := by decide +kernel
theorem dX6_to_21 : decode cX6_to 21 = .ok (.iload_n 2, 1) := by decide +kernel
theorem dX6_to_22 : decode cX6_to 22 = .ok (.invokestatic 95, 3) := by decide +kernel
theorem dX6_to_25 : decode cX6_to 25 = .ok (.ifCond .ne 24, 3) := by decide +kernel
theorem dX6_to_28 : decode cX6_to 28 = .ok (.aload_n 0, 1) := by decide +kernel
theorem dX6_to_29 : decode cX6_to 29 = .ok (.getfield 35, 3) := by decide +kernel
theorem dX6_to_32 : decode cX6_to 32 = .ok (.iload_n 1, 1) := by decide +kernel
theorem dX6_to_33 : decode cX6_to 33 = .ok (.iaload, 1) := by decide +kernel
theorem dX6_to_34 : decode cX6_to 34 = .ok (.ifCond .ne 12, 3) := by decide +kernel
theorem dX6_to_37 : decode cX6_to 37 = .ok (.iload_n 2, 1) := by decide +kernel
theorem dX6_to_38 : decode cX6_to 38 = .ok (.ifCond .eq 11, 3) := by decide +kernel
theorem dX6_to_41 : decode cX6_to 41 = .ok (.iload_n 2, 1) := by decide +kernel
theorem dX6_to_42 : decode cX6_to 42 = .ok (.iconst (-1), 1) := by decide +kernel
theorem dX6_to_43 : decode cX6_to 43 = .ok (.if_icmp .eq 6, 3) := by decide +kernel
theorem dX6_to_46 : decode cX6_to 46 = .ok (.bipush (-4), 2) := by decide +kernel
theorem dX6_to_48 : decode cX6_to 48 = .ok (.ireturn, 1) := by decide +kernel
theorem dX6_to_49 : decode cX6_to 49 = .ok (.aload_n 0, 1) := by decide +kernel
theorem dX6_to_50 : decode cX6_to 50 = .ok (.getfield 41, 3) := by decide +kernel
theorem dX6_to_53 : decode cX6_to 53 = .ok (.iload_n 1, 1) := by decide +kernel
theorem dX6_to_54 : decode cX6_to 54 = .ok (.iaload, 1) := by decide +kernel
theorem dX6_to_55 : decode cX6_to 55 = .ok (.aload_n 0, 1) := by decide +kernel
theorem dX6_to_56 : decode cX6_to 56 = .ok (.getfield 35, 3) := by decide +kernel
theorem dX6_to_59 : decode cX6_to 59 = .ok (.iload_n 1, 1) := by decide +kernel
theorem dX6_to_60 : decode cX6_to 60 = .ok (.iaload, 1) := by decide +kernel
theorem dX6_to_61 : decode cX6_to 61 = .ok (.ifCond .ne 8, 3) := by decide +kernel
theorem dX6_to_64 : decode cX6_to 64 = .ok (.bipush 10, 2) := by decide +kernel
theorem dX6_to_66 : decode cX6_to 66 = .ok (.goto 4, 3) := by decide +kernel
theorem dX6_to_69 : decode cX6_to 69 = .ok (.iconst 1, 1) := by decide +kernel
theorem dX6_to_70 : decode cX6_to 70 = .ok (.if_icmp .ne 5, 3) := by decide +kernel
theorem dX6_to_73 : decode cX6_to 73 = .ok (.iconst (-1), 1) := by decide +kernel
theorem dX6_to_74 : decode cX6_to 74 = .ok (.ireturn, 1) := by decide +kernel
theorem dX6_to_75 : decode cX6_to 75 = .ok (.aload_n 0, 1) := by decide +kernel
theorem dX6_to_76 : decode cX6_to 76 = .ok (.getfield 47, 3) := by decide +kernel
theorem dX6_to_79 : decode cX6_to 79 = .ok (.bipush 10, 2) := by decide +kernel
theorem dX6_to_81 : decode cX6_to 81 = .ok (.iload_n 1, 1) := by decide +kernel
theorem dX6_to_82 : decode cX6_to 82 = .ok (.imul, 1) := by decide +kernel
theorem dX6_to_83 : decode cX6_to 83 = .ok (.bipush 10, 2) := by decide +kernel
theorem dX6_to_85 : decode cX6_to 85 = .ok (.isub, 1) := by decide +kernel
theorem dX6_to_86 : decode cX6_to 86 = .ok (.aload_n 0, 1) := by decide +kernel
theorem dX6_to_87 : decode cX6_to 87 = .ok (.getfield 41, 3) := by decide +kernel
theorem dX6_to_90 : decode cX6_to 90 = .ok (.iload_n 1, 1) := by decide +kernel
theorem dX6_to_91 : decode cX6_to 91 = .ok (.iaload, 1) := by decide +kernel
theorem dX6_to_92 : decode cX6_to 92 = .ok (.iadd, 1) := by decide +kernel
theorem dX6_to_93 : decode cX6_to 93 = .ok (.iload_n 2, 1) := by decide +kernel
theorem dX6_to_94 : decode cX6_to 94 = .ok (.iastore, 1) := by decide +kernel
theorem dX6_to_95 : decode cX6_to 95 = .ok (.aload_n 0, 1) := by decide +kernel
theorem dX6_to_96 : decode cX6_to 96 = .ok (.getfield 41, 3) := by decide +kernel
theorem dX6_to_99 : decode cX6_to 99 = .ok (.iload_n 1, 1) := by decide +kernel
theorem dX6_to_100 : decode cX6_to 100 = .ok (.dup2, 1) := by decide +kernel
theorem dX6_to_101 : decode cX6_to 101 = .ok (.iaload, 1) := by decide +kernel
theorem dX6_to_102 : decode cX6_to 102 = .ok (.iconst 1, 1) := by decide +kernel
theorem dX6_to_103 : decode cX6_to 103 = .ok (.iadd, 1) := by decide +kernel
theorem dX6_to_104 : decode cX6_to 104 = .ok (.iastore, 1) := by decide +kernel
theorem dX6_to_105 : decode cX6_to 105 = .ok (.aload_n 0, 1) := by decide +kernel
theorem dX6_to_106 : decode cX6_to 106 = .ok (.getfield 41, 3) := by decide +kernel
theorem dX6_to_109 : decode cX6_to 109 = .ok (.iload_n 1, 1) := by decide +kernel
theorem dX6_to_110 : decode cX6_to 110 = .ok (.iaload, 1) := by decide +kernel
theorem dX6_to_111 : decode cX6_to 111 = .ok (.ireturn, 1) := by decide +kernel
theorem dX6_put_0 : decode cX6_put 0 = .ok (.aload_n 0, 1) := by decide +kernel
theorem dX6_put_1 : decode cX6_put 1 = .ok (.getfield 68, 3) := by decide +kernel
theorem dX6_put_4 : decode cX6_put 4 = .ok (.iload_n 1, 1) := by decide +kernel
theorem dX6_put_5 : decode cX6_put 5 = .ok (.iaload, 1) := by decide +kernel
theorem dX6_put_6 : decode cX6_put 6 = .ok (.sipush 300, 3) := by decide +kernel
theorem dX6_put_9 : decode cX6_put 9 = .ok (.if_icmp .ne 11, 3) := by decide +kernel
theorem dX6_put_12 : decode cX6_put 12 = .ok (.aload_n 0, 1) := by decide +kernel
theorem dX6_put_13 : decode cX6_put 13 = .ok (.bipush (-3), 2) := by decide +kernel
theorem dX6_put_15 : decode cX6_put 15 = .ok (.putfield 112, 3) := by decide +kernel
theorem dX6_put_18 : decode cX6_put 18 = .ok (.iconst 0, 1) := by decide +kernel
theorem dX6_put_19 : decode cX6_put 19 = .ok (.ireturn, 1) := by decide +kernel
theorem dX6_put_20 : decode cX6_put 20 = .ok (.sipush 302, 3) := by decide +kernel
theorem dX6_put_23 : decode cX6_put 23 = .ok (.iload_n 1, 1) := by decide +kernel
theorem dX6_put_24 : decode cX6_put 24 = .ok (.imul, 1) := by decide +kernel
theorem dX6_put_25 : decode cX6_put 25 = .ok (.aload_n 0, 1) := by decide +kernel
theorem dX6_put_26 : decode cX6_put 26 = .ok (.getfield 68, 3) := by decide +kernel
theorem dX6_put_29 : decode cX6_put 29 = .ok (.iload_n 1, 1) := by decide +kernel
theorem dX6_put_30 : decode cX6_put 30 = .ok (.iaload, 1) := by decide +kernel
theorem dX6_put_31 : decode cX6_put 31 = .ok (.iadd, 1) := by decide +kernel
theorem dX6_put_32 : decode cX6_put 32 = .ok (.istore 8, 2) := by decide +kernel
theorem dX6_put_34 : decode cX6_put 34 = .ok (.aload_n 0, 1) := by decide +kernel
theorem dX6_put_35 : decode cX6_put 35 = .ok (.getfield 50, 3) := by decide +kernel
theorem dX6_put_38 : decode cX6_put 38 = .ok (.iload 8, 2) := by decide +kernel
theorem dX6_put_40 : decode cX6_put 40 = .ok (.iload_n 2, 1) := by decide +kernel
theorem dX6_put_41 : decode cX6_put 41 = .ok (.iastore, 1) := by decide +kernel
theorem dX6_put_42 : decode cX6_put 42 = .ok (.aload_n 0, 1) := by decide +kernel
theorem dX6_put_43 : decode cX6_put 43 = .ok (.getfield 53, 3) := by decide +kernel
theorem dX6_put_46 : decode cX6_put 46 = .ok (.iload 8, 2) := by decide +kernel
theorem dX6_put_48 : decode cX6_put 48 = .ok (.iload_n 3, 1) := by decide +kernel
theorem dX6_put_49 : decode cX6_put 49 = .ok (.iastore, 1) := by decide +kernel
theorem dX6_put_50 : decode cX6_put 50 = .ok (.aload_n 0, 1) := by decide +kernel
theorem dX6_put_51 : decode cX6_put 51 = .ok (.getfield 56, 3) := by decide +kernel
theorem dX6_put_54 : decode cX6_put 54 = .ok (.iload 8, 2) := by decide +kernel
theorem dX6_put_56 : decode cX6_put 56 = .ok (.iload 4, 2) := by decide +kernel
theorem dX6_put_58 : decode cX6_put 58 = .ok (.iastore, 1) := by decide +kernel
theorem dX6_put_59 : decode cX6_put 59 = .ok (.aload_n 0, 1) := by decide +kernel
theorem dX6_put_60 : decode cX6_put 60 = .ok (.getfield 59, 3) := by decide +kernel
theorem dX6_put_63 : decode cX6_put 63 = .ok (.iload 8, 2) := by decide +kernel
theorem dX6_put_65 : decode cX6_put 65 = .ok (.iload 5, 2) := by decide +kernel
theorem dX6_put_67 : decode cX6_put 67 = .ok (.iastore, 1) := by decide +kernel
theorem dX6_put_68 : decode cX6_put 68 = .ok (.aload_n 0, 1) := by decide +kernel
theorem dX6_put_69 : decode cX6_put 69 = .ok (.getfield 62, 3) := by decide +kernel
theorem dX6_put_72 : decode cX6_put 72 = .ok (.iload 8, 2) := by decide +kernel
theorem dX6_put_74 : decode cX6_put 74 = .ok (.iload 6, 2) := by decide +kernel
theorem dX6_put_76 : decode cX6_put 76 = .ok (.iastore, 1) := by decide +kernel
theorem dX6_put_77 : decode cX6_put 77 = .ok (.aload_n 0, 1) := by decide +kernel
theorem dX6_put_78 : decode cX6_put 78 = .ok (.getfield 65, 3) := by decide +kernel
theorem dX6_put_81 : decode cX6_put 81 = .ok (.iload 8, 2) := by decide +kernel
theorem dX6_put_83 : decode cX6_put 83 = .ok (.iload 7, 2) := by decide +kernel
theorem dX6_put_85 : decode cX6_put 85 = .ok (.iastore, 1) := by decide +kernel
theorem dX6_put_86 : decode cX6_put 86 = .ok (.aload_n 0, 1) := by decide +kernel
theorem dX6_put_87 : decode cX6_put 87 = .ok (.getfield 68, 3) := by decide +kernel
theorem dX6_put_90 : decode cX6_put 90 = .ok (.iload_n 1, 1) := by decide +kernel
theorem dX6_put_91 : decode cX6_put 91 = .ok (.dup2, 1) := by decide +kernel
theorem dX6_put_92 : decode cX6_put 92 = .ok (.iaload, 1) := by decide +kernel
theorem dX6_put_93 : decode cX6_put 93 = .ok (.iconst 1, 1) := by decide +kernel
theorem dX6_put_94 : decode cX6_put 94 = .ok (.iadd, 1) := by decide +kernel
theorem dX6_put_95 : decode cX6_put 95 = .ok (.iastore, 1) := by decide +kernel
theorem dX6_put_96 : decode cX6_put 96 = .ok (.iconst 1, 1) := by decide +kernel
theorem dX6_put_97 : decode cX6_put 97 = .ok (.ireturn, 1) := by decide +kernel
theorem dX6_again_0 : decode cX6_again 0 = .ok (.aload_n 0, 1) := by decide +kernel
theorem dX6_again_1 : decode cX6_again 1 = .ok (.iload_n 1, 1) := by decide +kernel
theorem dX6_again_2 : decode cX6_again 2 = .ok (.aload_n 0, 1) := by decide +kernel
theorem dX6_again_3 : decode cX6_again 3 = .ok (.getfield 50, 3) := by decide +kernel
theorem dX6_again_6 : decode cX6_again 6 = .ok (.iload_n 2, 1) := by decide +kernel
theorem dX6_again_7 : decode cX6_again 7 = .ok (.iaload, 1) := by decide +kernel
theorem dX6_again_8 : decode cX6_again 8 = .ok (.aload_n 0, 1) := by decide +kernel
theorem dX6_again_9 : decode cX6_again 9 = .ok (.getfield 53, 3) := by decide +kernel
theorem dX6_again_12 : decode cX6_again 12 = .ok (.iload_n 2, 1) := by decide +kernel
theorem dX6_again_13 : decode cX6_again 13 = .ok (.iaload, 1) := by decide +kernel
theorem dX6_again_14 : decode cX6_again 14 = .ok (.aload_n 0, 1) := by decide +kernel
theorem dX6_again_15 : decode cX6_again 15 = .ok (.getfield 56, 3) := by decide +kernel
theorem dX6_again_18 : decode cX6_again 18 = .ok (.iload_n 2, 1) := by decide +kernel
theorem dX6_again_19 : decode cX6_again 19 = .ok (.iaload, 1) := by decide +kernel
theorem dX6_again_20 : decode cX6_again 20 = .ok (.aload_n 0, 1) := by decide +kernel
theorem dX6_again_21 : decode cX6_again 21 = .ok (.getfield 59, 3) := by decide +kernel
theorem dX6_again_24 : decode cX6_again 24 = .ok (.iload_n 2, 1) := by decide +kernel
theorem dX6_again_25 : decode cX6_again 25 = .ok (.iaload, 1) := by decide +kernel
theorem dX6_again_26 : decode cX6_again 26 = .ok (.aload_n 0, 1) := by decide +kernel
theorem dX6_again_27 : decode cX6_again 27 = .ok (.getfield 62, 3) := by decide +kernel
theorem dX6_again_30 : decode cX6_again 30 = .ok (.iload_n 2, 1) := by decide +kernel
theorem dX6_again_31 : decode cX6_again 31 = .ok (.iaload, 1) := by decide +kernel
theorem dX6_again_32 : decode cX6_again 32 = .ok (.aload_n 0, 1) := by decide +kernel
theorem dX6_again_33 : decode cX6_again 33 = .ok (.getfield 65, 3) := by decide +kernel
theorem dX6_again_36 : decode cX6_again 36 = .ok (.iload_n 2, 1) := by decide +kernel
theorem dX6_again_37 : decode cX6_again 37 = .ok (.iaload, 1) := by decide +kernel
theorem dX6_again_38 : decode cX6_again 38 = .ok (.invokevirtual 115, 3) := by decide +kernel
theorem dX6_again_41 : decode cX6_again 41 = .ok (.ireturn, 1) := by decide +kernel
theorem dX6_letters_0 : decode cX6_letters 0 = .ok (.iconst 0, 1) := by decide +kernel
theorem dX6_letters_1 : decode cX6_letters 1 = .ok (.istore_n 1, 1) := by decide +kernel
theorem dX6_letters_2 : decode cX6_letters 2 = .ok (.iload_n 0, 1) := by decide +kernel
theorem dX6_letters_3 : decode cX6_letters 3 = .ok (.istore_n 2, 1) := by decide +kernel
theorem dX6_letters_4 : decode cX6_letters 4 = .ok (.iload_n 2, 1) := by decide +kernel
theorem dX6_letters_5 : decode cX6_letters 5 = .ok (.ifCond .le 14, 3) := by decide +kernel
theorem dX6_letters_8 : decode cX6_letters 8 = .ok (.iinc 1 1, 3) := by decide +kernel
theorem dX6_letters_11 : decode cX6_letters 11 = .ok (.iload_n 2, 1) := by decide +kernel
theorem dX6_letters_12 : decode cX6_letters 12 = .ok (.bipush 27, 2) := by decide +kernel
theorem dX6_letters_14 : decode cX6_letters 14 = .ok (.idiv, 1) := by decide +kernel
theorem dX6_letters_15 : decode cX6_letters 15 = .ok (.istore_n 2, 1) := by decide +kernel
theorem dX6_letters_16 : decode cX6_letters 16 = .ok (.goto (-12), 3) := by decide +kernel
theorem dX6_letters_19 : decode cX6_letters 19 = .ok (.iload_n 1, 1) := by decide +kernel
theorem dX6_letters_20 : decode cX6_letters 20 = .ok (.ireturn, 1) := by decide +kernel
theorem dX6_power_0 : decode cX6_power 0 = .ok (.iconst 1, 1) := by decide +kernel
theorem dX6_power_1 : decode cX6_power 1 = .ok (.istore_n 1, 1) := by decide +kernel
theorem dX6_power_2 : decode cX6_power 2 = .ok (.iconst 0, 1) := by decide +kernel
theorem dX6_power_3 : decode cX6_power 3 = .ok (.istore_n 2, 1) := by decide +kernel
theorem dX6_power_4 : decode cX6_power 4 = .ok (.iload_n 2, 1) := by decide +kernel
theorem dX6_power_5 : decode cX6_power 5 = .ok (.iload_n 0, 1) := by decide +kernel
theorem dX6_power_6 : decode cX6_power 6 = .ok (.if_icmp .ge 14, 3) := by decide +kernel
theorem dX6_power_9 : decode cX6_power 9 = .ok (.iload_n 1, 1) := by decide +kernel
theorem dX6_power_10 : decode cX6_power 10 = .ok (.bipush 27, 2) := by decide +kernel
theorem dX6_power_12 : decode cX6_power 12 = .ok (.imul, 1) := by decide +kernel
theorem dX6_power_13 : decode cX6_power 13 = .ok (.istore_n 1, 1) := by decide +kernel
theorem dX6_power_14 : decode cX6_power 14 = .ok (.iinc 2 1, 3) := by decide +kernel
theorem dX6_power_17 : decode cX6_power 17 = .ok (.goto (-13), 3) := by decide +kernel
theorem dX6_power_20 : decode cX6_power 20 = .ok (.iload_n 1, 1) := by decide +kernel
theorem dX6_power_21 : decode cX6_power 21 = .ok (.ireturn, 1) := by decide +kernel
theorem dX6_behind_0 : decode cX6_behind 0 = .ok (.iload_n 2, 1) := by decide +kernel
theorem dX6_behind_1 : decode cX6_behind 1 = .ok (.istore 4, 2) := by decide +kernel
theorem dX6_behind_3 : decode cX6_behind 3 = .ok (.iconst 0, 1) := by decide +kernel
theorem dX6_behind_4 : decode cX6_behind 4 = .ok (.istore 5, 2) := by decide +kernel
theorem dX6_behind_6 : decode cX6_behind 6 = .ok (.iload 5, 2) := by decide +kernel
theorem dX6_behind_8 : decode cX6_behind 8 = .ok (.aload_n 0, 1) := by decide +kernel
theorem dX6_behind_9 : decode cX6_behind 9 = .ok (.getfield 38, 3) := by decide +kernel
theorem dX6_behind_12 : decode cX6_behind 12 = .ok (.iload_n 1, 1) := by decide +kernel
theorem dX6_behind_13 : decode cX6_behind 13 = .ok (.iaload, 1) := by decide +kernel
theorem dX6_behind_14 : decode cX6_behind 14 = .ok (.if_icmp .ge 83, 3) := by decide +kernel
theorem dX6_behind_17 : decode cX6_behind 17 = .ok (.iload 5, 2) := by decide +kernel
theorem dX6_behind_19 : decode cX6_behind 19 = .ok (.ifCond .le 36, 3) := by decide +kernel
theorem dX6_behind_22 : decode cX6_behind 22 = .ok (.iload 4, 2) := by decide +kernel
theorem dX6_behind_24 : decode cX6_behind 24 = .ok (.iload_n 3, 1) := by decide +kernel
theorem dX6_behind_25 : decode cX6_behind 25 = .ok (.if_icmp .ge 30, 3) := by decide +kernel
theorem dX6_behind_28 : decode cX6_behind 28 = .ok (.aload_n 0, 1) := by decide +kernel
theorem dX6_behind_29 : decode cX6_behind 29 = .ok (.getfield 50, 3) := by decide +kernel
theorem dX6_behind_32 : decode cX6_behind 32 = .ok (.iload 4, 2) := by decide +kernel
theorem dX6_behind_34 : decode cX6_behind 34 = .ok (.iaload, 1) := by decide +kernel
theorem dX6_behind_35 : decode cX6_behind 35 = .ok (.ifCond .eq 14, 3) := by decide +kernel
theorem dX6_behind_38 : decode cX6_behind 38 = .ok (.aload_n 0, 1) := by decide +kernel
theorem dX6_behind_39 : decode cX6_behind 39 = .ok (.getfield 50, 3) := by decide +kernel
theorem dX6_behind_42 : decode cX6_behind 42 = .ok (.iload 4, 2) := by decide +kernel
theorem dX6_behind_44 : decode cX6_behind 44 = .ok (.iaload, 1) := by decide +kernel
theorem dX6_behind_45 : decode cX6_behind 45 = .ok (.iconst (-1), 1) := by decide +kernel
theorem dX6_behind_46 : decode cX6_behind 46 = .ok (.if_icmp .ne 9, 3) := by decide +kernel
theorem dX6_behind_49 : decode cX6_behind 49 = .ok (.iinc 4 1, 3) := by decide +kernel
theorem dX6_behind_52 : decode cX6_behind 52 = .ok (.goto (-35), 3) := by decide +kernel
theorem dX6_behind_55 : decode cX6_behind 55 = .ok (.iload 4, 2) := by decide +kernel
theorem dX6_behind_57 : decode cX6_behind 57 = .ok (.iload_n 3, 1) := by decide +kernel
theorem dX6_behind_58 : decode cX6_behind 58 = .ok (.if_icmp .eq 28, 3) := by decide +kernel
theorem dX6_behind_61 : decode cX6_behind 61 = .ok (.aload_n 0, 1) := by decide +kernel
theorem dX6_behind_62 : decode cX6_behind 62 = .ok (.getfield 50, 3) := by decide +kernel
theorem dX6_behind_65 : decode cX6_behind 65 = .ok (.iload 4, 2) := by decide +kernel
theorem dX6_behind_67 : decode cX6_behind 67 = .ok (.iaload, 1) := by decide +kernel
theorem dX6_behind_68 : decode cX6_behind 68 = .ok (.aload_n 0, 1) := by decide +kernel
theorem dX6_behind_69 : decode cX6_behind 69 = .ok (.getfield 44, 3) := by decide +kernel
theorem dX6_behind_72 : decode cX6_behind 72 = .ok (.bipush 10, 2) := by decide +kernel
theorem dX6_behind_74 : decode cX6_behind 74 = .ok (.iload_n 1, 1) := by decide +kernel
theorem dX6_behind_75 : decode cX6_behind 75 = .ok (.imul, 1) := by decide +kernel
theorem dX6_behind_76 : decode cX6_behind 76 = .ok (.bipush 10, 2) := by decide +kernel
theorem dX6_behind_78 : decode cX6_behind 78 = .ok (.isub, 1) := by decide +kernel
theorem dX6_behind_79 : decode cX6_behind 79 = .ok (.iload 5, 2) := by decide +kernel
theorem dX6_behind_81 : decode cX6_behind 81 = .ok (.iadd, 1) := by decide +kernel
theorem dX6_behind_82 : decode cX6_behind 82 = .ok (.iaload, 1) := by decide +kernel
theorem dX6_behind_83 : decode cX6_behind 83 = .ok (.if_icmp .eq 5, 3) := by decide +kernel
theorem dX6_behind_86 : decode cX6_behind 86 = .ok (.iconst 0, 1) := by decide +kernel
theorem dX6_behind_87 : decode cX6_behind 87 = .ok (.ireturn, 1) := by decide +kernel
theorem dX6_behind_88 : decode cX6_behind 88 = .ok (.iinc 4 1, 3) := by decide +kernel
theorem dX6_behind_91 : decode cX6_behind 91 = .ok (.iinc 5 1, 3) := by decide +kernel
theorem dX6_behind_94 : decode cX6_behind 94 = .ok (.goto (-88), 3) := by decide +kernel
theorem dX6_behind_97 : decode cX6_behind 97 = .ok (.iload 4, 2) := by decide +kernel
theorem dX6_behind_99 : decode cX6_behind 99 = .ok (.ireturn, 1) := by decide +kernel
theorem dX6_hasPart_0 : decode cX6_hasPart 0 = .ok (.aload_n 0, 1) := by decide +kernel
theorem dX6_hasPart_1 : decode cX6_hasPart 1 = .ok (.getfield 44, 3) := by decide +kernel
theorem dX6_hasPart_4 : decode cX6_hasPart 4 = .ok (.bipush 10, 2) := by decide +kernel
theorem dX6_hasPart_6 : decode cX6_hasPart 6 = .ok (.iload_n 1, 1) := by decide +kernel
theorem dX6_hasPart_7 : decode cX6_hasPart 7 = .ok (.imul, 1) := by decide +kernel
theorem dX6_hasPart_8 : decode cX6_hasPart 8 = .ok (.bipush 10, 2) := by decide +kernel
theorem dX6_hasPart_10 : decode cX6_hasPart 10 = .ok (.isub, 1) := by decide +kernel
theorem dX6_hasPart_11 : decode cX6_hasPart 11 = .ok (.iaload, 1) := by decide +kernel
theorem dX6_hasPart_12 : decode cX6_hasPart 12 = .ok (.istore_n 3, 1) := by decide +kernel
theorem dX6_hasPart_13 : decode cX6_hasPart 13 = .ok (.iload_n 2, 1) := by decide +kernel
theorem dX6_hasPart_14 : decode cX6_hasPart 14 = .ok (.invokestatic 119, 3) := by decide +kernel
theorem dX6_hasPart_17 : decode cX6_hasPart 17 = .ok (.iload_n 3, 1) := by decide +kernel
theorem dX6_hasPart_18 : decode cX6_hasPart 18 = .ok (.invokestatic 119, 3) := by decide +kernel
theorem dX6_hasPart_21 : decode cX6_hasPart 21 = .ok (.isub, 1) := by decide +kernel
theorem dX6_hasPart_22 : decode cX6_hasPart 22 = .ok (.istore 4, 2) := by decide +kernel
theorem dX6_hasPart_24 : decode cX6_hasPart 24 = .ok (.iload 4, 2) := by decide +kernel
theorem dX6_hasPart_26 : decode cX6_hasPart 26 = .ok (.iconst 1, 1) := by decide +kernel
theorem dX6_hasPart_27 : decode cX6_hasPart 27 = .ok (.if_icmp .ge 5, 3) := by decide +kernel
theorem dX6_hasPart_30 : decode cX6_hasPart 30 = .ok (.iconst 0, 1) := by decide +kernel
theorem dX6_hasPart_31 : decode cX6_hasPart 31 = .ok (.ireturn, 1) := by decide +kernel
theorem dX6_hasPart_32 : decode cX6_hasPart 32 = .ok (.aload_n 0, 1) := by decide +kernel
theorem dX6_hasPart_33 : decode cX6_hasPart 33 = .ok (.getfield 35, 3) := by decide +kernel
theorem dX6_hasPart_36 : decode cX6_hasPart 36 = .ok (.iload_n 1, 1) := by decide +kernel
theorem dX6_hasPart_37 : decode cX6_hasPart 37 = .ok (.iaload, 1) := by decide +kernel
theorem dX6_hasPart_38 : decode cX6_hasPart 38 = .ok (.iconst 1, 1) := by decide +kernel
theorem dX6_hasPart_39 : decode cX6_hasPart 39 = .ok (.if_icmp .ne 22, 3) := by decide +kernel
theorem dX6_hasPart_42 : decode cX6_hasPart 42 = .ok (.iload_n 2, 1) := by decide +kernel
theorem dX6_hasPart_43 : decode cX6_hasPart 43 = .ok (.iload 4, 2) := by decide +kernel
theorem dX6_hasPart_45 : decode cX6_hasPart 45 = .ok (.invokestatic 123, 3) := by decide +kernel
theorem dX6_hasPart_48 : decode cX6_hasPart 48 = .ok (.idiv, 1) := by decide +kernel
theorem dX6_hasPart_49 : decode cX6_hasPart 49 = .ok (.iload_n 3, 1) := by decide +kernel
theorem dX6_hasPart_50 : decode cX6_hasPart 50 = .ok (.if_icmp .ne 7, 3) := by decide +kernel
theorem dX6_hasPart_53 : decode cX6_hasPart 53 = .ok (.iconst 1, 1) := by decide +kernel
theorem dX6_hasPart_54 : decode cX6_hasPart 54 = .ok (.goto 25, 3) := by decide +kernel
theorem dX6_hasPart_57 : decode cX6_hasPart 57 = .ok (.iconst 0, 1) := by decide +kernel
theorem dX6_hasPart_58 : decode cX6_hasPart 58 = .ok (.goto 21, 3) := by decide +kernel
theorem dX6_hasPart_61 : decode cX6_hasPart 61 = .ok (.iload_n 2, 1) := by decide +kernel
theorem dX6_hasPart_62 : decode cX6_hasPart 62 = .ok (.iload_n 3, 1) := by decide +kernel
theorem dX6_hasPart_63 : decode cX6_hasPart 63 = .ok (.invokestatic 119, 3) := by decide +kernel
theorem dX6_hasPart_66 : decode cX6_hasPart 66 = .ok (.invokestatic 123, 3) := by decide +kernel
theorem dX6_hasPart_69 : decode cX6_hasPart 69 = .ok (.irem, 1) := by decide +kernel
theorem dX6_hasPart_70 : decode cX6_hasPart 70 = .ok (.iload_n 3, 1) := by decide +kernel
theorem dX6_hasPart_71 : decode cX6_hasPart 71 = .ok (.if_icmp .ne 7, 3) := by decide +kernel
theorem dX6_hasPart_74 : decode cX6_hasPart 74 = .ok (.iconst 1, 1) := by decide +kernel
theorem dX6_hasPart_75 : decode cX6_hasPart 75 = .ok (.goto 4, 3) := by decide +kernel
theorem dX6_hasPart_78 : decode cX6_hasPart 78 = .ok (.iconst 0, 1) := by decide +kernel
theorem dX6_hasPart_79 : decode cX6_hasPart 79 = .ok (.ireturn, 1) := by decide +kernel
theorem dX6_changed_0 : decode cX6_changed 0 = .ok (.aload_n 0, 1) := by decide +kernel
theorem dX6_changed_1 : decode cX6_changed 1 = .ok (.getfield 44, 3) := by decide +kernel
theorem dX6_changed_4 : decode cX6_changed 4 = .ok (.bipush 10, 2) := by decide +kernel
theorem dX6_changed_6 : decode cX6_changed 6 = .ok (.iload_n 1, 1) := by decide +kernel
theorem dX6_changed_7 : decode cX6_changed 7 = .ok (.imul, 1) := by decide +kernel
theorem dX6_changed_8 : decode cX6_changed 8 = .ok (.bipush 10, 2) := by decide +kernel
theorem dX6_changed_10 : decode cX6_changed 10 = .ok (.isub, 1) := by decide +kernel
theorem dX6_changed_11 : decode cX6_changed 11 = .ok (.iaload, 1) := by decide +kernel
theorem dX6_changed_12 : decode cX6_changed 12 = .ok (.invokestatic 119, 3) := by decide +kernel
theorem dX6_changed_15 : decode cX6_changed 15 = .ok (.istore_n 3, 1) := by decide +kernel
theorem dX6_changed_16 : decode cX6_changed 16 = .ok (.iload_n 2, 1) := by decide +kernel
theorem dX6_changed_17 : decode cX6_changed 17 = .ok (.invokestatic 119, 3) := by decide +kernel
theorem dX6_changed_20 : decode cX6_changed 20 = .ok (.iload_n 3, 1) := by decide +kernel
theorem dX6_changed_21 : decode cX6_changed 21 = .ok (.isub, 1) := by decide +kernel
theorem dX6_changed_22 : decode cX6_changed 22 = .ok (.istore 4, 2) := by decide +kernel
theorem dX6_changed_24 : decode cX6_changed 24 = .ok (.aload_n 0, 1) := by decide +kernel
theorem dX6_changed_25 : decode cX6_changed 25 = .ok (.getfield 41, 3) := by decide +kernel
theorem dX6_changed_28 : decode cX6_changed 28 = .ok (.iload_n 1, 1) := by decide +kernel
theorem dX6_changed_29 : decode cX6_changed 29 = .ok (.iaload, 1) := by decide +kernel
theorem dX6_changed_30 : decode cX6_changed 30 = .ok (.ifCond .le 18, 3) := by decide +kernel
theorem dX6_changed_33 : decode cX6_changed 33 = .ok (.aload_n 0, 1) := by decide +kernel
theorem dX6_changed_34 : decode cX6_changed 34 = .ok (.getfield 47, 3) := by decide +kernel
theorem dX6_changed_37 : decode cX6_changed 37 = .ok (.bipush 10, 2) := by decide +kernel
theorem dX6_changed_39 : decode cX6_changed 39 = .ok (.iload_n 1, 1) := by decide +kernel
theorem dX6_changed_40 : decode cX6_changed 40 = .ok (.imul, 1) := by decide +kernel
theorem dX6_changed_41 : decode cX6_changed 41 = .ok (.bipush 10, 2) := by decide +kernel
theorem dX6_changed_43 : decode cX6_changed 43 = .ok (.isub, 1) := by decide +kernel
theorem dX6_changed_44 : decode cX6_changed 44 = .ok (.iaload, 1) := by decide +kernel
theorem dX6_changed_45 : decode cX6_changed 45 = .ok (.goto 4, 3) := by decide +kernel
theorem dX6_changed_48 : decode cX6_changed 48 = .ok (.iconst 0, 1) := by decide +kernel
theorem dX6_changed_49 : decode cX6_changed 49 = .ok (.istore 5, 2) := by decide +kernel
theorem dX6_changed_51 : decode cX6_changed 51 = .ok (.iload 4, 2) := by decide +kernel
theorem dX6_changed_53 : decode cX6_changed 53 = .ok (.iload 5, 2) := by decide +kernel
theorem dX6_changed_55 : decode cX6_changed 55 = .ok (.invokestatic 119, 3) := by decide +kernel
theorem dX6_changed_58 : decode cX6_changed 58 = .ok (.iadd, 1) := by decide +kernel
theorem dX6_changed_59 : decode cX6_changed 59 = .ok (.bipush 6, 2) := by decide +kernel
theorem dX6_changed_61 : decode cX6_changed 61 = .ok (.if_icmp .le 5, 3) := by decide +kernel
theorem dX6_changed_64 : decode cX6_changed 64 = .ok (.iconst 0, 1) := by decide +kernel
theorem dX6_changed_65 : decode cX6_changed 65 = .ok (.ireturn, 1) := by decide +kernel
theorem dX6_changed_66 : decode cX6_changed 66 = .ok (.aload_n 0, 1) := by decide +kernel
theorem dX6_changed_67 : decode cX6_changed 67 = .ok (.getfield 35, 3) := by decide +kernel
theorem dX6_changed_70 : decode cX6_changed 70 = .ok (.iload_n 1, 1) := by decide +kernel
theorem dX6_changed_71 : decode cX6_changed 71 = .ok (.iaload, 1) := by decide +kernel
theorem dX6_changed_72 : decode cX6_changed 72 = .ok (.iconst 1, 1) := by decide +kernel
theorem dX6_changed_73 : decode cX6_changed 73 = .ok (.if_icmp .ne 22, 3) := by decide +kernel
theorem dX6_changed_76 : decode cX6_changed 76 = .ok (.iload 5, 2) := by decide +kernel
theorem dX6_changed_78 : decode cX6_changed 78 = .ok (.iload 4, 2) := by decide +kernel
theorem dX6_changed_80 : decode cX6_changed 80 = .ok (.invokestatic 123, 3) := by decide +kernel
theorem dX6_changed_83 : decode cX6_changed 83 = .ok (.imul, 1) := by decide +kernel
theorem dX6_changed_84 : decode cX6_changed 84 = .ok (.iload_n 2, 1) := by decide +kernel
theorem dX6_changed_85 : decode cX6_changed 85 = .ok (.iload 4, 2) := by decide +kernel
theorem dX6_changed_87 : decode cX6_changed 87 = .ok (.invokestatic 123, 3) := by decide +kernel
theorem dX6_changed_90 : decode cX6_changed 90 = .ok (.irem, 1) := by decide +kernel
theorem dX6_changed_91 : decode cX6_changed 91 = .ok (.iadd, 1) := by decide +kernel
theorem dX6_changed_92 : decode cX6_changed 92 = .ok (.goto 21, 3) := by decide +kernel
theorem dX6_changed_95 : decode cX6_changed 95 = .ok (.iload_n 2, 1) := by decide +kernel
theorem dX6_changed_96 : decode cX6_changed 96 = .ok (.iload_n 3, 1) := by decide +kernel
theorem dX6_changed_97 : decode cX6_changed 97 = .ok (.invokestatic 123, 3) := by decide +kernel
theorem dX6_changed_100 : decode cX6_changed 100 = .ok (.idiv, 1) := by decide +kernel
theorem dX6_changed_101 : decode cX6_changed 101 = .ok (.iload 5, 2) := by decide +kernel
theorem dX6_changed_103 : decode cX6_changed 103 = .ok (.invokestatic 119, 3) := by decide +kernel
theorem dX6_changed_106 : decode cX6_changed 106 = .ok (.invokestatic 123, 3) := by decide +kernel
theorem dX6_changed_109 : decode cX6_changed 109 = .ok (.imul, 1) := by decide +kernel
theorem dX6_changed_110 : decode cX6_changed 110 = .ok (.iload 5, 2) := by decide +kernel
theorem dX6_changed_112 : decode cX6_changed 112 = .ok (.iadd, 1) := by decide +kernel
theorem dX6_changed_113 : decode cX6_changed 113 = .ok (.ireturn, 1) := by decide +kernel
theorem dX6_step_0 : decode cX6_step 0 = .ok (.iconst 0, 1) := by decide +kernel
theorem dX6_step_1 : decode cX6_step 1 = .ok (.istore 5, 2) := by decide +kernel
theorem dX6_step_3 : decode cX6_step 3 = .ok (.iload 5, 2) := by decide +kernel
theorem dX6_step_5 : decode cX6_step 5 = .ok (.aload_n 0, 1) := by decide +kernel
theorem dX6_step_6 : decode cX6_step 6 = .ok (.getfield 22, 3) := by decide +kernel
theorem dX6_step_9 : decode cX6_step 9 = .ok (.iload_n 1, 1) := by decide +kernel
theorem dX6_step_10 : decode cX6_step 10 = .ok (.iaload, 1) := by decide +kernel
theorem dX6_step_11 : decode cX6_step 11 = .ok (.if_icmp .ge 253, 3) := by decide +kernel
theorem dX6_step_14 : decode cX6_step 14 = .ok (.aload_n 0, 1) := by decide +kernel
theorem dX6_step_15 : decode cX6_step 15 = .ok (.getfield 50, 3) := by decide +kernel
theorem dX6_step_18 : decode cX6_step 18 = .ok (.iload_n 2, 1) := by decide +kernel
theorem dX6_step_19 : decode cX6_step 19 = .ok (.iaload, 1) := by decide +kernel
theorem dX6_step_20 : decode cX6_step 20 = .ok (.ifCond .le 244, 3) := by decide +kernel
theorem dX6_step_23 : decode cX6_step 23 = .ok (.aload_n 0, 1) := by decide +kernel
theorem dX6_step_24 : decode cX6_step 24 = .ok (.getfield 25, 3) := by decide +kernel
theorem dX6_step_27 : decode cX6_step 27 = .ok (.bipush 8, 2) := by decide +kernel
theorem dX6_step_29 : decode cX6_step 29 = .ok (.iload_n 1, 1) := by decide +kernel
theorem dX6_step_30 : decode cX6_step 30 = .ok (.imul, 1) := by decide +kernel
theorem dX6_step_31 : decode cX6_step 31 = .ok (.bipush 8, 2) := by decide +kernel
theorem dX6_step_33 : decode cX6_step 33 = .ok (.isub, 1) := by decide +kernel
theorem dX6_step_34 : decode cX6_step 34 = .ok (.iload 5, 2) := by decide +kernel
theorem dX6_step_36 : decode cX6_step 36 = .ok (.iadd, 1) := by decide +kernel
theorem dX6_step_37 : decode cX6_step 37 = .ok (.iaload, 1) := by decide +kernel
theorem dX6_step_38 : decode cX6_step 38 = .ok (.istore 6, 2) := by decide +kernel
theorem dX6_step_40 : decode cX6_step 40 = .ok (.aload_n 0, 1) := by decide +kernel
theorem dX6_step_41 : decode cX6_step 41 = .ok (.getfield 35, 3) := by decide +kernel
theorem dX6_step_44 : decode cX6_step 44 = .ok (.iload 6, 2) := by decide +kernel
theorem dX6_step_46 : decode cX6_step 46 = .ok (.iaload, 1) := by decide +kernel
theorem dX6_step_47 : decode cX6_step 47 = .ok (.ifCond .ne 108, 3) := by decide +kernel
theorem dX6_step_50 : decode cX6_step 50 = .ok (.aload_n 0, 1) := by decide +kernel
theorem dX6_step_51 : decode cX6_step 51 = .ok (.iload 6, 2) := by decide +kernel
theorem dX6_step_53 : decode cX6_step 53 = .ok (.iload_n 2, 1) := by decide +kernel
theorem dX6_step_54 : decode cX6_step 54 = .ok (.iload_n 3, 1) := by decide +kernel
theorem dX6_step_55 : decode cX6_step 55 = .ok (.invokevirtual 126, 3) := by decide +kernel
theorem dX6_step_58 : decode cX6_step 58 = .ok (.istore 7, 2) := by decide +kernel
theorem dX6_step_60 : decode cX6_step 60 = .ok (.iload 7, 2) := by decide +kernel
theorem dX6_step_62 : decode cX6_step 62 = .ok (.ifCond .ne 6, 3) := by decide +kernel
theorem dX6_step_65 : decode cX6_step 65 = .ok (.goto 193, 3) := by decide +kernel
theorem dX6_step_68 : decode cX6_step 68 = .ok (.aload_n 0, 1) := by decide +kernel
theorem dX6_step_69 : decode cX6_step 69 = .ok (.dup, 1) := by decide +kernel
theorem dX6_step_70 : decode cX6_step 70 = .ok (.getfield 130, 3) := by decide +kernel
theorem dX6_step_73 : decode cX6_step 73 = .ok (.iconst 1, 1) := by decide +kernel
theorem dX6_step_74 : decode cX6_step 74 = .ok (.iadd, 1) := by decide +kernel
theorem dX6_step_75 : decode cX6_step 75 = .ok (.putfield 130, 3) := by decide +kernel
theorem dX6_step_78 : decode cX6_step 78 = .ok (.iconst 0, 1) := by decide +kernel
theorem dX6_step_79 : decode cX6_step 79 = .ok (.istore 8, 2) := by decide +kernel
theorem dX6_step_81 : decode cX6_step 81 = .ok (.iload 8, 2) := by decide +kernel
theorem dX6_step_83 : decode cX6_step 83 = .ok (.aload_n 0, 1) := by decide +kernel
theorem dX6_step_84 : decode cX6_step 84 = .ok (.getfield 41, 3) := by decide +kernel
theorem dX6_step_87 : decode cX6_step 87 = .ok (.iload 6, 2) := by decide +kernel
theorem dX6_step_89 : decode cX6_step 89 = .ok (.iaload, 1) := by decide +kernel
theorem dX6_step_90 : decode cX6_step 90 = .ok (.if_icmp .ge 62, 3) := by decide +kernel
theorem dX6_step_93 : decode cX6_step 93 = .ok (.aload_n 0, 1) := by decide +kernel
theorem dX6_step_94 : decode cX6_step 94 = .ok (.iload 4, 2) := by decide +kernel
theorem dX6_step_96 : decode cX6_step 96 = .ok (.aload_n 0, 1) := by decide +kernel
theorem dX6_step_97 : decode cX6_step 97 = .ok (.getfield 47, 3) := by decide +kernel
theorem dX6_step_100 : decode cX6_step 100 = .ok (.bipush 10, 2) := by decide +kernel
theorem dX6_step_102 : decode cX6_step 102 = .ok (.iload 6, 2) := by decide +kernel
theorem dX6_step_104 : decode cX6_step 104 = .ok (.imul, 1) := by decide +kernel
theorem dX6_step_105 : decode cX6_step 105 = .ok (.bipush 10, 2) := by decide +kernel
theorem dX6_step_107 : decode cX6_step 107 = .ok (.isub, 1) := by decide +kernel
theorem dX6_step_108 : decode cX6_step 108 = .ok (.iload 8, 2) := by decide +kernel
theorem dX6_step_110 : decode cX6_step 110 = .ok (.iadd, 1) := by decide +kernel
theorem dX6_step_111 : decode cX6_step 111 = .ok (.iaload, 1) := by decide +kernel
theorem dX6_step_112 : decode cX6_step 112 = .ok (.aload_n 0, 1) := by decide +kernel
theorem dX6_step_113 : decode cX6_step 113 = .ok (.getfield 53, 3) := by decide +kernel
theorem dX6_step_116 : decode cX6_step 116 = .ok (.iload_n 2, 1) := by decide +kernel
theorem dX6_step_117 : decode cX6_step 117 = .ok (.iaload, 1) := by decide +kernel
theorem dX6_step_118 : decode cX6_step 118 = .ok (.aload_n 0, 1) := by decide +kernel
theorem dX6_step_119 : decode cX6_step 119 = .ok (.getfield 56, 3) := by decide +kernel
theorem dX6_step_122 : decode cX6_step 122 = .ok (.iload_n 2, 1) := by decide +kernel
theorem dX6_step_123 : decode cX6_step 123 = .ok (.iaload, 1) := by decide +kernel
theorem dX6_step_124 : decode cX6_step 124 = .ok (.iload 6, 2) := by decide +kernel
theorem dX6_step_126 : decode cX6_step 126 = .ok (.aload_n 0, 1) := by decide +kernel
theorem dX6_step_127 : decode cX6_step 127 = .ok (.getfield 62, 3) := by decide +kernel
theorem dX6_step_130 : decode cX6_step 130 = .ok (.iload_n 2, 1) := by decide +kernel
theorem dX6_step_131 : decode cX6_step 131 = .ok (.iaload, 1) := by decide +kernel
theorem dX6_step_132 : decode cX6_step 132 = .ok (.aload_n 0, 1) := by decide +kernel
theorem dX6_step_133 : decode cX6_step 133 = .ok (.getfield 65, 3) := by decide +kernel
theorem dX6_step_136 : decode cX6_step 136 = .ok (.iload_n 2, 1) := by decide +kernel
theorem dX6_step_137 : decode cX6_step 137 = .ok (.iaload, 1) := by decide +kernel
theorem dX6_step_138 : decode cX6_step 138 = .ok (.invokevirtual 115, 3) := by decide +kernel
theorem dX6_step_141 : decode cX6_step 141 = .ok (.ifCond .ne 5, 3) := by decide +kernel
theorem dX6_step_144 : decode cX6_step 144 = .ok (.iconst 0, 1) := by decide +kernel
theorem dX6_step_145 : decode cX6_step 145 = .ok (.ireturn, 1) := by decide +kernel
theorem dX6_step_146 : decode cX6_step 146 = .ok (.iinc 8 1, 3) := by decide +kernel
theorem dX6_step_149 : decode cX6_step 149 = .ok (.goto (-68), 3) := by decide +kernel
theorem dX6_step_152 : decode cX6_step 152 = .ok (.iload 7, 2) := by decide +kernel
theorem dX6_step_154 : decode cX6_step 154 = .ok (.ireturn, 1) := by decide +kernel
theorem dX6_step_155 : decode cX6_step 155 = .ok (.aload_n 0, 1) := by decide +kernel
theorem dX6_step_156 : decode cX6_step 156 = .ok (.iload 6, 2) := by decide +kernel
theorem dX6_step_158 : decode cX6_step 158 = .ok (.aload_n 0, 1) := by decide +kernel
theorem dX6_step_159 : decode cX6_step 159 = .ok (.getfield 50, 3) := by decide +kernel
theorem dX6_step_162 : decode cX6_step 162 = .ok (.iload_n 2, 1) := by decide +kernel
theorem dX6_step_163 : decode cX6_step 163 = .ok (.iaload, 1) := by decide +kernel
theorem dX6_step_164 : decode cX6_step 164 = .ok (.invokevirtual 133, 3) := by decide +kernel
theorem dX6_step_167 : decode cX6_step 167 = .ok (.ifCond .ne 6, 3) := by decide +kernel
theorem dX6_step_170 : decode cX6_step 170 = .ok (.goto 88, 3) := by decide +kernel
theorem dX6_step_173 : decode cX6_step 173 = .ok (.aload_n 0, 1) := by decide +kernel
theorem dX6_step_174 : decode cX6_step 174 = .ok (.dup, 1) := by decide +kernel
theorem dX6_step_175 : decode cX6_step 175 = .ok (.getfield 130, 3) := by decide +kernel
theorem dX6_step_178 : decode cX6_step 178 = .ok (.iconst 1, 1) := by decide +kernel
theorem dX6_step_179 : decode cX6_step 179 = .ok (.iadd, 1) := by decide +kernel
theorem dX6_step_180 : decode cX6_step 180 = .ok (.putfield 130, 3) := by decide +kernel
theorem dX6_step_183 : decode cX6_step 183 = .ok (.aload_n 0, 1) := by decide +kernel
theorem dX6_step_184 : decode cX6_step 184 = .ok (.iload 6, 2) := by decide +kernel
theorem dX6_step_186 : decode cX6_step 186 = .ok (.aload_n 0, 1) := by decide +kernel
theorem dX6_step_187 : decode cX6_step 187 = .ok (.getfield 50, 3) := by decide +kernel
theorem dX6_step_190 : decode cX6_step 190 = .ok (.iload_n 2, 1) := by decide +kernel
theorem dX6_step_191 : decode cX6_step 191 = .ok (.iaload, 1) := by decide +kernel
theorem dX6_step_192 : decode cX6_step 192 = .ok (.invokevirtual 137, 3) := by decide +kernel
theorem dX6_step_195 : decode cX6_step 195 = .ok (.istore 7, 2) := by decide +kernel
theorem dX6_step_197 : decode cX6_step 197 = .ok (.iload 7, 2) := by decide +kernel
theorem dX6_step_199 : decode cX6_step 199 = .ok (.ifCond .ne 9, 3) := by decide +kernel
theorem dX6_step_202 : decode cX6_step 202 = .ok (.aload_n 0, 1) := by decide +kernel
theorem dX6_step_203 : decode cX6_step 203 = .ok (.bipush (-5), 2) := by decide +kernel
theorem dX6_step_205 : decode cX6_step 205 = .ok (.putfield 112, 3) := by decide +kernel
theorem dX6_step_208 : decode cX6_step 208 = .ok (.iload 7, 2) := by decide +kernel
theorem dX6_step_210 : decode cX6_step 210 = .ok (.ifCond .le 46, 3) := by decide +kernel
theorem dX6_step_213 : decode cX6_step 213 = .ok (.aload_n 0, 1) := by decide +kernel
theorem dX6_step_214 : decode cX6_step 214 = .ok (.iload 4, 2) := by decide +kernel
theorem dX6_step_216 : decode cX6_step 216 = .ok (.iload 7, 2) := by decide +kernel
theorem dX6_step_218 : decode cX6_step 218 = .ok (.aload_n 0, 1) := by decide +kernel
theorem dX6_step_219 : decode cX6_step 219 = .ok (.getfield 53, 3) := by decide +kernel
theorem dX6_step_222 : decode cX6_step 222 = .ok (.iload_n 2, 1) := by decide +kernel
theorem dX6_step_223 : decode cX6_step 223 = .ok (.iaload, 1) := by decide +kernel
theorem dX6_step_224 : decode cX6_step 224 = .ok (.aload_n 0, 1) := by decide +kernel
theorem dX6_step_225 : decode cX6_step 225 = .ok (.getfield 56, 3) := by decide +kernel
theorem dX6_step_228 : decode cX6_step 228 = .ok (.iload_n 2, 1) := by decide +kernel
theorem dX6_step_229 : decode cX6_step 229 = .ok (.iaload, 1) := by decide +kernel
theorem dX6_step_230 : decode cX6_step 230 = .ok (.iload 6, 2) := by decide +kernel
theorem dX6_step_232 : decode cX6_step 232 = .ok (.aload_n 0, 1) := by decide +kernel
theorem dX6_step_233 : decode cX6_step 233 = .ok (.getfield 62, 3) := by decide +kernel
theorem dX6_step_236 : decode cX6_step 236 = .ok (.iload_n 2, 1) := by decide +kernel
theorem dX6_step_237 : decode cX6_step 237 = .ok (.iaload, 1) := by decide +kernel
theorem dX6_step_238 : decode cX6_step 238 = .ok (.aload_n 0, 1) := by decide +kernel
theorem dX6_step_239 : decode cX6_step 239 = .ok (.getfield 65, 3) := by decide +kernel
theorem dX6_step_242 : decode cX6_step 242 = .ok (.iload_n 2, 1) := by decide +kernel
theorem dX6_step_243 : decode cX6_step 243 = .ok (.iaload, 1) := by decide +kernel
theorem dX6_step_244 : decode cX6_step 244 = .ok (.invokevirtual 115, 3) := by decide +kernel
theorem dX6_step_247 : decode cX6_step 247 = .ok (.ifCond .eq 9, 3) := by decide +kernel
theorem dX6_step_250 : decode cX6_step 250 = .ok (.iload_n 2, 1) := by decide +kernel
theorem dX6_step_251 : decode cX6_step 251 = .ok (.iconst 1, 1) := by decide +kernel
theorem dX6_step_252 : decode cX6_step 252 = .ok (.iadd, 1) := by decide +kernel
theorem dX6_step_253 : decode cX6_step 253 = .ok (.goto 4, 3) := by decide +kernel
theorem dX6_step_256 : decode cX6_step 256 = .ok (.iconst 0, 1) := by decide +kernel
theorem dX6_step_257 : decode cX6_step 257 = .ok (.ireturn, 1) := by decide +kernel
theorem dX6_step_258 : decode cX6_step 258 = .ok (.iinc 5 1, 3) := by decide +kernel
theorem dX6_step_261 : decode cX6_step 261 = .ok (.goto (-258), 3) := by decide +kernel
theorem dX6_step_264 : decode cX6_step 264 = .ok (.aload_n 0, 1) := by decide +kernel
theorem dX6_step_265 : decode cX6_step 265 = .ok (.iload 4, 2) := by decide +kernel
theorem dX6_step_267 : decode cX6_step 267 = .ok (.iload_n 2, 1) := by decide +kernel
theorem dX6_step_268 : decode cX6_step 268 = .ok (.invokevirtual 140, 3) := by decide +kernel
theorem dX6_step_271 : decode cX6_step 271 = .ok (.ifCond .eq 9, 3) := by decide +kernel
theorem dX6_step_274 : decode cX6_step 274 = .ok (.iload_n 2, 1) := by decide +kernel
theorem dX6_step_275 : decode cX6_step 275 = .ok (.iconst 1, 1) := by decide +kernel
theorem dX6_step_276 : decode cX6_step 276 = .ok (.iadd, 1) := by decide +kernel
theorem dX6_step_277 : decode cX6_step 277 = .ok (.goto 4, 3) := by decide +kernel
theorem dX6_step_280 : decode cX6_step 280 = .ok (.iconst 0, 1) := by decide +kernel
theorem dX6_step_281 : decode cX6_step 281 = .ok (.ireturn, 1) := by decide +kernel
theorem dX6_match_0 : decode cX6_match 0 = .ok (.bipush 14, 2) := by decide +kernel
theorem dX6_match_2 : decode cX6_match 2 = .ok (.istore_n 3, 1) := by decide +kernel
theorem dX6_match_3 : decode cX6_match 3 = .ok (.aload_n 0, 1) := by decide +kernel
theorem dX6_match_4 : decode cX6_match 4 = .ok (.getfield 68, 3) := by decide +kernel
theorem dX6_match_7 : decode cX6_match 7 = .ok (.iload_n 3, 1) := by decide +kernel
theorem dX6_match_8 : decode cX6_match 8 = .ok (.iconst 0, 1) := by decide +kernel
theorem dX6_match_9 : decode cX6_match 9 = .ok (.iastore, 1) := by decide +kernel
theorem dX6_match_10 : decode cX6_match 10 = .ok (.sipush 302, 3) := by decide +kernel
theorem dX6_match_13 : decode cX6_match 13 = .ok (.iload_n 1, 1) := by decide +kernel
theorem dX6_match_14 : decode cX6_match 14 = .ok (.imul, 1) := by decide +kernel
theorem dX6_match_15 : decode cX6_match 15 = .ok (.istore 4, 2) := by decide +kernel
theorem dX6_match_17 : decode cX6_match 17 = .ok (.iload 4, 2) := by decide +kernel
theorem dX6_match_19 : decode cX6_match 19 = .ok (.aload_n 0, 1) := by decide +kernel
theorem dX6_match_20 : decode cX6_match 20 = .ok (.getfield 68, 3) := by decide +kernel
theorem dX6_match_23 : decode cX6_match 23 = .ok (.iload_n 1, 1) := by decide +kernel
theorem dX6_match_24 : decode cX6_match 24 = .ok (.iaload, 1) := by decide +kernel
theorem dX6_match_25 : decode cX6_match 25 = .ok (.iadd, 1) := by decide +kernel
theorem dX6_match_26 : decode cX6_match 26 = .ok (.istore 5, 2) := by decide +kernel
theorem dX6_match_28 : decode cX6_match 28 = .ok (.iload_n 2, 1) := by decide +kernel
theorem dX6_match_29 : decode cX6_match 29 = .ok (.istore 6, 2) := by decide +kernel
theorem dX6_match_31 : decode cX6_match 31 = .ok (.iload 4, 2) := by decide +kernel
theorem dX6_match_33 : decode cX6_match 33 = .ok (.iload 5, 2) := by decide +kernel
theorem dX6_match_35 : decode cX6_match 35 = .ok (.if_icmp .ge 92, 3) := by decide +kernel
theorem dX6_match_38 : decode cX6_match 38 = .ok (.aload_n 0, 1) := by decide +kernel
theorem dX6_match_39 : decode cX6_match 39 = .ok (.getfield 112, 3) := by decide +kernel
theorem dX6_match_42 : decode cX6_match 42 = .ok (.ifCond .ne 85, 3) := by decide +kernel
theorem dX6_match_45 : decode cX6_match 45 = .ok (.iload_n 2, 1) := by decide +kernel
theorem dX6_match_46 : decode cX6_match 46 = .ok (.ifCond .ne 25, 3) := by decide +kernel
theorem dX6_match_49 : decode cX6_match 49 = .ok (.aload_n 0, 1) := by decide +kernel
theorem dX6_match_50 : decode cX6_match 50 = .ok (.getfield 50, 3) := by decide +kernel
theorem dX6_match_53 : decode cX6_match 53 = .ok (.iload 4, 2) := by decide +kernel
theorem dX6_match_55 : decode cX6_match 55 = .ok (.iaload, 1) := by decide +kernel
theorem dX6_match_56 : decode cX6_match 56 = .ok (.sipush (-3000), 3) := by decide +kernel
theorem dX6_match_59 : decode cX6_match 59 = .ok (.if_icmp .gt 12, 3) := by decide +kernel
theorem dX6_match_62 : decode cX6_match 62 = .ok (.iconst 0, 1) := by decide +kernel
theorem dX6_match_63 : decode cX6_match 63 = .ok (.istore 6, 2) := by decide +kernel
theorem dX6_match_65 : decode cX6_match 65 = .ok (.iinc 4 1, 3) := by decide +kernel
theorem dX6_match_68 : decode cX6_match 68 = .ok (.goto (-37), 3) := by decide +kernel
theorem dX6_match_71 : decode cX6_match 71 = .ok (.iload_n 2, 1) := by decide +kernel
theorem dX6_match_72 : decode cX6_match 72 = .ok (.ifCond .ne 35, 3) := by decide +kernel
theorem dX6_match_75 : decode cX6_match 75 = .ok (.aload_n 0, 1) := by decide +kernel
theorem dX6_match_76 : decode cX6_match 76 = .ok (.getfield 50, 3) := by decide +kernel
theorem dX6_match_79 : decode cX6_match 79 = .ok (.iload 4, 2) := by decide +kernel
theorem dX6_match_81 : decode cX6_match 81 = .ok (.iaload, 1) := by decide +kernel
theorem dX6_match_82 : decode cX6_match 82 = .ok (.sipush (-2000), 3) := by decide +kernel
theorem dX6_match_85 : decode cX6_match 85 = .ok (.if_icmp .ge 22, 3) := by decide +kernel
theorem dX6_match_88 : decode cX6_match 88 = .ok (.sipush (-2000), 3) := by decide +kernel
theorem dX6_match_91 : decode cX6_match 91 = .ok (.aload_n 0, 1) := by decide +kernel
theorem dX6_match_92 : decode cX6_match 92 = .ok (.getfield 50, 3) := by decide +kernel
theorem dX6_match_95 : decode cX6_match 95 = .ok (.iload 4, 2) := by decide +kernel
theorem dX6_match_97 : decode cX6_match 97 = .ok (.iaload, 1) := by decide +kernel
theorem dX6_match_98 : decode cX6_match 98 = .ok (.isub, 1) := by decide +kernel
theorem dX6_match_99 : decode cX6_match 99 = .ok (.istore 6, 2) := by decide +kernel
theorem dX6_match_101 : decode cX6_match 101 = .ok (.iinc 4 1, 3) := by decide +kernel
theorem dX6_match_104 : decode cX6_match 104 = .ok (.goto (-73), 3) := by decide +kernel
theorem dX6_match_107 : decode cX6_match 107 = .ok (.aload_n 0, 1) := by decide +kernel
theorem dX6_match_108 : decode cX6_match 108 = .ok (.iload 6, 2) := by decide +kernel
theorem dX6_match_110 : decode cX6_match 110 = .ok (.iload 4, 2) := by decide +kernel
theorem dX6_match_112 : decode cX6_match 112 = .ok (.iload 5, 2) := by decide +kernel
theorem dX6_match_114 : decode cX6_match 114 = .ok (.iload_n 3, 1) := by decide +kernel
theorem dX6_match_115 : decode cX6_match 115 = .ok (.invokevirtual 143, 3) := by decide +kernel
theorem dX6_match_118 : decode cX6_match 118 = .ok (.istore 7, 2) := by decide +kernel
theorem dX6_match_120 : decode cX6_match 120 = .ok (.iload 7, 2) := by decide +kernel
theorem dX6_match_122 : decode cX6_match 122 = .ok (.istore 4, 2) := by decide +kernel
theorem dX6_match_124 : decode cX6_match 124 = .ok (.goto (-93), 3) := by decide +kernel
theorem dX6_match_127 : decode cX6_match 127 = .ok (.aload_n 0, 1) := by decide +kernel
theorem dX6_match_128 : decode cX6_match 128 = .ok (.getfield 112, 3) := by decide +kernel
theorem dX6_match_131 : decode cX6_match 131 = .ok (.ifCond .eq 4, 3) := by decide +kernel
theorem dX6_match_134 : decode cX6_match 134 = .ok (.return_, 1) := by decide +kernel
theorem dX6_match_135 : decode cX6_match 135 = .ok (.aload_n 0, 1) := by decide +kernel
theorem dX6_match_136 : decode cX6_match 136 = .ok (.getfield 68, 3) := by decide +kernel
theorem dX6_match_139 : decode cX6_match 139 = .ok (.iload_n 1, 1) := by decide +kernel
theorem dX6_match_140 : decode cX6_match 140 = .ok (.iconst 0, 1) := by decide +kernel
theorem dX6_match_141 : decode cX6_match 141 = .ok (.iastore, 1) := by decide +kernel
theorem dX6_match_142 : decode cX6_match 142 = .ok (.iconst 0, 1) := by decide +kernel
theorem dX6_match_143 : decode cX6_match 143 = .ok (.istore 7, 2) := by decide +kernel
theorem dX6_match_145 : decode cX6_match 145 = .ok (.iload 7, 2) := by decide +kernel
theorem dX6_match_147 : decode cX6_match 147 = .ok (.aload_n 0, 1) := by decide +kernel
theorem dX6_match_148 : decode cX6_match 148 = .ok (.getfield 68, 3) := by decide +kernel
theorem dX6_match_151 : decode cX6_match 151 = .ok (.iload_n 3, 1) := by decide +kernel
theorem dX6_match_152 : decode cX6_match 152 = .ok (.iaload, 1) := by decide +kernel
theorem dX6_match_153 : decode cX6_match 153 = .ok (.if_icmp .ge 23, 3) := by decide +kernel
theorem dX6_match_156 : decode cX6_match 156 = .ok (.aload_n 0, 1) := by decide +kernel
theorem dX6_match_157 : decode cX6_match 157 = .ok (.iload_n 1, 1) := by decide +kernel
theorem dX6_match_158 : decode cX6_match 158 = .ok (.sipush 302, 3) := by decide +kernel
theorem dX6_match_161 : decode cX6_match 161 = .ok (.iload_n 3, 1) := by decide +kernel
theorem dX6_match_162 : decode cX6_match 162 = .ok (.imul, 1) := by decide +kernel
theorem dX6_match_163 : decode cX6_match 163 = .ok (.iload 7, 2) := by decide +kernel
theorem dX6_match_165 : decode cX6_match 165 = .ok (.iadd, 1) := by decide +kernel
theorem dX6_match_166 : decode cX6_match 166 = .ok (.invokevirtual 140, 3) := by decide +kernel
theorem dX6_match_169 : decode cX6_match 169 = .ok (.pop, 1) := by decide +kernel
theorem dX6_match_170 : decode cX6_match 170 = .ok (.iinc 7 1, 3) := by decide +kernel
theorem dX6_match_173 : decode cX6_match 173 = .ok (.goto (-28), 3) := by decide +kernel
theorem dX6_match_176 : decode cX6_match 176 = .ok (.return_, 1) := by decide +kernel
theorem dX6_textNamed_0 : decode cX6_textNamed 0 = .ok (.iconst 1, 1) := by decide +kernel
theorem dX6_textNamed_1 : decode cX6_textNamed 1 = .ok (.istore_n 2, 1) := by decide +kernel
theorem dX6_textNamed_2 : decode cX6_textNamed 2 = .ok (.iload_n 2, 1) := by decide +kernel
theorem dX6_textNamed_3 : decode cX6_textNamed 3 = .ok (.aload_n 0, 1) := by decide +kernel
theorem dX6_textNamed_4 : decode cX6_textNamed 4 = .ok (.getfield 88, 3) := by decide +kernel
theorem dX6_textNamed_7 : decode cX6_textNamed 7 = .ok (.if_icmp .gt 19, 3) := by decide +kernel
theorem dX6_textNamed_10 : decode cX6_textNamed 10 = .ok (.aload_n 0, 1) := by decide +kernel
theorem dX6_textNamed_11 : decode cX6_textNamed 11 = .ok (.getfield 7, 3) := by decide +kernel
theorem dX6_textNamed_14 : decode cX6_textNamed 14 = .ok (.iload_n 2, 1) := by decide +kernel
theorem dX6_textNamed_15 : decode cX6_textNamed 15 = .ok (.iaload, 1) := by decide +kernel
theorem dX6_textNamed_16 : decode cX6_textNamed 16 = .ok (.iload_n 1, 1) := by decide +kernel
theorem dX6_textNamed_17 : decode cX6_textNamed 17 = .ok (.if_icmp .eq 9, 3) := by decide +kernel
theorem dX6_textNamed_20 : decode cX6_textNamed 20 = .ok (.iinc 2 1, 3) := by decide +kernel
theorem dX6_textNamed_23 : decode cX6_textNamed 23 = .ok (.goto (-21), 3) := by decide +kernel
